section
-- ===== PART A: goes FIRST, ahead of the names: the tables' words, and 'selects' of the private methods out of them =====
/-- a private method of a class that the tables say can be made, by its rows of tables_1 -/
def lw_okq (q : MethodName × Nat) : Prop := (q.1.cls ≠ "java/lang/invoke/MethodHandle" ∧ q.1.cls ≠ "java/lang/invoke/VarHandle") ∧ Cond.instantiable q.1.cls q.2 ∈ tables_1 ∧ Cond.privateMethod q.1 ∈ tables_1 ∧ Cond.instanceMethod q.1 ∈ tables_1
theorem lw_p0 : lw_okq (⟨"ShakeHands$Teller", "begin", "()V"⟩, 15) := ⟨⟨by decide +kernel, by decide +kernel⟩, List.mem_of_getElem? (i := 44) (by decide +kernel), List.mem_of_getElem? (i := 350) (by decide +kernel), List.mem_of_getElem? (i := 351) (by decide +kernel)⟩
theorem lw_p1 : lw_okq (⟨"ShakeHands$Teller", "readToken", "()V"⟩, 15) := ⟨⟨by decide +kernel, by decide +kernel⟩, List.mem_of_getElem? (i := 44) (by decide +kernel), List.mem_of_getElem? (i := 358) (by decide +kernel), List.mem_of_getElem? (i := 359) (by decide +kernel)⟩
theorem lw_p2 : lw_okq (⟨"ShakeHands$Teller", "isWithin", "(CC)Z"⟩, 15) := ⟨⟨by decide +kernel, by decide +kernel⟩, List.mem_of_getElem? (i := 44) (by decide +kernel), List.mem_of_getElem? (i := 362) (by decide +kernel), List.mem_of_getElem? (i := 363) (by decide +kernel)⟩
theorem lw_p3 : lw_okq (⟨"ShakeHands$Teller", "refuse", "(I)V"⟩, 15) := ⟨⟨by decide +kernel, by decide +kernel⟩, List.mem_of_getElem? (i := 44) (by decide +kernel), List.mem_of_getElem? (i := 366) (by decide +kernel), List.mem_of_getElem? (i := 367) (by decide +kernel)⟩
theorem lw_p4 : lw_okq (⟨"ShakeHands$Teller", "tellLine", "()V"⟩, 15) := ⟨⟨by decide +kernel, by decide +kernel⟩, List.mem_of_getElem? (i := 44) (by decide +kernel), List.mem_of_getElem? (i := 370) (by decide +kernel), List.mem_of_getElem? (i := 371) (by decide +kernel)⟩
theorem lw_p5 : lw_okq (⟨"ShakeHands$Teller", "isCalled", "(Ljava/lang/String;)Z"⟩, 15) := ⟨⟨by decide +kernel, by decide +kernel⟩, List.mem_of_getElem? (i := 44) (by decide +kernel), List.mem_of_getElem? (i := 375) (by decide +kernel), List.mem_of_getElem? (i := 376) (by decide +kernel)⟩
theorem lw_p6 : lw_okq (⟨"ShakeHands$Teller", "tellPeople", "()V"⟩, 15) := ⟨⟨by decide +kernel, by decide +kernel⟩, List.mem_of_getElem? (i := 44) (by decide +kernel), List.mem_of_getElem? (i := 427) (by decide +kernel), List.mem_of_getElem? (i := 428) (by decide +kernel)⟩
theorem lw_p7 : lw_okq (⟨"ShakeHands$Teller", "takeNumber", "(II)I"⟩, 15) := ⟨⟨by decide +kernel, by decide +kernel⟩, List.mem_of_getElem? (i := 44) (by decide +kernel), List.mem_of_getElem? (i := 431) (by decide +kernel), List.mem_of_getElem? (i := 432) (by decide +kernel)⟩
theorem lw_p8 : lw_okq (⟨"ShakeHands$Teller", "boundedValue", "(II)I"⟩, 15) := ⟨⟨by decide +kernel, by decide +kernel⟩, List.mem_of_getElem? (i := 44) (by decide +kernel), List.mem_of_getElem? (i := 435) (by decide +kernel), List.mem_of_getElem? (i := 436) (by decide +kernel)⟩
theorem lw_p9 : lw_okq (⟨"ShakeHands$Teller", "takeSign", "()V"⟩, 15) := ⟨⟨by decide +kernel, by decide +kernel⟩, List.mem_of_getElem? (i := 44) (by decide +kernel), List.mem_of_getElem? (i := 439) (by decide +kernel), List.mem_of_getElem? (i := 440) (by decide +kernel)⟩
theorem lw_p10 : lw_okq (⟨"ShakeHands$Teller", "tellHold", "()V"⟩, 15) := ⟨⟨by decide +kernel, by decide +kernel⟩, List.mem_of_getElem? (i := 44) (by decide +kernel), List.mem_of_getElem? (i := 444) (by decide +kernel), List.mem_of_getElem? (i := 445) (by decide +kernel)⟩
theorem lw_p11 : lw_okq (⟨"ShakeHands$Teller", "tellRow", "()V"⟩, 15) := ⟨⟨by decide +kernel, by decide +kernel⟩, List.mem_of_getElem? (i := 44) (by decide +kernel), List.mem_of_getElem? (i := 449) (by decide +kernel), List.mem_of_getElem? (i := 450) (by decide +kernel)⟩
theorem lw_p12 : lw_okq (⟨"ShakeHands$Teller", "tellThing", "(I)V"⟩, 15) := ⟨⟨by decide +kernel, by decide +kernel⟩, List.mem_of_getElem? (i := 44) (by decide +kernel), List.mem_of_getElem? (i := 461) (by decide +kernel), List.mem_of_getElem? (i := 462) (by decide +kernel)⟩
theorem lw_p13 : lw_okq (⟨"ShakeHands$Teller", "tellJoin", "()V"⟩, 15) := ⟨⟨by decide +kernel, by decide +kernel⟩, List.mem_of_getElem? (i := 44) (by decide +kernel), List.mem_of_getElem? (i := 481) (by decide +kernel), List.mem_of_getElem? (i := 482) (by decide +kernel)⟩
theorem lw_p14 : lw_okq (⟨"ShakeHands$Teller", "tellPair", "([II)I"⟩, 15) := ⟨⟨by decide +kernel, by decide +kernel⟩, List.mem_of_getElem? (i := 44) (by decide +kernel), List.mem_of_getElem? (i := 486) (by decide +kernel), List.mem_of_getElem? (i := 487) (by decide +kernel)⟩
theorem lw_p15 : lw_okq (⟨"ShakeHands$Teller", "tellGlove", "()V"⟩, 15) := ⟨⟨by decide +kernel, by decide +kernel⟩, List.mem_of_getElem? (i := 44) (by decide +kernel), List.mem_of_getElem? (i := 499) (by decide +kernel), List.mem_of_getElem? (i := 500) (by decide +kernel)⟩
def lw_privs_1 : List (MethodName × Nat) := [(⟨"ShakeHands$Teller", "begin", "()V"⟩, 15), (⟨"ShakeHands$Teller", "readToken", "()V"⟩, 15), (⟨"ShakeHands$Teller", "isWithin", "(CC)Z"⟩, 15), (⟨"ShakeHands$Teller", "refuse", "(I)V"⟩, 15), (⟨"ShakeHands$Teller", "tellLine", "()V"⟩, 15), (⟨"ShakeHands$Teller", "isCalled", "(Ljava/lang/String;)Z"⟩, 15), (⟨"ShakeHands$Teller", "tellPeople", "()V"⟩, 15), (⟨"ShakeHands$Teller", "takeNumber", "(II)I"⟩, 15), (⟨"ShakeHands$Teller", "boundedValue", "(II)I"⟩, 15), (⟨"ShakeHands$Teller", "takeSign", "()V"⟩, 15), (⟨"ShakeHands$Teller", "tellHold", "()V"⟩, 15), (⟨"ShakeHands$Teller", "tellRow", "()V"⟩, 15), (⟨"ShakeHands$Teller", "tellThing", "(I)V"⟩, 15), (⟨"ShakeHands$Teller", "tellJoin", "()V"⟩, 15), (⟨"ShakeHands$Teller", "tellPair", "([II)I"⟩, 15), (⟨"ShakeHands$Teller", "tellGlove", "()V"⟩, 15)]
theorem lw_r1 : ∀ q ∈ lw_privs_1, lw_okq q := List.forall_mem_cons.mpr ⟨lw_p0, List.forall_mem_cons.mpr ⟨lw_p1, List.forall_mem_cons.mpr ⟨lw_p2, List.forall_mem_cons.mpr ⟨lw_p3, List.forall_mem_cons.mpr ⟨lw_p4, List.forall_mem_cons.mpr ⟨lw_p5, List.forall_mem_cons.mpr ⟨lw_p6, List.forall_mem_cons.mpr ⟨lw_p7, List.forall_mem_cons.mpr ⟨lw_p8, List.forall_mem_cons.mpr ⟨lw_p9, List.forall_mem_cons.mpr ⟨lw_p10, List.forall_mem_cons.mpr ⟨lw_p11, List.forall_mem_cons.mpr ⟨lw_p12, List.forall_mem_cons.mpr ⟨lw_p13, List.forall_mem_cons.mpr ⟨lw_p14, List.forall_mem_cons.mpr ⟨lw_p15, fun _ h => absurd h List.not_mem_nil⟩⟩⟩⟩⟩⟩⟩⟩⟩⟩⟩⟩⟩⟩⟩⟩
theorem lw_p16 : lw_okq (⟨"ShakeHands$Teller", "lookBack", "()V"⟩, 15) := ⟨⟨by decide +kernel, by decide +kernel⟩, List.mem_of_getElem? (i := 44) (by decide +kernel), List.mem_of_getElem? (i := 503) (by decide +kernel), List.mem_of_getElem? (i := 504) (by decide +kernel)⟩
theorem lw_p17 : lw_okq (⟨"ShakeHands", "isOne", "(I)Z"⟩, 11) := ⟨⟨by decide +kernel, by decide +kernel⟩, List.mem_of_getElem? (i := 19) (by decide +kernel), List.mem_of_getElem? (i := 536) (by decide +kernel), List.mem_of_getElem? (i := 537) (by decide +kernel)⟩
theorem lw_p18 : lw_okq (⟨"ShakeHands", "knowsNow", "(II)Z"⟩, 11) := ⟨⟨by decide +kernel, by decide +kernel⟩, List.mem_of_getElem? (i := 19) (by decide +kernel), List.mem_of_getElem? (i := 567) (by decide +kernel), List.mem_of_getElem? (i := 568) (by decide +kernel)⟩
theorem lw_p19 : lw_okq (⟨"ShakeHands$Circle", "settle", "()V"⟩, 9) := ⟨⟨by decide +kernel, by decide +kernel⟩, List.mem_of_getElem? (i := 50) (by decide +kernel), List.mem_of_getElem? (i := 580) (by decide +kernel), List.mem_of_getElem? (i := 581) (by decide +kernel)⟩
theorem lw_p20 : lw_okq (⟨"ShakeHands$Circle", "firstJoin", "()I"⟩, 9) := ⟨⟨by decide +kernel, by decide +kernel⟩, List.mem_of_getElem? (i := 50) (by decide +kernel), List.mem_of_getElem? (i := 584) (by decide +kernel), List.mem_of_getElem? (i := 585) (by decide +kernel)⟩
theorem lw_p21 : lw_okq (⟨"ShakeHands", "areTwo", "(II)Z"⟩, 11) := ⟨⟨by decide +kernel, by decide +kernel⟩, List.mem_of_getElem? (i := 19) (by decide +kernel), List.mem_of_getElem? (i := 614) (by decide +kernel), List.mem_of_getElem? (i := 615) (by decide +kernel)⟩
theorem lw_p22 : lw_okq (⟨"ShakeHands", "isFeastPart", "(I)Z"⟩, 11) := ⟨⟨by decide +kernel, by decide +kernel⟩, List.mem_of_getElem? (i := 19) (by decide +kernel), List.mem_of_getElem? (i := 636) (by decide +kernel), List.mem_of_getElem? (i := 637) (by decide +kernel)⟩
theorem lw_p23 : lw_okq (⟨"ShakeHands", "takeTrial", "()V"⟩, 11) := ⟨⟨by decide +kernel, by decide +kernel⟩, List.mem_of_getElem? (i := 19) (by decide +kernel), List.mem_of_getElem? (i := 652) (by decide +kernel), List.mem_of_getElem? (i := 653) (by decide +kernel)⟩
theorem lw_p24 : lw_okq (⟨"ShakeHands", "arePeople", "(I)Z"⟩, 11) := ⟨⟨by decide +kernel, by decide +kernel⟩, List.mem_of_getElem? (i := 19) (by decide +kernel), List.mem_of_getElem? (i := 668) (by decide +kernel), List.mem_of_getElem? (i := 669) (by decide +kernel)⟩
theorem lw_p25 : lw_okq (⟨"ShakeHands", "everybody", "()I"⟩, 11) := ⟨⟨by decide +kernel, by decide +kernel⟩, List.mem_of_getElem? (i := 19) (by decide +kernel), List.mem_of_getElem? (i := 672) (by decide +kernel), List.mem_of_getElem? (i := 673) (by decide +kernel)⟩
theorem lw_p26 : lw_okq (⟨"ShakeHands$Search", "isBarred", "([J)Z"⟩, 13) := ⟨⟨by decide +kernel, by decide +kernel⟩, List.mem_of_getElem? (i := 202) (by decide +kernel), List.mem_of_getElem? (i := 689) (by decide +kernel), List.mem_of_getElem? (i := 690) (by decide +kernel)⟩
theorem lw_p27 : lw_okq (⟨"ShakeHands$Search", "amiss", "([J)I"⟩, 13) := ⟨⟨by decide +kernel, by decide +kernel⟩, List.mem_of_getElem? (i := 202) (by decide +kernel), List.mem_of_getElem? (i := 697) (by decide +kernel), List.mem_of_getElem? (i := 698) (by decide +kernel)⟩
theorem lw_p28 : lw_okq (⟨"ShakeHands$Search", "step", "(II)Z"⟩, 13) := ⟨⟨by decide +kernel, by decide +kernel⟩, List.mem_of_getElem? (i := 202) (by decide +kernel), List.mem_of_getElem? (i := 710) (by decide +kernel), List.mem_of_getElem? (i := 711) (by decide +kernel)⟩
theorem lw_p29 : lw_okq (⟨"ShakeHands$Habit", "sameDay", "(I)I"⟩, 4) := ⟨⟨by decide +kernel, by decide +kernel⟩, List.mem_of_getElem? (i := 255) (by decide +kernel), List.mem_of_getElem? (i := 752) (by decide +kernel), List.mem_of_getElem? (i := 753) (by decide +kernel)⟩
theorem lw_p30 : lw_okq (⟨"ShakeHands$Search", "unlikeSeen", "([J)I"⟩, 13) := ⟨⟨by decide +kernel, by decide +kernel⟩, List.mem_of_getElem? (i := 202) (by decide +kernel), List.mem_of_getElem? (i := 781) (by decide +kernel), List.mem_of_getElem? (i := 782) (by decide +kernel)⟩
theorem lw_p31 : lw_okq (⟨"ShakeHands", "fewestGloves", "(II)I"⟩, 11) := ⟨⟨by decide +kernel, by decide +kernel⟩, List.mem_of_getElem? (i := 19) (by decide +kernel), List.mem_of_getElem? (i := 806) (by decide +kernel), List.mem_of_getElem? (i := 807) (by decide +kernel)⟩
def lw_privs_2 : List (MethodName × Nat) := [(⟨"ShakeHands$Teller", "lookBack", "()V"⟩, 15), (⟨"ShakeHands", "isOne", "(I)Z"⟩, 11), (⟨"ShakeHands", "knowsNow", "(II)Z"⟩, 11), (⟨"ShakeHands$Circle", "settle", "()V"⟩, 9), (⟨"ShakeHands$Circle", "firstJoin", "()I"⟩, 9), (⟨"ShakeHands", "areTwo", "(II)Z"⟩, 11), (⟨"ShakeHands", "isFeastPart", "(I)Z"⟩, 11), (⟨"ShakeHands", "takeTrial", "()V"⟩, 11), (⟨"ShakeHands", "arePeople", "(I)Z"⟩, 11), (⟨"ShakeHands", "everybody", "()I"⟩, 11), (⟨"ShakeHands$Search", "isBarred", "([J)Z"⟩, 13), (⟨"ShakeHands$Search", "amiss", "([J)I"⟩, 13), (⟨"ShakeHands$Search", "step", "(II)Z"⟩, 13), (⟨"ShakeHands$Habit", "sameDay", "(I)I"⟩, 4), (⟨"ShakeHands$Search", "unlikeSeen", "([J)I"⟩, 13), (⟨"ShakeHands", "fewestGloves", "(II)I"⟩, 11)]
theorem lw_r2 : ∀ q ∈ lw_privs_2, lw_okq q := List.forall_mem_cons.mpr ⟨lw_p16, List.forall_mem_cons.mpr ⟨lw_p17, List.forall_mem_cons.mpr ⟨lw_p18, List.forall_mem_cons.mpr ⟨lw_p19, List.forall_mem_cons.mpr ⟨lw_p20, List.forall_mem_cons.mpr ⟨lw_p21, List.forall_mem_cons.mpr ⟨lw_p22, List.forall_mem_cons.mpr ⟨lw_p23, List.forall_mem_cons.mpr ⟨lw_p24, List.forall_mem_cons.mpr ⟨lw_p25, List.forall_mem_cons.mpr ⟨lw_p26, List.forall_mem_cons.mpr ⟨lw_p27, List.forall_mem_cons.mpr ⟨lw_p28, List.forall_mem_cons.mpr ⟨lw_p29, List.forall_mem_cons.mpr ⟨lw_p30, List.forall_mem_cons.mpr ⟨lw_p31, fun _ h => absurd h List.not_mem_nil⟩⟩⟩⟩⟩⟩⟩⟩⟩⟩⟩⟩⟩⟩⟩⟩
theorem lw_p32 : lw_okq (⟨"ShakeHands", "knownToAll", "()I"⟩, 11) := ⟨⟨by decide +kernel, by decide +kernel⟩, List.mem_of_getElem? (i := 19) (by decide +kernel), List.mem_of_getElem? (i := 873) (by decide +kernel), List.mem_of_getElem? (i := 874) (by decide +kernel)⟩
theorem lw_p33 : lw_okq (⟨"ShakeHandsModel", "firstDraft", "()V"⟩, 55) := ⟨⟨by decide +kernel, by decide +kernel⟩, List.mem_of_getElem? (i := 878) (by decide +kernel), List.mem_of_getElem? (i := 887) (by decide +kernel), List.mem_of_getElem? (i := 888) (by decide +kernel)⟩
theorem lw_p34 : lw_okq (⟨"ShakeHandsModel", "keepDraft", "()V"⟩, 55) := ⟨⟨by decide +kernel, by decide +kernel⟩, List.mem_of_getElem? (i := 878) (by decide +kernel), List.mem_of_getElem? (i := 891) (by decide +kernel), List.mem_of_getElem? (i := 892) (by decide +kernel)⟩
theorem lw_p35 : lw_okq (⟨"ShakeHandsModel", "next", "()V"⟩, 55) := ⟨⟨by decide +kernel, by decide +kernel⟩, List.mem_of_getElem? (i := 878) (by decide +kernel), List.mem_of_getElem? (i := 1081) (by decide +kernel), List.mem_of_getElem? (i := 1082) (by decide +kernel)⟩
theorem lw_p36 : lw_okq (⟨"ShakeHandsModel", "look", "(I)I"⟩, 55) := ⟨⟨by decide +kernel, by decide +kernel⟩, List.mem_of_getElem? (i := 878) (by decide +kernel), List.mem_of_getElem? (i := 1085) (by decide +kernel), List.mem_of_getElem? (i := 1086) (by decide +kernel)⟩
theorem lw_p37 : lw_okq (⟨"ShakeHandsModel", "needs", "(ZI)V"⟩, 55) := ⟨⟨by decide +kernel, by decide +kernel⟩, List.mem_of_getElem? (i := 878) (by decide +kernel), List.mem_of_getElem? (i := 1093) (by decide +kernel), List.mem_of_getElem? (i := 1094) (by decide +kernel)⟩
theorem lw_p38 : lw_okq (⟨"ShakeHandsModel", "readLine", "()V"⟩, 55) := ⟨⟨by decide +kernel, by decide +kernel⟩, List.mem_of_getElem? (i := 878) (by decide +kernel), List.mem_of_getElem? (i := 1097) (by decide +kernel), List.mem_of_getElem? (i := 1098) (by decide +kernel)⟩
theorem lw_p39 : lw_okq (⟨"ShakeHandsModel", "nameNow", "()I"⟩, 55) := ⟨⟨by decide +kernel, by decide +kernel⟩, List.mem_of_getElem? (i := 878) (by decide +kernel), List.mem_of_getElem? (i := 1101) (by decide +kernel), List.mem_of_getElem? (i := 1102) (by decide +kernel)⟩
theorem lw_p40 : lw_okq (⟨"ShakeHandsModel", "is", "(IIIII)Z"⟩, 55) := ⟨⟨by decide +kernel, by decide +kernel⟩, List.mem_of_getElem? (i := 878) (by decide +kernel), List.mem_of_getElem? (i := 1105) (by decide +kernel), List.mem_of_getElem? (i := 1106) (by decide +kernel)⟩
theorem lw_p41 : lw_okq (⟨"ShakeHandsModel", "readNumber", "(II)I"⟩, 55) := ⟨⟨by decide +kernel, by decide +kernel⟩, List.mem_of_getElem? (i := 878) (by decide +kernel), List.mem_of_getElem? (i := 1109) (by decide +kernel), List.mem_of_getElem? (i := 1110) (by decide +kernel)⟩
theorem lw_p42 : lw_okq (⟨"ShakeHandsModel", "looked", "(II)I"⟩, 55) := ⟨⟨by decide +kernel, by decide +kernel⟩, List.mem_of_getElem? (i := 878) (by decide +kernel), List.mem_of_getElem? (i := 1113) (by decide +kernel), List.mem_of_getElem? (i := 1114) (by decide +kernel)⟩
theorem lw_p43 : lw_okq (⟨"ShakeHandsModel", "readKnows", "()V"⟩, 55) := ⟨⟨by decide +kernel, by decide +kernel⟩, List.mem_of_getElem? (i := 878) (by decide +kernel), List.mem_of_getElem? (i := 1117) (by decide +kernel), List.mem_of_getElem? (i := 1118) (by decide +kernel)⟩
theorem lw_p44 : lw_okq (⟨"ShakeHandsModel", "tells", "(I)V"⟩, 55) := ⟨⟨by decide +kernel, by decide +kernel⟩, List.mem_of_getElem? (i := 878) (by decide +kernel), List.mem_of_getElem? (i := 1121) (by decide +kernel), List.mem_of_getElem? (i := 1122) (by decide +kernel)⟩
theorem lw_p45 : lw_okq (⟨"ShakeHandsModel", "readJoin", "()V"⟩, 55) := ⟨⟨by decide +kernel, by decide +kernel⟩, List.mem_of_getElem? (i := 878) (by decide +kernel), List.mem_of_getElem? (i := 1125) (by decide +kernel), List.mem_of_getElem? (i := 1126) (by decide +kernel)⟩
theorem lw_p46 : lw_okq (⟨"ShakeHandsModel", "readHand", "()I"⟩, 55) := ⟨⟨by decide +kernel, by decide +kernel⟩, List.mem_of_getElem? (i := 878) (by decide +kernel), List.mem_of_getElem? (i := 1129) (by decide +kernel), List.mem_of_getElem? (i := 1130) (by decide +kernel)⟩
theorem lw_p47 : lw_okq (⟨"ShakeHandsModel", "readGlove", "()V"⟩, 55) := ⟨⟨by decide +kernel, by decide +kernel⟩, List.mem_of_getElem? (i := 878) (by decide +kernel), List.mem_of_getElem? (i := 1133) (by decide +kernel), List.mem_of_getElem? (i := 1134) (by decide +kernel)⟩
def lw_privs_3 : List (MethodName × Nat) := [(⟨"ShakeHands", "knownToAll", "()I"⟩, 11), (⟨"ShakeHandsModel", "firstDraft", "()V"⟩, 55), (⟨"ShakeHandsModel", "keepDraft", "()V"⟩, 55), (⟨"ShakeHandsModel", "next", "()V"⟩, 55), (⟨"ShakeHandsModel", "look", "(I)I"⟩, 55), (⟨"ShakeHandsModel", "needs", "(ZI)V"⟩, 55), (⟨"ShakeHandsModel", "readLine", "()V"⟩, 55), (⟨"ShakeHandsModel", "nameNow", "()I"⟩, 55), (⟨"ShakeHandsModel", "is", "(IIIII)Z"⟩, 55), (⟨"ShakeHandsModel", "readNumber", "(II)I"⟩, 55), (⟨"ShakeHandsModel", "looked", "(II)I"⟩, 55), (⟨"ShakeHandsModel", "readKnows", "()V"⟩, 55), (⟨"ShakeHandsModel", "tells", "(I)V"⟩, 55), (⟨"ShakeHandsModel", "readJoin", "()V"⟩, 55), (⟨"ShakeHandsModel", "readHand", "()I"⟩, 55), (⟨"ShakeHandsModel", "readGlove", "()V"⟩, 55)]
theorem lw_r3 : ∀ q ∈ lw_privs_3, lw_okq q := List.forall_mem_cons.mpr ⟨lw_p32, List.forall_mem_cons.mpr ⟨lw_p33, List.forall_mem_cons.mpr ⟨lw_p34, List.forall_mem_cons.mpr ⟨lw_p35, List.forall_mem_cons.mpr ⟨lw_p36, List.forall_mem_cons.mpr ⟨lw_p37, List.forall_mem_cons.mpr ⟨lw_p38, List.forall_mem_cons.mpr ⟨lw_p39, List.forall_mem_cons.mpr ⟨lw_p40, List.forall_mem_cons.mpr ⟨lw_p41, List.forall_mem_cons.mpr ⟨lw_p42, List.forall_mem_cons.mpr ⟨lw_p43, List.forall_mem_cons.mpr ⟨lw_p44, List.forall_mem_cons.mpr ⟨lw_p45, List.forall_mem_cons.mpr ⟨lw_p46, List.forall_mem_cons.mpr ⟨lw_p47, fun _ h => absurd h List.not_mem_nil⟩⟩⟩⟩⟩⟩⟩⟩⟩⟩⟩⟩⟩⟩⟩⟩
theorem lw_p48 : lw_okq (⟨"ShakeHandsModel", "isHeld", "()Z"⟩, 55) := ⟨⟨by decide +kernel, by decide +kernel⟩, List.mem_of_getElem? (i := 878) (by decide +kernel), List.mem_of_getElem? (i := 1137) (by decide +kernel), List.mem_of_getElem? (i := 1138) (by decide +kernel)⟩
theorem lw_p49 : lw_okq (⟨"ShakeHandsModel", "worn", "()I"⟩, 55) := ⟨⟨by decide +kernel, by decide +kernel⟩, List.mem_of_getElem? (i := 878) (by decide +kernel), List.mem_of_getElem? (i := 1149) (by decide +kernel), List.mem_of_getElem? (i := 1150) (by decide +kernel)⟩
theorem lw_p50 : lw_okq (⟨"ShakeHandsModel", "isOne", "(I)Z"⟩, 55) := ⟨⟨by decide +kernel, by decide +kernel⟩, List.mem_of_getElem? (i := 878) (by decide +kernel), List.mem_of_getElem? (i := 1169) (by decide +kernel), List.mem_of_getElem? (i := 1170) (by decide +kernel)⟩
theorem lw_p51 : lw_okq (⟨"ShakeHandsModel", "knowsNow", "(I)I"⟩, 55) := ⟨⟨by decide +kernel, by decide +kernel⟩, List.mem_of_getElem? (i := 878) (by decide +kernel), List.mem_of_getElem? (i := 1173) (by decide +kernel), List.mem_of_getElem? (i := 1174) (by decide +kernel)⟩
theorem lw_p52 : lw_okq (⟨"ShakeHandsModel", "begins", "(I)V"⟩, 55) := ⟨⟨by decide +kernel, by decide +kernel⟩, List.mem_of_getElem? (i := 878) (by decide +kernel), List.mem_of_getElem? (i := 1177) (by decide +kernel), List.mem_of_getElem? (i := 1178) (by decide +kernel)⟩
theorem lw_p53 : lw_okq (⟨"ShakeHandsModel", "knowsIn", "(II)I"⟩, 55) := ⟨⟨by decide +kernel, by decide +kernel⟩, List.mem_of_getElem? (i := 878) (by decide +kernel), List.mem_of_getElem? (i := 1181) (by decide +kernel), List.mem_of_getElem? (i := 1182) (by decide +kernel)⟩
theorem lw_p54 : lw_okq (⟨"ShakeHandsModel", "whoNow", "(I)I"⟩, 55) := ⟨⟨by decide +kernel, by decide +kernel⟩, List.mem_of_getElem? (i := 878) (by decide +kernel), List.mem_of_getElem? (i := 1197) (by decide +kernel), List.mem_of_getElem? (i := 1198) (by decide +kernel)⟩
theorem lw_p55 : lw_okq (⟨"ShakeHandsModel", "whoIn", "(II)I"⟩, 55) := ⟨⟨by decide +kernel, by decide +kernel⟩, List.mem_of_getElem? (i := 878) (by decide +kernel), List.mem_of_getElem? (i := 1201) (by decide +kernel), List.mem_of_getElem? (i := 1202) (by decide +kernel)⟩
theorem lw_p56 : lw_okq (⟨"ShakeHandsModel", "knowsIt", "(II)Z"⟩, 55) := ⟨⟨by decide +kernel, by decide +kernel⟩, List.mem_of_getElem? (i := 878) (by decide +kernel), List.mem_of_getElem? (i := 1209) (by decide +kernel), List.mem_of_getElem? (i := 1210) (by decide +kernel)⟩
theorem lw_p57 : lw_okq (⟨"ShakeHandsModel", "takes", "([II)V"⟩, 55) := ⟨⟨by decide +kernel, by decide +kernel⟩, List.mem_of_getElem? (i := 878) (by decide +kernel), List.mem_of_getElem? (i := 1213) (by decide +kernel), List.mem_of_getElem? (i := 1214) (by decide +kernel)⟩
theorem lw_p58 : lw_okq (⟨"ShakeHandsModel", "adds", "(I)V"⟩, 55) := ⟨⟨by decide +kernel, by decide +kernel⟩, List.mem_of_getElem? (i := 878) (by decide +kernel), List.mem_of_getElem? (i := 1217) (by decide +kernel), List.mem_of_getElem? (i := 1218) (by decide +kernel)⟩
theorem lw_p59 : lw_okq (⟨"ShakeHandsModel", "place", "(I)I"⟩, 55) := ⟨⟨by decide +kernel, by decide +kernel⟩, List.mem_of_getElem? (i := 878) (by decide +kernel), List.mem_of_getElem? (i := 1221) (by decide +kernel), List.mem_of_getElem? (i := 1222) (by decide +kernel)⟩
theorem lw_p60 : lw_okq (⟨"ShakeHandsModel", "settles", "()V"⟩, 55) := ⟨⟨by decide +kernel, by decide +kernel⟩, List.mem_of_getElem? (i := 878) (by decide +kernel), List.mem_of_getElem? (i := 1225) (by decide +kernel), List.mem_of_getElem? (i := 1226) (by decide +kernel)⟩
theorem lw_p61 : lw_okq (⟨"ShakeHandsModel", "drops", "(I)V"⟩, 55) := ⟨⟨by decide +kernel, by decide +kernel⟩, List.mem_of_getElem? (i := 878) (by decide +kernel), List.mem_of_getElem? (i := 1229) (by decide +kernel), List.mem_of_getElem? (i := 1230) (by decide +kernel)⟩
theorem lw_p62 : lw_okq (⟨"ShakeHandsModel", "puts", "([II)V"⟩, 55) := ⟨⟨by decide +kernel, by decide +kernel⟩, List.mem_of_getElem? (i := 878) (by decide +kernel), List.mem_of_getElem? (i := 1233) (by decide +kernel), List.mem_of_getElem? (i := 1234) (by decide +kernel)⟩
theorem lw_p63 : lw_okq (⟨"ShakeHandsModel", "areTwo", "(II)Z"⟩, 55) := ⟨⟨by decide +kernel, by decide +kernel⟩, List.mem_of_getElem? (i := 878) (by decide +kernel), List.mem_of_getElem? (i := 1249) (by decide +kernel), List.mem_of_getElem? (i := 1250) (by decide +kernel)⟩
def lw_privs_4 : List (MethodName × Nat) := [(⟨"ShakeHandsModel", "isHeld", "()Z"⟩, 55), (⟨"ShakeHandsModel", "worn", "()I"⟩, 55), (⟨"ShakeHandsModel", "isOne", "(I)Z"⟩, 55), (⟨"ShakeHandsModel", "knowsNow", "(I)I"⟩, 55), (⟨"ShakeHandsModel", "begins", "(I)V"⟩, 55), (⟨"ShakeHandsModel", "knowsIn", "(II)I"⟩, 55), (⟨"ShakeHandsModel", "whoNow", "(I)I"⟩, 55), (⟨"ShakeHandsModel", "whoIn", "(II)I"⟩, 55), (⟨"ShakeHandsModel", "knowsIt", "(II)Z"⟩, 55), (⟨"ShakeHandsModel", "takes", "([II)V"⟩, 55), (⟨"ShakeHandsModel", "adds", "(I)V"⟩, 55), (⟨"ShakeHandsModel", "place", "(I)I"⟩, 55), (⟨"ShakeHandsModel", "settles", "()V"⟩, 55), (⟨"ShakeHandsModel", "drops", "(I)V"⟩, 55), (⟨"ShakeHandsModel", "puts", "([II)V"⟩, 55), (⟨"ShakeHandsModel", "areTwo", "(II)Z"⟩, 55)]
theorem lw_r4 : ∀ q ∈ lw_privs_4, lw_okq q := List.forall_mem_cons.mpr ⟨lw_p48, List.forall_mem_cons.mpr ⟨lw_p49, List.forall_mem_cons.mpr ⟨lw_p50, List.forall_mem_cons.mpr ⟨lw_p51, List.forall_mem_cons.mpr ⟨lw_p52, List.forall_mem_cons.mpr ⟨lw_p53, List.forall_mem_cons.mpr ⟨lw_p54, List.forall_mem_cons.mpr ⟨lw_p55, List.forall_mem_cons.mpr ⟨lw_p56, List.forall_mem_cons.mpr ⟨lw_p57, List.forall_mem_cons.mpr ⟨lw_p58, List.forall_mem_cons.mpr ⟨lw_p59, List.forall_mem_cons.mpr ⟨lw_p60, List.forall_mem_cons.mpr ⟨lw_p61, List.forall_mem_cons.mpr ⟨lw_p62, List.forall_mem_cons.mpr ⟨lw_p63, fun _ h => absurd h List.not_mem_nil⟩⟩⟩⟩⟩⟩⟩⟩⟩⟩⟩⟩⟩⟩⟩⟩
theorem lw_p64 : lw_okq (⟨"ShakeHandsModel", "shakesNow", "(I)V"⟩, 55) := ⟨⟨by decide +kernel, by decide +kernel⟩, List.mem_of_getElem? (i := 878) (by decide +kernel), List.mem_of_getElem? (i := 1253) (by decide +kernel), List.mem_of_getElem? (i := 1254) (by decide +kernel)⟩
theorem lw_p65 : lw_okq (⟨"ShakeHandsModel", "shakes", "(III)V"⟩, 55) := ⟨⟨by decide +kernel, by decide +kernel⟩, List.mem_of_getElem? (i := 878) (by decide +kernel), List.mem_of_getElem? (i := 1257) (by decide +kernel), List.mem_of_getElem? (i := 1258) (by decide +kernel)⟩
theorem lw_p66 : lw_okq (⟨"ShakeHandsModel", "becomes", "(I)V"⟩, 55) := ⟨⟨by decide +kernel, by decide +kernel⟩, List.mem_of_getElem? (i := 878) (by decide +kernel), List.mem_of_getElem? (i := 1261) (by decide +kernel), List.mem_of_getElem? (i := 1262) (by decide +kernel)⟩
theorem lw_p67 : lw_okq (⟨"ShakeHandsModel", "anyNow", "()I"⟩, 55) := ⟨⟨by decide +kernel, by decide +kernel⟩, List.mem_of_getElem? (i := 878) (by decide +kernel), List.mem_of_getElem? (i := 1269) (by decide +kernel), List.mem_of_getElem? (i := 1270) (by decide +kernel)⟩
theorem lw_p68 : lw_okq (⟨"ShakeHandsModel", "anyIn", "(I)I"⟩, 55) := ⟨⟨by decide +kernel, by decide +kernel⟩, List.mem_of_getElem? (i := 878) (by decide +kernel), List.mem_of_getElem? (i := 1273) (by decide +kernel), List.mem_of_getElem? (i := 1274) (by decide +kernel)⟩
theorem lw_p69 : lw_okq (⟨"ShakeHandsModel", "feasts", "(II)V"⟩, 55) := ⟨⟨by decide +kernel, by decide +kernel⟩, List.mem_of_getElem? (i := 878) (by decide +kernel), List.mem_of_getElem? (i := 1277) (by decide +kernel), List.mem_of_getElem? (i := 1278) (by decide +kernel)⟩
theorem lw_p70 : lw_okq (⟨"ShakeHandsModel", "areOnes", "(I)Z"⟩, 55) := ⟨⟨by decide +kernel, by decide +kernel⟩, List.mem_of_getElem? (i := 878) (by decide +kernel), List.mem_of_getElem? (i := 1297) (by decide +kernel), List.mem_of_getElem? (i := 1298) (by decide +kernel)⟩
theorem lw_p71 : lw_okq (⟨"ShakeHandsModel", "asks", "(IIII)V"⟩, 55) := ⟨⟨by decide +kernel, by decide +kernel⟩, List.mem_of_getElem? (i := 878) (by decide +kernel), List.mem_of_getElem? (i := 1303) (by decide +kernel), List.mem_of_getElem? (i := 1304) (by decide +kernel)⟩
theorem lw_p72 : lw_okq (⟨"ShakeHandsModel", "fewestHands", "()I"⟩, 55) := ⟨⟨by decide +kernel, by decide +kernel⟩, List.mem_of_getElem? (i := 878) (by decide +kernel), List.mem_of_getElem? (i := 1307) (by decide +kernel), List.mem_of_getElem? (i := 1308) (by decide +kernel)⟩
theorem lw_p73 : lw_okq (⟨"ShakeHandsModel", "layRows", "(IZ)I"⟩, 55) := ⟨⟨by decide +kernel, by decide +kernel⟩, List.mem_of_getElem? (i := 878) (by decide +kernel), List.mem_of_getElem? (i := 1311) (by decide +kernel), List.mem_of_getElem? (i := 1312) (by decide +kernel)⟩
theorem lw_p74 : lw_okq (⟨"ShakeHandsModel", "isStill", "(I)Z"⟩, 55) := ⟨⟨by decide +kernel, by decide +kernel⟩, List.mem_of_getElem? (i := 878) (by decide +kernel), List.mem_of_getElem? (i := 1315) (by decide +kernel), List.mem_of_getElem? (i := 1316) (by decide +kernel)⟩
theorem lw_p75 : lw_okq (⟨"ShakeHandsModel", "isGood", "(I)Z"⟩, 55) := ⟨⟨by decide +kernel, by decide +kernel⟩, List.mem_of_getElem? (i := 878) (by decide +kernel), List.mem_of_getElem? (i := 1319) (by decide +kernel), List.mem_of_getElem? (i := 1320) (by decide +kernel)⟩
theorem lw_p76 : lw_okq (⟨"ShakeHandsModel", "isSeen", "(I)Z"⟩, 55) := ⟨⟨by decide +kernel, by decide +kernel⟩, List.mem_of_getElem? (i := 878) (by decide +kernel), List.mem_of_getElem? (i := 1323) (by decide +kernel), List.mem_of_getElem? (i := 1324) (by decide +kernel)⟩
theorem lw_p77 : lw_okq (⟨"ShakeHandsModel", "aRow", "(I)V"⟩, 55) := ⟨⟨by decide +kernel, by decide +kernel⟩, List.mem_of_getElem? (i := 878) (by decide +kernel), List.mem_of_getElem? (i := 1327) (by decide +kernel), List.mem_of_getElem? (i := 1328) (by decide +kernel)⟩
theorem lw_p78 : lw_okq (⟨"ShakeHandsModel", "freeFrom", "(I)I"⟩, 55) := ⟨⟨by decide +kernel, by decide +kernel⟩, List.mem_of_getElem? (i := 878) (by decide +kernel), List.mem_of_getElem? (i := 1331) (by decide +kernel), List.mem_of_getElem? (i := 1332) (by decide +kernel)⟩
theorem lw_p79 : lw_okq (⟨"ShakeHandsModel", "isFreePair", "(I)Z"⟩, 55) := ⟨⟨by decide +kernel, by decide +kernel⟩, List.mem_of_getElem? (i := 878) (by decide +kernel), List.mem_of_getElem? (i := 1335) (by decide +kernel), List.mem_of_getElem? (i := 1336) (by decide +kernel)⟩
def lw_privs_5 : List (MethodName × Nat) := [(⟨"ShakeHandsModel", "shakesNow", "(I)V"⟩, 55), (⟨"ShakeHandsModel", "shakes", "(III)V"⟩, 55), (⟨"ShakeHandsModel", "becomes", "(I)V"⟩, 55), (⟨"ShakeHandsModel", "anyNow", "()I"⟩, 55), (⟨"ShakeHandsModel", "anyIn", "(I)I"⟩, 55), (⟨"ShakeHandsModel", "feasts", "(II)V"⟩, 55), (⟨"ShakeHandsModel", "areOnes", "(I)Z"⟩, 55), (⟨"ShakeHandsModel", "asks", "(IIII)V"⟩, 55), (⟨"ShakeHandsModel", "fewestHands", "()I"⟩, 55), (⟨"ShakeHandsModel", "layRows", "(IZ)I"⟩, 55), (⟨"ShakeHandsModel", "isStill", "(I)Z"⟩, 55), (⟨"ShakeHandsModel", "isGood", "(I)Z"⟩, 55), (⟨"ShakeHandsModel", "isSeen", "(I)Z"⟩, 55), (⟨"ShakeHandsModel", "aRow", "(I)V"⟩, 55), (⟨"ShakeHandsModel", "freeFrom", "(I)I"⟩, 55), (⟨"ShakeHandsModel", "isFreePair", "(I)Z"⟩, 55)]
theorem lw_r5 : ∀ q ∈ lw_privs_5, lw_okq q := List.forall_mem_cons.mpr ⟨lw_p64, List.forall_mem_cons.mpr ⟨lw_p65, List.forall_mem_cons.mpr ⟨lw_p66, List.forall_mem_cons.mpr ⟨lw_p67, List.forall_mem_cons.mpr ⟨lw_p68, List.forall_mem_cons.mpr ⟨lw_p69, List.forall_mem_cons.mpr ⟨lw_p70, List.forall_mem_cons.mpr ⟨lw_p71, List.forall_mem_cons.mpr ⟨lw_p72, List.forall_mem_cons.mpr ⟨lw_p73, List.forall_mem_cons.mpr ⟨lw_p74, List.forall_mem_cons.mpr ⟨lw_p75, List.forall_mem_cons.mpr ⟨lw_p76, List.forall_mem_cons.mpr ⟨lw_p77, List.forall_mem_cons.mpr ⟨lw_p78, List.forall_mem_cons.mpr ⟨lw_p79, fun _ h => absurd h List.not_mem_nil⟩⟩⟩⟩⟩⟩⟩⟩⟩⟩⟩⟩⟩⟩⟩⟩
theorem lw_p80 : lw_okq (⟨"ShakeHandsModel", "copies", "(II)V"⟩, 55) := ⟨⟨by decide +kernel, by decide +kernel⟩, List.mem_of_getElem? (i := 878) (by decide +kernel), List.mem_of_getElem? (i := 1339) (by decide +kernel), List.mem_of_getElem? (i := 1340) (by decide +kernel)⟩
theorem lw_p81 : lw_okq (⟨"ShakeHandsModel", "layRounds", "()V"⟩, 55) := ⟨⟨by decide +kernel, by decide +kernel⟩, List.mem_of_getElem? (i := 878) (by decide +kernel), List.mem_of_getElem? (i := 1347) (by decide +kernel), List.mem_of_getElem? (i := 1348) (by decide +kernel)⟩
theorem lw_p82 : lw_okq (⟨"ShakeHandsModel", "isRound", "(I)Z"⟩, 55) := ⟨⟨by decide +kernel, by decide +kernel⟩, List.mem_of_getElem? (i := 878) (by decide +kernel), List.mem_of_getElem? (i := 1352) (by decide +kernel), List.mem_of_getElem? (i := 1353) (by decide +kernel)⟩
theorem lw_p83 : lw_okq (⟨"ShakeHandsModel", "goesRound", "(II)V"⟩, 55) := ⟨⟨by decide +kernel, by decide +kernel⟩, List.mem_of_getElem? (i := 878) (by decide +kernel), List.mem_of_getElem? (i := 1356) (by decide +kernel), List.mem_of_getElem? (i := 1357) (by decide +kernel)⟩
theorem lw_p84 : lw_okq (⟨"ShakeHandsModel", "aDay", "(I)V"⟩, 55) := ⟨⟨by decide +kernel, by decide +kernel⟩, List.mem_of_getElem? (i := 878) (by decide +kernel), List.mem_of_getElem? (i := 1368) (by decide +kernel), List.mem_of_getElem? (i := 1369) (by decide +kernel)⟩
theorem lw_p85 : lw_okq (⟨"ShakeHandsModel", "notes", "(I)V"⟩, 55) := ⟨⟨by decide +kernel, by decide +kernel⟩, List.mem_of_getElem? (i := 878) (by decide +kernel), List.mem_of_getElem? (i := 1376) (by decide +kernel), List.mem_of_getElem? (i := 1377) (by decide +kernel)⟩
theorem lw_p86 : lw_okq (⟨"ShakeHandsModel", "isAs", "(II)Z"⟩, 55) := ⟨⟨by decide +kernel, by decide +kernel⟩, List.mem_of_getElem? (i := 878) (by decide +kernel), List.mem_of_getElem? (i := 1381) (by decide +kernel), List.mem_of_getElem? (i := 1382) (by decide +kernel)⟩
theorem lw_p87 : lw_okq (⟨"ShakeHandsModel", "seen", "()I"⟩, 55) := ⟨⟨by decide +kernel, by decide +kernel⟩, List.mem_of_getElem? (i := 878) (by decide +kernel), List.mem_of_getElem? (i := 1395) (by decide +kernel), List.mem_of_getElem? (i := 1396) (by decide +kernel)⟩
theorem lw_p88 : lw_okq (⟨"ShakeHandsModel", "sits", "(I)V"⟩, 55) := ⟨⟨by decide +kernel, by decide +kernel⟩, List.mem_of_getElem? (i := 878) (by decide +kernel), List.mem_of_getElem? (i := 1416) (by decide +kernel), List.mem_of_getElem? (i := 1417) (by decide +kernel)⟩
def lw_privs_6 : List (MethodName × Nat) := [(⟨"ShakeHandsModel", "copies", "(II)V"⟩, 55), (⟨"ShakeHandsModel", "layRounds", "()V"⟩, 55), (⟨"ShakeHandsModel", "isRound", "(I)Z"⟩, 55), (⟨"ShakeHandsModel", "goesRound", "(II)V"⟩, 55), (⟨"ShakeHandsModel", "aDay", "(I)V"⟩, 55), (⟨"ShakeHandsModel", "notes", "(I)V"⟩, 55), (⟨"ShakeHandsModel", "isAs", "(II)Z"⟩, 55), (⟨"ShakeHandsModel", "seen", "()I"⟩, 55), (⟨"ShakeHandsModel", "sits", "(I)V"⟩, 55)]
theorem lw_r6 : ∀ q ∈ lw_privs_6, lw_okq q := List.forall_mem_cons.mpr ⟨lw_p80, List.forall_mem_cons.mpr ⟨lw_p81, List.forall_mem_cons.mpr ⟨lw_p82, List.forall_mem_cons.mpr ⟨lw_p83, List.forall_mem_cons.mpr ⟨lw_p84, List.forall_mem_cons.mpr ⟨lw_p85, List.forall_mem_cons.mpr ⟨lw_p86, List.forall_mem_cons.mpr ⟨lw_p87, List.forall_mem_cons.mpr ⟨lw_p88, fun _ h => absurd h List.not_mem_nil⟩⟩⟩⟩⟩⟩⟩⟩⟩
def lw_privs : List (MethodName × Nat) := lw_privs_1 ++ (lw_privs_2 ++ (lw_privs_3 ++ (lw_privs_4 ++ (lw_privs_5 ++ (lw_privs_6)))))
def lw_tbl : List Cond := k2_sels lw_privs ++ tables_1
theorem lw_privs_ok : ∀ q ∈ lw_privs, lw_okq q := by
  show ∀ q ∈ lw_privs_1 ++ (lw_privs_2 ++ (lw_privs_3 ++ (lw_privs_4 ++ (lw_privs_5 ++ (lw_privs_6))))), lw_okq q
  exact List.forall_mem_append.mpr ⟨lw_r1, List.forall_mem_append.mpr ⟨lw_r2, List.forall_mem_append.mpr ⟨lw_r3, List.forall_mem_append.mpr ⟨lw_r4, List.forall_mem_append.mpr ⟨lw_r5, lw_r6⟩⟩⟩⟩⟩
end
section
/-! the tables' words that any method may take along -/
def tbl : List Cond := lw_tbl.filter goodWord
theorem tbl_good : GoodIn tbl tbl := fun w h => ⟨h, good_of_word (List.mem_filter.mp h).2⟩
theorem tbl_in {w : Cond} (i : Nat) (h : tables_1[i]? = some w) (g : goodWord w = true) : w ∈ tbl := List.mem_filter.mpr ⟨List.mem_append_right _ (List.mem_of_getElem? h), g⟩
theorem tbl_sel {w : Cond} (i : Nat) (h : (k2_sels lw_privs)[i]? = some w) (g : goodWord w = true) : w ∈ tbl := List.mem_filter.mpr ⟨List.mem_append_left _ (List.mem_of_getElem? h), g⟩
end
section
/-! NAMES: classes, fields, methods; words of the tables by their places (written by wip/gen/names.py) -/
def R_Circle : String := "ShakeHands$Circle"
def F_Circle : u_T := fun k => match k with
  | 0 => ("ShakeHands$Circle", "people", "I", false)
  | 1 => ("ShakeHands$Circle", "hold", "I", false)
  | 2 => ("ShakeHands$Circle", "joins", "[I", true)
  | 3 => ("ShakeHands$Circle", "joinCount", "I", false)
  | 4 => ("ShakeHands$Circle", "hands", "[I", true)
  | 5 => ("ShakeHands$Circle", "handCount", "I", false)
  | 6 => ("ShakeHands$Circle", "daily", "[I", true)
  | 7 => ("ShakeHands$Circle", "dailyCount", "I", false)
  | _ => ("ShakeHands$Circle", "making", "LShakeHands$Row;", true)
def t_Circle : Nat → FieldType := fun k => match k with
  | 0 => .int
  | 1 => .int
  | 2 => .array .int
  | 3 => .int
  | 4 => .array .int
  | 5 => .int
  | 6 => .array .int
  | 7 => .int
  | _ => .object "ShakeHands$Row"
theorem n_Circle : ∀ a, a < 9 → ∀ b, b < 9 → a ≠ b → (F_Circle a).2.1 ≠ (F_Circle b).2.1 := by decide +kernel
theorem t_Circle_ok : ∀ k, k < 9 → parseFieldDescriptor (F_Circle k).2.2.1 = some (t_Circle k) := by decide +kernel
theorem l_Circle_0 : u_lay R_Circle F_Circle 0 ∈ tbl := tbl_in 97 (by decide +kernel) rfl
theorem l_Circle_1 : u_lay R_Circle F_Circle 1 ∈ tbl := tbl_in 99 (by decide +kernel) rfl
theorem l_Circle_2 : u_lay R_Circle F_Circle 2 ∈ tbl := tbl_in 101 (by decide +kernel) rfl
theorem l_Circle_3 : u_lay R_Circle F_Circle 3 ∈ tbl := tbl_in 103 (by decide +kernel) rfl
theorem l_Circle_4 : u_lay R_Circle F_Circle 4 ∈ tbl := tbl_in 105 (by decide +kernel) rfl
theorem l_Circle_5 : u_lay R_Circle F_Circle 5 ∈ tbl := tbl_in 107 (by decide +kernel) rfl
theorem l_Circle_6 : u_lay R_Circle F_Circle 6 ∈ tbl := tbl_in 109 (by decide +kernel) rfl
theorem l_Circle_7 : u_lay R_Circle F_Circle 7 ∈ tbl := tbl_in 111 (by decide +kernel) rfl
theorem l_Circle_8 : u_lay R_Circle F_Circle 8 ∈ tbl := tbl_in 113 (by decide +kernel) rfl
theorem i_Circle : ∀ w ∈ u_ws R_Circle F_Circle 9, w ∈ tbl := by
  intro w hw
  obtain ⟨k, hk, rfl⟩ := List.mem_map.mp hw
  have hk := List.mem_range.mp hk
  match k, hk with
  | 0, _ => exact l_Circle_0
  | 1, _ => exact l_Circle_1
  | 2, _ => exact l_Circle_2
  | 3, _ => exact l_Circle_3
  | 4, _ => exact l_Circle_4
  | 5, _ => exact l_Circle_5
  | 6, _ => exact l_Circle_6
  | 7, _ => exact l_Circle_7
  | 8, _ => exact l_Circle_8
  | k + 9, h => exact absurd h (by omega)
theorem in_Circle : Cond.instantiable R_Circle 9 ∈ tbl := tbl_in 50 (by decide +kernel) rfl
def R_Habit : String := "ShakeHands$Habit"
def F_Habit : u_T := fun k => match k with
  | 0 => ("ShakeHands$Habit", "past", "[J", true)
  | 1 => ("ShakeHands$Habit", "rows", "[J", true)
  | 2 => ("ShakeHands$Habit", "circle", "LShakeHands$Circle;", true)
  | _ => ("ShakeHands$Habit", "minds", "LShakeHands$Minds;", true)
def t_Habit : Nat → FieldType := fun k => match k with
  | 0 => .array .long
  | 1 => .array .long
  | 2 => .object "ShakeHands$Circle"
  | _ => .object "ShakeHands$Minds"
theorem n_Habit : ∀ a, a < 4 → ∀ b, b < 4 → a ≠ b → (F_Habit a).2.1 ≠ (F_Habit b).2.1 := by decide +kernel
theorem t_Habit_ok : ∀ k, k < 4 → parseFieldDescriptor (F_Habit k).2.2.1 = some (t_Habit k) := by decide +kernel
theorem l_Habit_0 : u_lay R_Habit F_Habit 0 ∈ tbl := tbl_in 264 (by decide +kernel) rfl
theorem l_Habit_1 : u_lay R_Habit F_Habit 1 ∈ tbl := tbl_in 266 (by decide +kernel) rfl
theorem l_Habit_2 : u_lay R_Habit F_Habit 2 ∈ tbl := tbl_in 268 (by decide +kernel) rfl
theorem l_Habit_3 : u_lay R_Habit F_Habit 3 ∈ tbl := tbl_in 270 (by decide +kernel) rfl
theorem i_Habit : ∀ w ∈ u_ws R_Habit F_Habit 4, w ∈ tbl := by
  intro w hw
  obtain ⟨k, hk, rfl⟩ := List.mem_map.mp hw
  have hk := List.mem_range.mp hk
  match k, hk with
  | 0, _ => exact l_Habit_0
  | 1, _ => exact l_Habit_1
  | 2, _ => exact l_Habit_2
  | 3, _ => exact l_Habit_3
  | k + 4, h => exact absurd h (by omega)
theorem in_Habit : Cond.instantiable R_Habit 4 ∈ tbl := tbl_in 255 (by decide +kernel) rfl
def R_Minds : String := "ShakeHands$Minds"
def F_Minds : u_T := fun k => match k with
  | 0 => ("ShakeHands$Minds", "rows", "[J", true)
  | 1 => ("ShakeHands$Minds", "gloved", "I", false)
  | 2 => ("ShakeHands$Minds", "seen", "I", false)
  | _ => ("ShakeHands$Minds", "sights", "[I", true)
def t_Minds : Nat → FieldType := fun k => match k with
  | 0 => .array .long
  | 1 => .int
  | 2 => .int
  | _ => .array .int
theorem n_Minds : ∀ a, a < 4 → ∀ b, b < 4 → a ≠ b → (F_Minds a).2.1 ≠ (F_Minds b).2.1 := by decide +kernel
theorem t_Minds_ok : ∀ k, k < 4 → parseFieldDescriptor (F_Minds k).2.2.1 = some (t_Minds k) := by decide +kernel
theorem l_Minds_0 : u_lay R_Minds F_Minds 0 ∈ tbl := tbl_in 191 (by decide +kernel) rfl
theorem l_Minds_1 : u_lay R_Minds F_Minds 1 ∈ tbl := tbl_in 193 (by decide +kernel) rfl
theorem l_Minds_2 : u_lay R_Minds F_Minds 2 ∈ tbl := tbl_in 195 (by decide +kernel) rfl
theorem l_Minds_3 : u_lay R_Minds F_Minds 3 ∈ tbl := tbl_in 197 (by decide +kernel) rfl
theorem i_Minds : ∀ w ∈ u_ws R_Minds F_Minds 4, w ∈ tbl := by
  intro w hw
  obtain ⟨k, hk, rfl⟩ := List.mem_map.mp hw
  have hk := List.mem_range.mp hk
  match k, hk with
  | 0, _ => exact l_Minds_0
  | 1, _ => exact l_Minds_1
  | 2, _ => exact l_Minds_2
  | 3, _ => exact l_Minds_3
  | k + 4, h => exact absurd h (by omega)
theorem in_Minds : Cond.instantiable R_Minds 4 ∈ tbl := tbl_in 172 (by decide +kernel) rfl
def R_Row : String := "ShakeHands$Row"
def F_Row : u_T := fun k => match k with
  | 0 => ("ShakeHands$Row", "order", "J", false)
  | _ => ("ShakeHands$Row", "known", "I", false)
def t_Row : Nat → FieldType := fun k => match k with
  | 0 => .long
  | _ => .int
theorem n_Row : ∀ a, a < 2 → ∀ b, b < 2 → a ≠ b → (F_Row a).2.1 ≠ (F_Row b).2.1 := by decide +kernel
theorem t_Row_ok : ∀ k, k < 2 → parseFieldDescriptor (F_Row k).2.2.1 = some (t_Row k) := by decide +kernel
theorem l_Row_0 : u_lay R_Row F_Row 0 ∈ tbl := tbl_in 65 (by decide +kernel) rfl
theorem l_Row_1 : u_lay R_Row F_Row 1 ∈ tbl := tbl_in 67 (by decide +kernel) rfl
theorem i_Row : ∀ w ∈ u_ws R_Row F_Row 2, w ∈ tbl := by
  intro w hw
  obtain ⟨k, hk, rfl⟩ := List.mem_map.mp hw
  have hk := List.mem_range.mp hk
  match k, hk with
  | 0, _ => exact l_Row_0
  | 1, _ => exact l_Row_1
  | k + 2, h => exact absurd h (by omega)
theorem in_Row : Cond.instantiable R_Row 2 ∈ tbl := tbl_in 56 (by decide +kernel) rfl
def R_Search : String := "ShakeHands$Search"
def F_Search : u_T := fun k => match k with
  | 0 => ("ShakeHands$Search", "path", "[I", true)
  | 1 => ("ShakeHands$Search", "firstWay", "[I", true)
  | 2 => ("ShakeHands$Search", "ways", "I", false)
  | 3 => ("ShakeHands$Search", "inEach", "I", false)
  | 4 => ("ShakeHands$Search", "inAny", "I", false)
  | 5 => ("ShakeHands$Search", "level", "[[J", true)
  | 6 => ("ShakeHands$Search", "circle", "LShakeHands$Circle;", true)
  | 7 => ("ShakeHands$Search", "minds", "LShakeHands$Minds;", true)
  | 8 => ("ShakeHands$Search", "pairs", "I", false)
  | 9 => ("ShakeHands$Search", "thing", "I", false)
  | 10 => ("ShakeHands$Search", "want", "I", false)
  | 11 => ("ShakeHands$Search", "shun", "I", false)
  | _ => ("ShakeHands$Search", "never", "I", false)
def t_Search : Nat → FieldType := fun k => match k with
  | 0 => .array .int
  | 1 => .array .int
  | 2 => .int
  | 3 => .int
  | 4 => .int
  | 5 => .array (.array .long)
  | 6 => .object "ShakeHands$Circle"
  | 7 => .object "ShakeHands$Minds"
  | 8 => .int
  | 9 => .int
  | 10 => .int
  | 11 => .int
  | _ => .int
theorem n_Search : ∀ a, a < 13 → ∀ b, b < 13 → a ≠ b → (F_Search a).2.1 ≠ (F_Search b).2.1 := by decide +kernel
theorem t_Search_ok : ∀ k, k < 13 → parseFieldDescriptor (F_Search k).2.2.1 = some (t_Search k) := by decide +kernel
theorem l_Search_0 : u_lay R_Search F_Search 0 ∈ tbl := tbl_in 227 (by decide +kernel) rfl
theorem l_Search_1 : u_lay R_Search F_Search 1 ∈ tbl := tbl_in 229 (by decide +kernel) rfl
theorem l_Search_2 : u_lay R_Search F_Search 2 ∈ tbl := tbl_in 231 (by decide +kernel) rfl
theorem l_Search_3 : u_lay R_Search F_Search 3 ∈ tbl := tbl_in 233 (by decide +kernel) rfl
theorem l_Search_4 : u_lay R_Search F_Search 4 ∈ tbl := tbl_in 235 (by decide +kernel) rfl
theorem l_Search_5 : u_lay R_Search F_Search 5 ∈ tbl := tbl_in 237 (by decide +kernel) rfl
theorem l_Search_6 : u_lay R_Search F_Search 6 ∈ tbl := tbl_in 239 (by decide +kernel) rfl
theorem l_Search_7 : u_lay R_Search F_Search 7 ∈ tbl := tbl_in 241 (by decide +kernel) rfl
theorem l_Search_8 : u_lay R_Search F_Search 8 ∈ tbl := tbl_in 243 (by decide +kernel) rfl
theorem l_Search_9 : u_lay R_Search F_Search 9 ∈ tbl := tbl_in 245 (by decide +kernel) rfl
theorem l_Search_10 : u_lay R_Search F_Search 10 ∈ tbl := tbl_in 247 (by decide +kernel) rfl
theorem l_Search_11 : u_lay R_Search F_Search 11 ∈ tbl := tbl_in 249 (by decide +kernel) rfl
theorem l_Search_12 : u_lay R_Search F_Search 12 ∈ tbl := tbl_in 251 (by decide +kernel) rfl
theorem i_Search : ∀ w ∈ u_ws R_Search F_Search 13, w ∈ tbl := by
  intro w hw
  obtain ⟨k, hk, rfl⟩ := List.mem_map.mp hw
  have hk := List.mem_range.mp hk
  match k, hk with
  | 0, _ => exact l_Search_0
  | 1, _ => exact l_Search_1
  | 2, _ => exact l_Search_2
  | 3, _ => exact l_Search_3
  | 4, _ => exact l_Search_4
  | 5, _ => exact l_Search_5
  | 6, _ => exact l_Search_6
  | 7, _ => exact l_Search_7
  | 8, _ => exact l_Search_8
  | 9, _ => exact l_Search_9
  | 10, _ => exact l_Search_10
  | 11, _ => exact l_Search_11
  | 12, _ => exact l_Search_12
  | k + 13, h => exact absurd h (by omega)
theorem in_Search : Cond.instantiable R_Search 13 ∈ tbl := tbl_in 202 (by decide +kernel) rfl
def R_Sheet : String := "ShakeHands$Sheet"
def F_Sheet : u_T := fun k => match k with
  | 0 => ("ShakeHands$Sheet", "isThere", "Z", false)
  | 1 => ("ShakeHands$Sheet", "size", "I", false)
  | 2 => ("ShakeHands$Sheet", "lane", "I", false)
  | _ => ("ShakeHands$Sheet", "cells", "[I", true)
def t_Sheet : Nat → FieldType := fun k => match k with
  | 0 => .boolean
  | 1 => .int
  | 2 => .int
  | _ => .array .int
theorem n_Sheet : ∀ a, a < 4 → ∀ b, b < 4 → a ≠ b → (F_Sheet a).2.1 ≠ (F_Sheet b).2.1 := by decide +kernel
theorem t_Sheet_ok : ∀ k, k < 4 → parseFieldDescriptor (F_Sheet k).2.2.1 = some (t_Sheet k) := by decide +kernel
theorem l_Sheet_0 : u_lay R_Sheet F_Sheet 0 ∈ tbl := tbl_in 286 (by decide +kernel) rfl
theorem l_Sheet_1 : u_lay R_Sheet F_Sheet 1 ∈ tbl := tbl_in 288 (by decide +kernel) rfl
theorem l_Sheet_2 : u_lay R_Sheet F_Sheet 2 ∈ tbl := tbl_in 290 (by decide +kernel) rfl
theorem l_Sheet_3 : u_lay R_Sheet F_Sheet 3 ∈ tbl := tbl_in 292 (by decide +kernel) rfl
theorem i_Sheet : ∀ w ∈ u_ws R_Sheet F_Sheet 4, w ∈ tbl := by
  intro w hw
  obtain ⟨k, hk, rfl⟩ := List.mem_map.mp hw
  have hk := List.mem_range.mp hk
  match k, hk with
  | 0, _ => exact l_Sheet_0
  | 1, _ => exact l_Sheet_1
  | 2, _ => exact l_Sheet_2
  | 3, _ => exact l_Sheet_3
  | k + 4, h => exact absurd h (by omega)
theorem in_Sheet : Cond.instantiable R_Sheet 4 ∈ tbl := tbl_in 275 (by decide +kernel) rfl
def R_Tape : String := "ShakeHands$Tape"
def F_Tape : u_T := fun k => match k with
  | 0 => ("ShakeHands$Tape", "bytes", "[B", true)
  | _ => ("ShakeHands$Tape", "length", "I", false)
def t_Tape : Nat → FieldType := fun k => match k with
  | 0 => .array .byte
  | _ => .int
theorem n_Tape : ∀ a, a < 2 → ∀ b, b < 2 → a ≠ b → (F_Tape a).2.1 ≠ (F_Tape b).2.1 := by decide +kernel
theorem t_Tape_ok : ∀ k, k < 2 → parseFieldDescriptor (F_Tape k).2.2.1 = some (t_Tape k) := by decide +kernel
theorem l_Tape_0 : u_lay R_Tape F_Tape 0 ∈ tbl := tbl_in 37 (by decide +kernel) rfl
theorem l_Tape_1 : u_lay R_Tape F_Tape 1 ∈ tbl := tbl_in 39 (by decide +kernel) rfl
theorem i_Tape : ∀ w ∈ u_ws R_Tape F_Tape 2, w ∈ tbl := by
  intro w hw
  obtain ⟨k, hk, rfl⟩ := List.mem_map.mp hw
  have hk := List.mem_range.mp hk
  match k, hk with
  | 0, _ => exact l_Tape_0
  | 1, _ => exact l_Tape_1
  | k + 2, h => exact absurd h (by omega)
theorem in_Tape : Cond.instantiable R_Tape 2 ∈ tbl := tbl_in 27 (by decide +kernel) rfl
def R_Teller : String := "ShakeHands$Teller"
def F_Teller : u_T := fun k => match k with
  | 0 => ("ShakeHands$Teller", "circle", "LShakeHands$Circle;", true)
  | 1 => ("ShakeHands$Teller", "rows", "[J", true)
  | 2 => ("ShakeHands$Teller", "gloved", "I", false)
  | 3 => ("ShakeHands$Teller", "faultMet", "I", false)
  | 4 => ("ShakeHands$Teller", "tape", "LShakeHands$Tape;", true)
  | 5 => ("ShakeHands$Teller", "telling", "LShakeHands$Row;", true)
  | 6 => ("ShakeHands$Teller", "at", "I", false)
  | 7 => ("ShakeHands$Teller", "kind", "I", false)
  | 8 => ("ShakeHands$Teller", "place", "I", false)
  | 9 => ("ShakeHands$Teller", "value", "I", false)
  | 10 => ("ShakeHands$Teller", "peopleTold", "Z", false)
  | 11 => ("ShakeHands$Teller", "holdTold", "Z", false)
  | 12 => ("ShakeHands$Teller", "rowsTold", "I", false)
  | 13 => ("ShakeHands$Teller", "highestOne", "I", false)
  | _ => ("ShakeHands$Teller", "longestRow", "I", false)
def t_Teller : Nat → FieldType := fun k => match k with
  | 0 => .object "ShakeHands$Circle"
  | 1 => .array .long
  | 2 => .int
  | 3 => .int
  | 4 => .object "ShakeHands$Tape"
  | 5 => .object "ShakeHands$Row"
  | 6 => .int
  | 7 => .int
  | 8 => .int
  | 9 => .int
  | 10 => .boolean
  | 11 => .boolean
  | 12 => .int
  | 13 => .int
  | _ => .int
theorem n_Teller : ∀ a, a < 15 → ∀ b, b < 15 → a ≠ b → (F_Teller a).2.1 ≠ (F_Teller b).2.1 := by decide +kernel
theorem t_Teller_ok : ∀ k, k < 15 → parseFieldDescriptor (F_Teller k).2.2.1 = some (t_Teller k) := by decide +kernel
theorem l_Teller_0 : u_lay R_Teller F_Teller 0 ∈ tbl := tbl_in 137 (by decide +kernel) rfl
theorem l_Teller_1 : u_lay R_Teller F_Teller 1 ∈ tbl := tbl_in 139 (by decide +kernel) rfl
theorem l_Teller_2 : u_lay R_Teller F_Teller 2 ∈ tbl := tbl_in 141 (by decide +kernel) rfl
theorem l_Teller_3 : u_lay R_Teller F_Teller 3 ∈ tbl := tbl_in 143 (by decide +kernel) rfl
theorem l_Teller_4 : u_lay R_Teller F_Teller 4 ∈ tbl := tbl_in 145 (by decide +kernel) rfl
theorem l_Teller_5 : u_lay R_Teller F_Teller 5 ∈ tbl := tbl_in 147 (by decide +kernel) rfl
theorem l_Teller_6 : u_lay R_Teller F_Teller 6 ∈ tbl := tbl_in 149 (by decide +kernel) rfl
theorem l_Teller_7 : u_lay R_Teller F_Teller 7 ∈ tbl := tbl_in 151 (by decide +kernel) rfl
theorem l_Teller_8 : u_lay R_Teller F_Teller 8 ∈ tbl := tbl_in 153 (by decide +kernel) rfl
theorem l_Teller_9 : u_lay R_Teller F_Teller 9 ∈ tbl := tbl_in 155 (by decide +kernel) rfl
theorem l_Teller_10 : u_lay R_Teller F_Teller 10 ∈ tbl := tbl_in 157 (by decide +kernel) rfl
theorem l_Teller_11 : u_lay R_Teller F_Teller 11 ∈ tbl := tbl_in 159 (by decide +kernel) rfl
theorem l_Teller_12 : u_lay R_Teller F_Teller 12 ∈ tbl := tbl_in 161 (by decide +kernel) rfl
theorem l_Teller_13 : u_lay R_Teller F_Teller 13 ∈ tbl := tbl_in 163 (by decide +kernel) rfl
theorem l_Teller_14 : u_lay R_Teller F_Teller 14 ∈ tbl := tbl_in 165 (by decide +kernel) rfl
theorem i_Teller : ∀ w ∈ u_ws R_Teller F_Teller 15, w ∈ tbl := by
  intro w hw
  obtain ⟨k, hk, rfl⟩ := List.mem_map.mp hw
  have hk := List.mem_range.mp hk
  match k, hk with
  | 0, _ => exact l_Teller_0
  | 1, _ => exact l_Teller_1
  | 2, _ => exact l_Teller_2
  | 3, _ => exact l_Teller_3
  | 4, _ => exact l_Teller_4
  | 5, _ => exact l_Teller_5
  | 6, _ => exact l_Teller_6
  | 7, _ => exact l_Teller_7
  | 8, _ => exact l_Teller_8
  | 9, _ => exact l_Teller_9
  | 10, _ => exact l_Teller_10
  | 11, _ => exact l_Teller_11
  | 12, _ => exact l_Teller_12
  | 13, _ => exact l_Teller_13
  | 14, _ => exact l_Teller_14
  | k + 15, h => exact absurd h (by omega)
theorem in_Teller : Cond.instantiable R_Teller 15 ∈ tbl := tbl_in 44 (by decide +kernel) rfl
def R_ShakeHands : String := "ShakeHands"
def F_ShakeHands : u_T := fun k => match k with
  | 0 => ("ShakeHands", "tape", "LShakeHands$Tape;", true)
  | 1 => ("ShakeHands", "teller", "LShakeHands$Teller;", true)
  | 2 => ("ShakeHands", "circle", "LShakeHands$Circle;", true)
  | 3 => ("ShakeHands", "now", "LShakeHands$Minds;", true)
  | 4 => ("ShakeHands", "images", "[LShakeHands$Minds;", true)
  | 5 => ("ShakeHands", "search", "LShakeHands$Search;", true)
  | 6 => ("ShakeHands", "habit", "LShakeHands$Habit;", true)
  | 7 => ("ShakeHands", "sheets", "[LShakeHands$Sheet;", true)
  | 8 => ("ShakeHands", "trial", "[J", true)
  | 9 => ("ShakeHands", "kept", "I", false)
  | _ => ("ShakeHands", "tornFault", "I", false)
def t_ShakeHands : Nat → FieldType := fun k => match k with
  | 0 => .object "ShakeHands$Tape"
  | 1 => .object "ShakeHands$Teller"
  | 2 => .object "ShakeHands$Circle"
  | 3 => .object "ShakeHands$Minds"
  | 4 => .array (.object "ShakeHands$Minds")
  | 5 => .object "ShakeHands$Search"
  | 6 => .object "ShakeHands$Habit"
  | 7 => .array (.object "ShakeHands$Sheet")
  | 8 => .array .long
  | 9 => .int
  | _ => .int
theorem n_ShakeHands : ∀ a, a < 11 → ∀ b, b < 11 → a ≠ b → (F_ShakeHands a).2.1 ≠ (F_ShakeHands b).2.1 := by decide +kernel
theorem t_ShakeHands_ok : ∀ k, k < 11 → parseFieldDescriptor (F_ShakeHands k).2.2.1 = some (t_ShakeHands k) := by decide +kernel
theorem l_ShakeHands_0 : u_lay R_ShakeHands F_ShakeHands 0 ∈ tbl := tbl_in 306 (by decide +kernel) rfl
theorem l_ShakeHands_1 : u_lay R_ShakeHands F_ShakeHands 1 ∈ tbl := tbl_in 308 (by decide +kernel) rfl
theorem l_ShakeHands_2 : u_lay R_ShakeHands F_ShakeHands 2 ∈ tbl := tbl_in 310 (by decide +kernel) rfl
theorem l_ShakeHands_3 : u_lay R_ShakeHands F_ShakeHands 3 ∈ tbl := tbl_in 312 (by decide +kernel) rfl
theorem l_ShakeHands_4 : u_lay R_ShakeHands F_ShakeHands 4 ∈ tbl := tbl_in 314 (by decide +kernel) rfl
theorem l_ShakeHands_5 : u_lay R_ShakeHands F_ShakeHands 5 ∈ tbl := tbl_in 316 (by decide +kernel) rfl
theorem l_ShakeHands_6 : u_lay R_ShakeHands F_ShakeHands 6 ∈ tbl := tbl_in 318 (by decide +kernel) rfl
theorem l_ShakeHands_7 : u_lay R_ShakeHands F_ShakeHands 7 ∈ tbl := tbl_in 320 (by decide +kernel) rfl
theorem l_ShakeHands_8 : u_lay R_ShakeHands F_ShakeHands 8 ∈ tbl := tbl_in 322 (by decide +kernel) rfl
theorem l_ShakeHands_9 : u_lay R_ShakeHands F_ShakeHands 9 ∈ tbl := tbl_in 324 (by decide +kernel) rfl
theorem l_ShakeHands_10 : u_lay R_ShakeHands F_ShakeHands 10 ∈ tbl := tbl_in 326 (by decide +kernel) rfl
theorem i_ShakeHands : ∀ w ∈ u_ws R_ShakeHands F_ShakeHands 11, w ∈ tbl := by
  intro w hw
  obtain ⟨k, hk, rfl⟩ := List.mem_map.mp hw
  have hk := List.mem_range.mp hk
  match k, hk with
  | 0, _ => exact l_ShakeHands_0
  | 1, _ => exact l_ShakeHands_1
  | 2, _ => exact l_ShakeHands_2
  | 3, _ => exact l_ShakeHands_3
  | 4, _ => exact l_ShakeHands_4
  | 5, _ => exact l_ShakeHands_5
  | 6, _ => exact l_ShakeHands_6
  | 7, _ => exact l_ShakeHands_7
  | 8, _ => exact l_ShakeHands_8
  | 9, _ => exact l_ShakeHands_9
  | 10, _ => exact l_ShakeHands_10
  | k + 11, h => exact absurd h (by omega)
theorem in_ShakeHands : Cond.instantiable R_ShakeHands 11 ∈ tbl := tbl_in 19 (by decide +kernel) rfl
def R_Model : String := "ShakeHandsModel"
def F_Model : u_T := fun k => match k with
  | 0 => ("ShakeHandsModel", "st", "[I", true)
  | 1 => ("ShakeHandsModel", "isKept", "[Z", true)
  | 2 => ("ShakeHandsModel", "people", "I", false)
  | 3 => ("ShakeHandsModel", "hold", "I", false)
  | 4 => ("ShakeHandsModel", "joins", "I", false)
  | 5 => ("ShakeHandsModel", "hands", "I", false)
  | 6 => ("ShakeHandsModel", "dailies", "I", false)
  | 7 => ("ShakeHandsModel", "join", "[I", true)
  | 8 => ("ShakeHandsModel", "hand", "[I", true)
  | 9 => ("ShakeHandsModel", "daily", "[I", true)
  | 10 => ("ShakeHandsModel", "less", "[I", true)
  | 11 => ("ShakeHandsModel", "more", "[I", true)
  | 12 => ("ShakeHandsModel", "dPeople", "I", false)
  | 13 => ("ShakeHandsModel", "dHold", "I", false)
  | 14 => ("ShakeHandsModel", "dJoins", "I", false)
  | 15 => ("ShakeHandsModel", "dHands", "I", false)
  | 16 => ("ShakeHandsModel", "dDailies", "I", false)
  | 17 => ("ShakeHandsModel", "highestTold", "I", false)
  | 18 => ("ShakeHandsModel", "dJoin", "[I", true)
  | 19 => ("ShakeHandsModel", "dHand", "[I", true)
  | 20 => ("ShakeHandsModel", "dDaily", "[I", true)
  | 21 => ("ShakeHandsModel", "dRow", "[I", true)
  | 22 => ("ShakeHandsModel", "dGlove", "[Z", true)
  | 23 => ("ShakeHandsModel", "isKnown", "[Z", true)
  | 24 => ("ShakeHandsModel", "toldLines", "I", false)
  | 25 => ("ShakeHandsModel", "tape", "[I", true)
  | 26 => ("ShakeHandsModel", "taped", "I", false)
  | 27 => ("ShakeHandsModel", "pos", "I", false)
  | 28 => ("ShakeHandsModel", "from", "I", false)
  | 29 => ("ShakeHandsModel", "sort", "I", false)
  | 30 => ("ShakeHandsModel", "value", "I", false)
  | 31 => ("ShakeHandsModel", "fault", "I", false)
  | 32 => ("ShakeHandsModel", "wrongAt", "I", false)
  | 33 => ("ShakeHandsModel", "tried", "[I", true)
  | 34 => ("ShakeHandsModel", "row", "[I", true)
  | 35 => ("ShakeHandsModel", "size", "I", false)
  | 36 => ("ShakeHandsModel", "digit", "[I", true)
  | 37 => ("ShakeHandsModel", "found", "[I", true)
  | 38 => ("ShakeHandsModel", "gloved", "I", false)
  | 39 => ("ShakeHandsModel", "asked", "I", false)
  | 40 => ("ShakeHandsModel", "askedThing", "I", false)
  | 41 => ("ShakeHandsModel", "askedSome", "I", false)
  | 42 => ("ShakeHandsModel", "askedOthers", "I", false)
  | 43 => ("ShakeHandsModel", "rowMany", "I", false)
  | 44 => ("ShakeHandsModel", "inEach", "I", false)
  | 45 => ("ShakeHandsModel", "inAny", "I", false)
  | 46 => ("ShakeHandsModel", "round", "[I", true)
  | 47 => ("ShakeHandsModel", "roundMany", "I", false)
  | 48 => ("ShakeHandsModel", "past", "[J", true)
  | 49 => ("ShakeHandsModel", "seat", "[I", true)
  | 50 => ("ShakeHandsModel", "firstSeat", "[I", true)
  | 51 => ("ShakeHandsModel", "lanes", "[I", true)
  | 52 => ("ShakeHandsModel", "sizes", "[I", true)
  | 53 => ("ShakeHandsModel", "cells", "[I", true)
  | _ => ("ShakeHandsModel", "torn", "I", false)
def t_Model : Nat → FieldType := fun k => match k with
  | 0 => .array .int
  | 1 => .array .boolean
  | 2 => .int
  | 3 => .int
  | 4 => .int
  | 5 => .int
  | 6 => .int
  | 7 => .array .int
  | 8 => .array .int
  | 9 => .array .int
  | 10 => .array .int
  | 11 => .array .int
  | 12 => .int
  | 13 => .int
  | 14 => .int
  | 15 => .int
  | 16 => .int
  | 17 => .int
  | 18 => .array .int
  | 19 => .array .int
  | 20 => .array .int
  | 21 => .array .int
  | 22 => .array .boolean
  | 23 => .array .boolean
  | 24 => .int
  | 25 => .array .int
  | 26 => .int
  | 27 => .int
  | 28 => .int
  | 29 => .int
  | 30 => .int
  | 31 => .int
  | 32 => .int
  | 33 => .array .int
  | 34 => .array .int
  | 35 => .int
  | 36 => .array .int
  | 37 => .array .int
  | 38 => .int
  | 39 => .int
  | 40 => .int
  | 41 => .int
  | 42 => .int
  | 43 => .int
  | 44 => .int
  | 45 => .int
  | 46 => .array .int
  | 47 => .int
  | 48 => .array .long
  | 49 => .array .int
  | 50 => .array .int
  | 51 => .array .int
  | 52 => .array .int
  | 53 => .array .int
  | _ => .int
theorem n_Model : ∀ a, a < 55 → ∀ b, b < 55 → a ≠ b → (F_Model a).2.1 ≠ (F_Model b).2.1 := by decide +kernel
theorem t_Model_ok : ∀ k, k < 55 → parseFieldDescriptor (F_Model k).2.2.1 = some (t_Model k) := by decide +kernel
theorem l_Model_0 : u_lay R_Model F_Model 0 ∈ tbl := tbl_in 952 (by decide +kernel) rfl
theorem l_Model_1 : u_lay R_Model F_Model 1 ∈ tbl := tbl_in 954 (by decide +kernel) rfl
theorem l_Model_2 : u_lay R_Model F_Model 2 ∈ tbl := tbl_in 956 (by decide +kernel) rfl
theorem l_Model_3 : u_lay R_Model F_Model 3 ∈ tbl := tbl_in 958 (by decide +kernel) rfl
theorem l_Model_4 : u_lay R_Model F_Model 4 ∈ tbl := tbl_in 960 (by decide +kernel) rfl
theorem l_Model_5 : u_lay R_Model F_Model 5 ∈ tbl := tbl_in 962 (by decide +kernel) rfl
theorem l_Model_6 : u_lay R_Model F_Model 6 ∈ tbl := tbl_in 964 (by decide +kernel) rfl
theorem l_Model_7 : u_lay R_Model F_Model 7 ∈ tbl := tbl_in 966 (by decide +kernel) rfl
theorem l_Model_8 : u_lay R_Model F_Model 8 ∈ tbl := tbl_in 968 (by decide +kernel) rfl
theorem l_Model_9 : u_lay R_Model F_Model 9 ∈ tbl := tbl_in 970 (by decide +kernel) rfl
theorem l_Model_10 : u_lay R_Model F_Model 10 ∈ tbl := tbl_in 972 (by decide +kernel) rfl
theorem l_Model_11 : u_lay R_Model F_Model 11 ∈ tbl := tbl_in 974 (by decide +kernel) rfl
theorem l_Model_12 : u_lay R_Model F_Model 12 ∈ tbl := tbl_in 976 (by decide +kernel) rfl
theorem l_Model_13 : u_lay R_Model F_Model 13 ∈ tbl := tbl_in 978 (by decide +kernel) rfl
theorem l_Model_14 : u_lay R_Model F_Model 14 ∈ tbl := tbl_in 980 (by decide +kernel) rfl
theorem l_Model_15 : u_lay R_Model F_Model 15 ∈ tbl := tbl_in 982 (by decide +kernel) rfl
theorem l_Model_16 : u_lay R_Model F_Model 16 ∈ tbl := tbl_in 984 (by decide +kernel) rfl
theorem l_Model_17 : u_lay R_Model F_Model 17 ∈ tbl := tbl_in 986 (by decide +kernel) rfl
theorem l_Model_18 : u_lay R_Model F_Model 18 ∈ tbl := tbl_in 988 (by decide +kernel) rfl
theorem l_Model_19 : u_lay R_Model F_Model 19 ∈ tbl := tbl_in 990 (by decide +kernel) rfl
theorem l_Model_20 : u_lay R_Model F_Model 20 ∈ tbl := tbl_in 992 (by decide +kernel) rfl
theorem l_Model_21 : u_lay R_Model F_Model 21 ∈ tbl := tbl_in 994 (by decide +kernel) rfl
theorem l_Model_22 : u_lay R_Model F_Model 22 ∈ tbl := tbl_in 996 (by decide +kernel) rfl
theorem l_Model_23 : u_lay R_Model F_Model 23 ∈ tbl := tbl_in 998 (by decide +kernel) rfl
theorem l_Model_24 : u_lay R_Model F_Model 24 ∈ tbl := tbl_in 1000 (by decide +kernel) rfl
theorem l_Model_25 : u_lay R_Model F_Model 25 ∈ tbl := tbl_in 1002 (by decide +kernel) rfl
theorem l_Model_26 : u_lay R_Model F_Model 26 ∈ tbl := tbl_in 1004 (by decide +kernel) rfl
theorem l_Model_27 : u_lay R_Model F_Model 27 ∈ tbl := tbl_in 1006 (by decide +kernel) rfl
theorem l_Model_28 : u_lay R_Model F_Model 28 ∈ tbl := tbl_in 1008 (by decide +kernel) rfl
theorem l_Model_29 : u_lay R_Model F_Model 29 ∈ tbl := tbl_in 1010 (by decide +kernel) rfl
theorem l_Model_30 : u_lay R_Model F_Model 30 ∈ tbl := tbl_in 1012 (by decide +kernel) rfl
theorem l_Model_31 : u_lay R_Model F_Model 31 ∈ tbl := tbl_in 1014 (by decide +kernel) rfl
theorem l_Model_32 : u_lay R_Model F_Model 32 ∈ tbl := tbl_in 1016 (by decide +kernel) rfl
theorem l_Model_33 : u_lay R_Model F_Model 33 ∈ tbl := tbl_in 1018 (by decide +kernel) rfl
theorem l_Model_34 : u_lay R_Model F_Model 34 ∈ tbl := tbl_in 1020 (by decide +kernel) rfl
theorem l_Model_35 : u_lay R_Model F_Model 35 ∈ tbl := tbl_in 1022 (by decide +kernel) rfl
theorem l_Model_36 : u_lay R_Model F_Model 36 ∈ tbl := tbl_in 1024 (by decide +kernel) rfl
theorem l_Model_37 : u_lay R_Model F_Model 37 ∈ tbl := tbl_in 1026 (by decide +kernel) rfl
theorem l_Model_38 : u_lay R_Model F_Model 38 ∈ tbl := tbl_in 1028 (by decide +kernel) rfl
theorem l_Model_39 : u_lay R_Model F_Model 39 ∈ tbl := tbl_in 1030 (by decide +kernel) rfl
theorem l_Model_40 : u_lay R_Model F_Model 40 ∈ tbl := tbl_in 1032 (by decide +kernel) rfl
theorem l_Model_41 : u_lay R_Model F_Model 41 ∈ tbl := tbl_in 1034 (by decide +kernel) rfl
theorem l_Model_42 : u_lay R_Model F_Model 42 ∈ tbl := tbl_in 1036 (by decide +kernel) rfl
theorem l_Model_43 : u_lay R_Model F_Model 43 ∈ tbl := tbl_in 1038 (by decide +kernel) rfl
theorem l_Model_44 : u_lay R_Model F_Model 44 ∈ tbl := tbl_in 1040 (by decide +kernel) rfl
theorem l_Model_45 : u_lay R_Model F_Model 45 ∈ tbl := tbl_in 1042 (by decide +kernel) rfl
theorem l_Model_46 : u_lay R_Model F_Model 46 ∈ tbl := tbl_in 1044 (by decide +kernel) rfl
theorem l_Model_47 : u_lay R_Model F_Model 47 ∈ tbl := tbl_in 1046 (by decide +kernel) rfl
theorem l_Model_48 : u_lay R_Model F_Model 48 ∈ tbl := tbl_in 1048 (by decide +kernel) rfl
theorem l_Model_49 : u_lay R_Model F_Model 49 ∈ tbl := tbl_in 1050 (by decide +kernel) rfl
theorem l_Model_50 : u_lay R_Model F_Model 50 ∈ tbl := tbl_in 1052 (by decide +kernel) rfl
theorem l_Model_51 : u_lay R_Model F_Model 51 ∈ tbl := tbl_in 1054 (by decide +kernel) rfl
theorem l_Model_52 : u_lay R_Model F_Model 52 ∈ tbl := tbl_in 1056 (by decide +kernel) rfl
theorem l_Model_53 : u_lay R_Model F_Model 53 ∈ tbl := tbl_in 1058 (by decide +kernel) rfl
theorem l_Model_54 : u_lay R_Model F_Model 54 ∈ tbl := tbl_in 1060 (by decide +kernel) rfl
theorem i_Model : ∀ w ∈ u_ws R_Model F_Model 55, w ∈ tbl := by
  intro w hw
  obtain ⟨k, hk, rfl⟩ := List.mem_map.mp hw
  have hk := List.mem_range.mp hk
  match k, hk with
  | 0, _ => exact l_Model_0
  | 1, _ => exact l_Model_1
  | 2, _ => exact l_Model_2
  | 3, _ => exact l_Model_3
  | 4, _ => exact l_Model_4
  | 5, _ => exact l_Model_5
  | 6, _ => exact l_Model_6
  | 7, _ => exact l_Model_7
  | 8, _ => exact l_Model_8
  | 9, _ => exact l_Model_9
  | 10, _ => exact l_Model_10
  | 11, _ => exact l_Model_11
  | 12, _ => exact l_Model_12
  | 13, _ => exact l_Model_13
  | 14, _ => exact l_Model_14
  | 15, _ => exact l_Model_15
  | 16, _ => exact l_Model_16
  | 17, _ => exact l_Model_17
  | 18, _ => exact l_Model_18
  | 19, _ => exact l_Model_19
  | 20, _ => exact l_Model_20
  | 21, _ => exact l_Model_21
  | 22, _ => exact l_Model_22
  | 23, _ => exact l_Model_23
  | 24, _ => exact l_Model_24
  | 25, _ => exact l_Model_25
  | 26, _ => exact l_Model_26
  | 27, _ => exact l_Model_27
  | 28, _ => exact l_Model_28
  | 29, _ => exact l_Model_29
  | 30, _ => exact l_Model_30
  | 31, _ => exact l_Model_31
  | 32, _ => exact l_Model_32
  | 33, _ => exact l_Model_33
  | 34, _ => exact l_Model_34
  | 35, _ => exact l_Model_35
  | 36, _ => exact l_Model_36
  | 37, _ => exact l_Model_37
  | 38, _ => exact l_Model_38
  | 39, _ => exact l_Model_39
  | 40, _ => exact l_Model_40
  | 41, _ => exact l_Model_41
  | 42, _ => exact l_Model_42
  | 43, _ => exact l_Model_43
  | 44, _ => exact l_Model_44
  | 45, _ => exact l_Model_45
  | 46, _ => exact l_Model_46
  | 47, _ => exact l_Model_47
  | 48, _ => exact l_Model_48
  | 49, _ => exact l_Model_49
  | 50, _ => exact l_Model_50
  | 51, _ => exact l_Model_51
  | 52, _ => exact l_Model_52
  | 53, _ => exact l_Model_53
  | 54, _ => exact l_Model_54
  | k + 55, h => exact absurd h (by omega)
theorem in_Model : Cond.instantiable R_Model 55 ∈ tbl := tbl_in 878 (by decide +kernel) rfl
abbrev cl : List vw_C := [(R_Circle, F_Circle, 9), (R_Habit, F_Habit, 4), (R_Minds, F_Minds, 4), (R_Row, F_Row, 2), (R_Search, F_Search, 13), (R_Sheet, F_Sheet, 4), (R_Tape, F_Tape, 2), (R_Teller, F_Teller, 15), (R_ShakeHands, F_ShakeHands, 11), (R_Model, F_Model, 55)]
theorem ini_Circle : Cond.initialized "ShakeHands$Circle" ∈ tbl := tbl_in 4 (by decide +kernel) rfl
theorem ini_Habit : Cond.initialized "ShakeHands$Habit" ∈ tbl := tbl_in 8 (by decide +kernel) rfl
theorem ini_Minds : Cond.initialized "ShakeHands$Minds" ∈ tbl := tbl_in 6 (by decide +kernel) rfl
theorem ini_Row : Cond.initialized "ShakeHands$Row" ∈ tbl := tbl_in 5 (by decide +kernel) rfl
theorem ini_Search : Cond.initialized "ShakeHands$Search" ∈ tbl := tbl_in 7 (by decide +kernel) rfl
theorem ini_Sheet : Cond.initialized "ShakeHands$Sheet" ∈ tbl := tbl_in 9 (by decide +kernel) rfl
theorem ini_Tape : Cond.initialized "ShakeHands$Tape" ∈ tbl := tbl_in 2 (by decide +kernel) rfl
theorem ini_Teller : Cond.initialized "ShakeHands$Teller" ∈ tbl := tbl_in 3 (by decide +kernel) rfl
theorem ini_ShakeHands : Cond.initialized "ShakeHands" ∈ tbl := tbl_in 1 (by decide +kernel) rfl
theorem ini_Model : Cond.initialized "ShakeHandsModel" ∈ tbl := tbl_in 10 (by decide +kernel) rfl
theorem ini_Law : Cond.initialized "ShakeHandsLaw" ∈ tbl := tbl_in 0 (by decide +kernel) rfl
theorem ini_Integer : Cond.initialized "java/lang/Integer" ∈ tbl := tbl_in 16 (by decide +kernel) rfl
theorem ini_String : Cond.initialized "java/lang/String" ∈ tbl := tbl_in 11 (by decide +kernel) rfl
theorem ini_StringLatin1 : Cond.initialized "java/lang/StringLatin1" ∈ tbl := tbl_in 12 (by decide +kernel) rfl
theorem ini_StringUTF16 : Cond.initialized "java/lang/StringUTF16" ∈ tbl := tbl_in 14 (by decide +kernel) rfl
theorem ini_Math : Cond.initialized "java/lang/Math" ∈ tbl := tbl_in 15 (by decide +kernel) rfl
theorem ini_Precond : Cond.initialized "jdk/internal/util/Preconditions" ∈ tbl := tbl_in 13 (by decide +kernel) rfl
theorem ini_System : Cond.initialized "java/lang/System" ∈ tbl := tbl_in 17 (by decide +kernel) rfl
abbrev b_ShakeHands_init : ByteArray := prog_1_method_1_code
def y_ShakeHands_init : MethodName := ⟨"ShakeHands", "<init>", "()V"⟩
theorem cd_ShakeHands_init : Cond.code y_ShakeHands_init b_ShakeHands_init 2 (none) ∈ tbl := tbl_in 22 (by decide +kernel) rfl
theorem im_ShakeHands_init : Cond.instanceMethod y_ShakeHands_init ∈ tbl := tbl_in 21 (by decide +kernel) rfl
abbrev b_Object_init : ByteArray := object_method_1_code
def y_Object_init : MethodName := ⟨"java/lang/Object", "<init>", "()V"⟩
theorem cd_Object_init : Cond.code y_Object_init b_Object_init 1 (none) ∈ tbl := tbl_in 25 (by decide +kernel) rfl
theorem im_Object_init : Cond.instanceMethod y_Object_init ∈ tbl := tbl_in 24 (by decide +kernel) rfl
abbrev b_Tape_init : ByteArray := prog_8_method_1_code
def y_Tape_init : MethodName := ⟨"ShakeHands$Tape", "<init>", "()V"⟩
theorem cd_Tape_init : Cond.code y_Tape_init b_Tape_init 1 (none) ∈ tbl := tbl_in 30 (by decide +kernel) rfl
theorem im_Tape_init : Cond.instanceMethod y_Tape_init ∈ tbl := tbl_in 29 (by decide +kernel) rfl
abbrev b_Teller_init : ByteArray := prog_9_method_1_code
def y_Teller_init : MethodName := ⟨"ShakeHands$Teller", "<init>", "(LShakeHands$Tape;)V"⟩
theorem cd_Teller_init : Cond.code y_Teller_init b_Teller_init 2 (none) ∈ tbl := tbl_in 47 (by decide +kernel) rfl
theorem im_Teller_init : Cond.instanceMethod y_Teller_init ∈ tbl := tbl_in 46 (by decide +kernel) rfl
abbrev b_Circle_init : ByteArray := prog_2_method_1_code
def y_Circle_init : MethodName := ⟨"ShakeHands$Circle", "<init>", "()V"⟩
theorem cd_Circle_init : Cond.code y_Circle_init b_Circle_init 1 (none) ∈ tbl := tbl_in 53 (by decide +kernel) rfl
theorem im_Circle_init : Cond.instanceMethod y_Circle_init ∈ tbl := tbl_in 52 (by decide +kernel) rfl
abbrev b_Row_init : ByteArray := prog_5_method_1_code
def y_Row_init : MethodName := ⟨"ShakeHands$Row", "<init>", "()V"⟩
theorem cd_Row_init : Cond.code y_Row_init b_Row_init 1 (none) ∈ tbl := tbl_in 59 (by decide +kernel) rfl
theorem im_Row_init : Cond.instanceMethod y_Row_init ∈ tbl := tbl_in 58 (by decide +kernel) rfl
abbrev b_Minds_init : ByteArray := prog_4_method_1_code
def y_Minds_init : MethodName := ⟨"ShakeHands$Minds", "<init>", "()V"⟩
theorem cd_Minds_init : Cond.code y_Minds_init b_Minds_init 1 (none) ∈ tbl := tbl_in 175 (by decide +kernel) rfl
theorem im_Minds_init : Cond.instanceMethod y_Minds_init ∈ tbl := tbl_in 174 (by decide +kernel) rfl
abbrev b_Search_init : ByteArray := prog_6_method_1_code
def y_Search_init : MethodName := ⟨"ShakeHands$Search", "<init>", "(LShakeHands$Circle;LShakeHands$Minds;)V"⟩
theorem cd_Search_init : Cond.code y_Search_init b_Search_init 3 (none) ∈ tbl := tbl_in 205 (by decide +kernel) rfl
theorem im_Search_init : Cond.instanceMethod y_Search_init ∈ tbl := tbl_in 204 (by decide +kernel) rfl
abbrev b_Habit_init : ByteArray := prog_3_method_1_code
def y_Habit_init : MethodName := ⟨"ShakeHands$Habit", "<init>", "(LShakeHands$Circle;LShakeHands$Minds;)V"⟩
theorem cd_Habit_init : Cond.code y_Habit_init b_Habit_init 3 (none) ∈ tbl := tbl_in 258 (by decide +kernel) rfl
theorem im_Habit_init : Cond.instanceMethod y_Habit_init ∈ tbl := tbl_in 257 (by decide +kernel) rfl
abbrev b_Sheet_init : ByteArray := prog_7_method_1_code
def y_Sheet_init : MethodName := ⟨"ShakeHands$Sheet", "<init>", "()V"⟩
theorem cd_Sheet_init : Cond.code y_Sheet_init b_Sheet_init 1 (none) ∈ tbl := tbl_in 278 (by decide +kernel) rfl
theorem im_Sheet_init : Cond.instanceMethod y_Sheet_init ∈ tbl := tbl_in 277 (by decide +kernel) rfl
abbrev b_ShakeHands_feed : ByteArray := prog_1_method_2_code
def y_ShakeHands_feed : MethodName := ⟨"ShakeHands", "feed", "(J)I"⟩
theorem cd_ShakeHands_feed : Cond.code y_ShakeHands_feed b_ShakeHands_feed 3 (some .int) ∈ tbl := tbl_in 332 (by decide +kernel) rfl
theorem im_ShakeHands_feed : Cond.instanceMethod y_ShakeHands_feed ∈ tbl := tbl_in 330 (by decide +kernel) rfl
theorem se_ShakeHands_feed : Cond.selects "ShakeHands" y_ShakeHands_feed y_ShakeHands_feed ∈ tbl := tbl_in 331 (by decide +kernel) rfl
abbrev b_Tape_append : ByteArray := prog_8_method_2_code
def y_Tape_append : MethodName := ⟨"ShakeHands$Tape", "append", "(J)Z"⟩
theorem cd_Tape_append : Cond.code y_Tape_append b_Tape_append 4 (some .boolean) ∈ tbl := tbl_in 336 (by decide +kernel) rfl
theorem im_Tape_append : Cond.instanceMethod y_Tape_append ∈ tbl := tbl_in 334 (by decide +kernel) rfl
theorem se_Tape_append : Cond.selects "ShakeHands$Tape" y_Tape_append y_Tape_append ∈ tbl := tbl_in 335 (by decide +kernel) rfl
abbrev b_ShakeHands_end : ByteArray := prog_1_method_3_code
def y_ShakeHands_end : MethodName := ⟨"ShakeHands", "end", "(I)I"⟩
theorem cd_ShakeHands_end : Cond.code y_ShakeHands_end b_ShakeHands_end 3 (some .int) ∈ tbl := tbl_in 340 (by decide +kernel) rfl
theorem im_ShakeHands_end : Cond.instanceMethod y_ShakeHands_end ∈ tbl := tbl_in 338 (by decide +kernel) rfl
theorem se_ShakeHands_end : Cond.selects "ShakeHands" y_ShakeHands_end y_ShakeHands_end ∈ tbl := tbl_in 339 (by decide +kernel) rfl
abbrev b_ShakeHands_text : ByteArray := prog_1_method_4_code
def y_ShakeHands_text : MethodName := ⟨"ShakeHands", "text", "()I"⟩
theorem cd_ShakeHands_text : Cond.code y_ShakeHands_text b_ShakeHands_text 2 (some .int) ∈ tbl := tbl_in 344 (by decide +kernel) rfl
theorem im_ShakeHands_text : Cond.instanceMethod y_ShakeHands_text ∈ tbl := tbl_in 342 (by decide +kernel) rfl
theorem se_ShakeHands_text : Cond.selects "ShakeHands" y_ShakeHands_text y_ShakeHands_text ∈ tbl := tbl_in 343 (by decide +kernel) rfl
abbrev b_Teller_tell : ByteArray := prog_9_method_2_code
def y_Teller_tell : MethodName := ⟨"ShakeHands$Teller", "tell", "()I"⟩
theorem cd_Teller_tell : Cond.code y_Teller_tell b_Teller_tell 2 (some .int) ∈ tbl := tbl_in 348 (by decide +kernel) rfl
theorem im_Teller_tell : Cond.instanceMethod y_Teller_tell ∈ tbl := tbl_in 346 (by decide +kernel) rfl
theorem se_Teller_tell : Cond.selects "ShakeHands$Teller" y_Teller_tell y_Teller_tell ∈ tbl := tbl_in 347 (by decide +kernel) rfl
abbrev b_Teller_begin : ByteArray := prog_9_method_3_code
def y_Teller_begin : MethodName := ⟨"ShakeHands$Teller", "begin", "()V"⟩
theorem cd_Teller_begin : Cond.code y_Teller_begin b_Teller_begin 2 (none) ∈ tbl := tbl_in 352 (by decide +kernel) rfl
theorem im_Teller_begin : Cond.instanceMethod y_Teller_begin ∈ tbl := tbl_in 351 (by decide +kernel) rfl
theorem se_Teller_begin : Cond.selects "ShakeHands$Teller" y_Teller_begin y_Teller_begin ∈ tbl := tbl_sel 0 (by decide +kernel) rfl
abbrev b_Circle_beAsAtFirst : ByteArray := prog_2_method_2_code
def y_Circle_beAsAtFirst : MethodName := ⟨"ShakeHands$Circle", "beAsAtFirst", "()V"⟩
theorem cd_Circle_beAsAtFirst : Cond.code y_Circle_beAsAtFirst b_Circle_beAsAtFirst 1 (none) ∈ tbl := tbl_in 356 (by decide +kernel) rfl
theorem im_Circle_beAsAtFirst : Cond.instanceMethod y_Circle_beAsAtFirst ∈ tbl := tbl_in 354 (by decide +kernel) rfl
theorem se_Circle_beAsAtFirst : Cond.selects "ShakeHands$Circle" y_Circle_beAsAtFirst y_Circle_beAsAtFirst ∈ tbl := tbl_in 355 (by decide +kernel) rfl
abbrev b_Teller_readToken : ByteArray := prog_9_method_6_code
def y_Teller_readToken : MethodName := ⟨"ShakeHands$Teller", "readToken", "()V"⟩
theorem cd_Teller_readToken : Cond.code y_Teller_readToken b_Teller_readToken 1 (none) ∈ tbl := tbl_in 360 (by decide +kernel) rfl
theorem im_Teller_readToken : Cond.instanceMethod y_Teller_readToken ∈ tbl := tbl_in 359 (by decide +kernel) rfl
theorem se_Teller_readToken : Cond.selects "ShakeHands$Teller" y_Teller_readToken y_Teller_readToken ∈ tbl := tbl_sel 1 (by decide +kernel) rfl
abbrev b_Teller_isWithin : ByteArray := prog_9_method_7_code
def y_Teller_isWithin : MethodName := ⟨"ShakeHands$Teller", "isWithin", "(CC)Z"⟩
theorem cd_Teller_isWithin : Cond.code y_Teller_isWithin b_Teller_isWithin 3 (some .boolean) ∈ tbl := tbl_in 364 (by decide +kernel) rfl
theorem im_Teller_isWithin : Cond.instanceMethod y_Teller_isWithin ∈ tbl := tbl_in 363 (by decide +kernel) rfl
theorem se_Teller_isWithin : Cond.selects "ShakeHands$Teller" y_Teller_isWithin y_Teller_isWithin ∈ tbl := tbl_sel 2 (by decide +kernel) rfl
abbrev b_Teller_refuse : ByteArray := prog_9_method_5_code
def y_Teller_refuse : MethodName := ⟨"ShakeHands$Teller", "refuse", "(I)V"⟩
theorem cd_Teller_refuse : Cond.code y_Teller_refuse b_Teller_refuse 2 (none) ∈ tbl := tbl_in 368 (by decide +kernel) rfl
theorem im_Teller_refuse : Cond.instanceMethod y_Teller_refuse ∈ tbl := tbl_in 367 (by decide +kernel) rfl
theorem se_Teller_refuse : Cond.selects "ShakeHands$Teller" y_Teller_refuse y_Teller_refuse ∈ tbl := tbl_sel 3 (by decide +kernel) rfl
abbrev b_Teller_tellLine : ByteArray := prog_9_method_9_code
def y_Teller_tellLine : MethodName := ⟨"ShakeHands$Teller", "tellLine", "()V"⟩
theorem cd_Teller_tellLine : Cond.code y_Teller_tellLine b_Teller_tellLine 1 (none) ∈ tbl := tbl_in 372 (by decide +kernel) rfl
theorem im_Teller_tellLine : Cond.instanceMethod y_Teller_tellLine ∈ tbl := tbl_in 371 (by decide +kernel) rfl
theorem se_Teller_tellLine : Cond.selects "ShakeHands$Teller" y_Teller_tellLine y_Teller_tellLine ∈ tbl := tbl_sel 4 (by decide +kernel) rfl
abbrev b_Teller_isCalled : ByteArray := prog_9_method_8_code
def y_Teller_isCalled : MethodName := ⟨"ShakeHands$Teller", "isCalled", "(Ljava/lang/String;)Z"⟩
theorem cd_Teller_isCalled : Cond.code y_Teller_isCalled b_Teller_isCalled 3 (some .boolean) ∈ tbl := tbl_in 377 (by decide +kernel) rfl
theorem im_Teller_isCalled : Cond.instanceMethod y_Teller_isCalled ∈ tbl := tbl_in 376 (by decide +kernel) rfl
theorem se_Teller_isCalled : Cond.selects "ShakeHands$Teller" y_Teller_isCalled y_Teller_isCalled ∈ tbl := tbl_sel 5 (by decide +kernel) rfl
abbrev b_String_length : ByteArray := prog_14_method_54_code
def y_String_length : MethodName := ⟨"java/lang/String", "length", "()I"⟩
theorem cd_String_length : Cond.code y_String_length b_String_length 1 (some .int) ∈ tbl := tbl_in 381 (by decide +kernel) rfl
theorem im_String_length : Cond.instanceMethod y_String_length ∈ tbl := tbl_in 379 (by decide +kernel) rfl
theorem se_String_length : Cond.selects "java/lang/String" y_String_length y_String_length ∈ tbl := tbl_in 380 (by decide +kernel) rfl
abbrev b_String_coder : ByteArray := prog_14_method_152_code
def y_String_coder : MethodName := ⟨"java/lang/String", "coder", "()B"⟩
theorem cd_String_coder : Cond.code y_String_coder b_String_coder 1 (some .byte) ∈ tbl := tbl_in 385 (by decide +kernel) rfl
theorem im_String_coder : Cond.instanceMethod y_String_coder ∈ tbl := tbl_in 383 (by decide +kernel) rfl
theorem se_String_coder : Cond.selects "java/lang/String" y_String_coder y_String_coder ∈ tbl := tbl_in 384 (by decide +kernel) rfl
abbrev b_String_charAt : ByteArray := prog_14_method_56_code
def y_String_charAt : MethodName := ⟨"java/lang/String", "charAt", "(I)C"⟩
theorem cd_String_charAt : Cond.code y_String_charAt b_String_charAt 2 (some .char) ∈ tbl := tbl_in 391 (by decide +kernel) rfl
theorem im_String_charAt : Cond.instanceMethod y_String_charAt ∈ tbl := tbl_in 389 (by decide +kernel) rfl
theorem se_String_charAt : Cond.selects "java/lang/String" y_String_charAt y_String_charAt ∈ tbl := tbl_in 390 (by decide +kernel) rfl
abbrev b_String_isLatin1 : ByteArray := prog_14_method_154_code
def y_String_isLatin1 : MethodName := ⟨"java/lang/String", "isLatin1", "()Z"⟩
theorem cd_String_isLatin1 : Cond.code y_String_isLatin1 b_String_isLatin1 1 (some .boolean) ∈ tbl := tbl_in 395 (by decide +kernel) rfl
theorem im_String_isLatin1 : Cond.instanceMethod y_String_isLatin1 ∈ tbl := tbl_in 393 (by decide +kernel) rfl
theorem se_String_isLatin1 : Cond.selects "java/lang/String" y_String_isLatin1 y_String_isLatin1 ∈ tbl := tbl_in 394 (by decide +kernel) rfl
abbrev b_StringLatin1_charAt : ByteArray := prog_15_method_2_code
def y_StringLatin1_charAt : MethodName := ⟨"java/lang/StringLatin1", "charAt", "([BI)C"⟩
theorem cd_StringLatin1_charAt : Cond.code y_StringLatin1_charAt b_StringLatin1_charAt 2 (some .char) ∈ tbl := tbl_in 398 (by decide +kernel) rfl
theorem st_StringLatin1_charAt : Cond.static y_StringLatin1_charAt ∈ tbl := tbl_in 397 (by decide +kernel) rfl
abbrev b_String_checkIndex : ByteArray := prog_14_method_155_code
def y_String_checkIndex : MethodName := ⟨"java/lang/String", "checkIndex", "(II)V"⟩
theorem cd_String_checkIndex : Cond.code y_String_checkIndex b_String_checkIndex 2 (none) ∈ tbl := tbl_in 401 (by decide +kernel) rfl
theorem st_String_checkIndex : Cond.static y_String_checkIndex ∈ tbl := tbl_in 400 (by decide +kernel) rfl
abbrev b_Precond_checkIndex : ByteArray := prog_18_method_11_code
def y_Precond_checkIndex : MethodName := ⟨"jdk/internal/util/Preconditions", "checkIndex", "(IILjava/util/function/BiFunction;)I"⟩
theorem cd_Precond_checkIndex : Cond.code y_Precond_checkIndex b_Precond_checkIndex 3 (some .int) ∈ tbl := tbl_in 406 (by decide +kernel) rfl
theorem st_Precond_checkIndex : Cond.static y_Precond_checkIndex ∈ tbl := tbl_in 405 (by decide +kernel) rfl
abbrev b_StringUTF16_charAt : ByteArray := prog_16_method_83_code
def y_StringUTF16_charAt : MethodName := ⟨"java/lang/StringUTF16", "charAt", "([BI)C"⟩
theorem cd_StringUTF16_charAt : Cond.code y_StringUTF16_charAt b_StringUTF16_charAt 2 (some .char) ∈ tbl := tbl_in 409 (by decide +kernel) rfl
theorem st_StringUTF16_charAt : Cond.static y_StringUTF16_charAt ∈ tbl := tbl_in 408 (by decide +kernel) rfl
abbrev b_StringUTF16_checkIndex : ByteArray := prog_16_method_91_code
def y_StringUTF16_checkIndex : MethodName := ⟨"java/lang/StringUTF16", "checkIndex", "(I[B)V"⟩
theorem cd_StringUTF16_checkIndex : Cond.code y_StringUTF16_checkIndex b_StringUTF16_checkIndex 2 (none) ∈ tbl := tbl_in 412 (by decide +kernel) rfl
theorem st_StringUTF16_checkIndex : Cond.static y_StringUTF16_checkIndex ∈ tbl := tbl_in 411 (by decide +kernel) rfl
abbrev b_StringUTF16_length : ByteArray := prog_16_method_6_code
def y_StringUTF16_length : MethodName := ⟨"java/lang/StringUTF16", "length", "([B)I"⟩
theorem cd_StringUTF16_length : Cond.code y_StringUTF16_length b_StringUTF16_length 1 (some .int) ∈ tbl := tbl_in 415 (by decide +kernel) rfl
theorem st_StringUTF16_length : Cond.static y_StringUTF16_length ∈ tbl := tbl_in 414 (by decide +kernel) rfl
abbrev b_StringUTF16_getChar : ByteArray := prog_16_method_5_code
def y_StringUTF16_getChar : MethodName := ⟨"java/lang/StringUTF16", "getChar", "([BI)C"⟩
theorem cd_StringUTF16_getChar : Cond.code y_StringUTF16_getChar b_StringUTF16_getChar 2 (some .char) ∈ tbl := tbl_in 419 (by decide +kernel) rfl
theorem st_StringUTF16_getChar : Cond.static y_StringUTF16_getChar ∈ tbl := tbl_in 418 (by decide +kernel) rfl
abbrev b_Teller_tellPeople : ByteArray := prog_9_method_10_code
def y_Teller_tellPeople : MethodName := ⟨"ShakeHands$Teller", "tellPeople", "()V"⟩
theorem cd_Teller_tellPeople : Cond.code y_Teller_tellPeople b_Teller_tellPeople 1 (none) ∈ tbl := tbl_in 429 (by decide +kernel) rfl
theorem im_Teller_tellPeople : Cond.instanceMethod y_Teller_tellPeople ∈ tbl := tbl_in 428 (by decide +kernel) rfl
theorem se_Teller_tellPeople : Cond.selects "ShakeHands$Teller" y_Teller_tellPeople y_Teller_tellPeople ∈ tbl := tbl_sel 6 (by decide +kernel) rfl
abbrev b_Teller_takeNumber : ByteArray := prog_9_method_17_code
def y_Teller_takeNumber : MethodName := ⟨"ShakeHands$Teller", "takeNumber", "(II)I"⟩
theorem cd_Teller_takeNumber : Cond.code y_Teller_takeNumber b_Teller_takeNumber 3 (some .int) ∈ tbl := tbl_in 433 (by decide +kernel) rfl
theorem im_Teller_takeNumber : Cond.instanceMethod y_Teller_takeNumber ∈ tbl := tbl_in 432 (by decide +kernel) rfl
theorem se_Teller_takeNumber : Cond.selects "ShakeHands$Teller" y_Teller_takeNumber y_Teller_takeNumber ∈ tbl := tbl_sel 7 (by decide +kernel) rfl
abbrev b_Teller_boundedValue : ByteArray := prog_9_method_18_code
def y_Teller_boundedValue : MethodName := ⟨"ShakeHands$Teller", "boundedValue", "(II)I"⟩
theorem cd_Teller_boundedValue : Cond.code y_Teller_boundedValue b_Teller_boundedValue 3 (some .int) ∈ tbl := tbl_in 437 (by decide +kernel) rfl
theorem im_Teller_boundedValue : Cond.instanceMethod y_Teller_boundedValue ∈ tbl := tbl_in 436 (by decide +kernel) rfl
theorem se_Teller_boundedValue : Cond.selects "ShakeHands$Teller" y_Teller_boundedValue y_Teller_boundedValue ∈ tbl := tbl_sel 8 (by decide +kernel) rfl
abbrev b_Teller_takeSign : ByteArray := prog_9_method_19_code
def y_Teller_takeSign : MethodName := ⟨"ShakeHands$Teller", "takeSign", "()V"⟩
theorem cd_Teller_takeSign : Cond.code y_Teller_takeSign b_Teller_takeSign 1 (none) ∈ tbl := tbl_in 441 (by decide +kernel) rfl
theorem im_Teller_takeSign : Cond.instanceMethod y_Teller_takeSign ∈ tbl := tbl_in 440 (by decide +kernel) rfl
theorem se_Teller_takeSign : Cond.selects "ShakeHands$Teller" y_Teller_takeSign y_Teller_takeSign ∈ tbl := tbl_sel 9 (by decide +kernel) rfl
abbrev b_Teller_tellHold : ByteArray := prog_9_method_11_code
def y_Teller_tellHold : MethodName := ⟨"ShakeHands$Teller", "tellHold", "()V"⟩
theorem cd_Teller_tellHold : Cond.code y_Teller_tellHold b_Teller_tellHold 1 (none) ∈ tbl := tbl_in 446 (by decide +kernel) rfl
theorem im_Teller_tellHold : Cond.instanceMethod y_Teller_tellHold ∈ tbl := tbl_in 445 (by decide +kernel) rfl
theorem se_Teller_tellHold : Cond.selects "ShakeHands$Teller" y_Teller_tellHold y_Teller_tellHold ∈ tbl := tbl_sel 10 (by decide +kernel) rfl
abbrev b_Teller_tellRow : ByteArray := prog_9_method_12_code
def y_Teller_tellRow : MethodName := ⟨"ShakeHands$Teller", "tellRow", "()V"⟩
theorem cd_Teller_tellRow : Cond.code y_Teller_tellRow b_Teller_tellRow 3 (none) ∈ tbl := tbl_in 451 (by decide +kernel) rfl
theorem im_Teller_tellRow : Cond.instanceMethod y_Teller_tellRow ∈ tbl := tbl_in 450 (by decide +kernel) rfl
theorem se_Teller_tellRow : Cond.selects "ShakeHands$Teller" y_Teller_tellRow y_Teller_tellRow ∈ tbl := tbl_sel 11 (by decide +kernel) rfl
abbrev b_Math_max : ByteArray := prog_13_method_65_code
def y_Math_max : MethodName := ⟨"java/lang/Math", "max", "(II)I"⟩
theorem cd_Math_max : Cond.code y_Math_max b_Math_max 2 (some .int) ∈ tbl := tbl_in 454 (by decide +kernel) rfl
theorem st_Math_max : Cond.static y_Math_max ∈ tbl := tbl_in 453 (by decide +kernel) rfl
abbrev b_Row_take : ByteArray := prog_5_method_6_code
def y_Row_take : MethodName := ⟨"ShakeHands$Row", "take", "(J)V"⟩
theorem cd_Row_take : Cond.code y_Row_take b_Row_take 3 (none) ∈ tbl := tbl_in 458 (by decide +kernel) rfl
theorem im_Row_take : Cond.instanceMethod y_Row_take ∈ tbl := tbl_in 456 (by decide +kernel) rfl
theorem se_Row_take : Cond.selects "ShakeHands$Row" y_Row_take y_Row_take ∈ tbl := tbl_in 457 (by decide +kernel) rfl
abbrev b_Teller_tellThing : ByteArray := prog_9_method_13_code
def y_Teller_tellThing : MethodName := ⟨"ShakeHands$Teller", "tellThing", "(I)V"⟩
theorem cd_Teller_tellThing : Cond.code y_Teller_tellThing b_Teller_tellThing 2 (none) ∈ tbl := tbl_in 463 (by decide +kernel) rfl
theorem im_Teller_tellThing : Cond.instanceMethod y_Teller_tellThing ∈ tbl := tbl_in 462 (by decide +kernel) rfl
theorem se_Teller_tellThing : Cond.selects "ShakeHands$Teller" y_Teller_tellThing y_Teller_tellThing ∈ tbl := tbl_sel 12 (by decide +kernel) rfl
abbrev b_Integer_bitCount : ByteArray := prog_12_method_49_code
def y_Integer_bitCount : MethodName := ⟨"java/lang/Integer", "bitCount", "(I)I"⟩
theorem cd_Integer_bitCount : Cond.code y_Integer_bitCount b_Integer_bitCount 1 (some .int) ∈ tbl := tbl_in 466 (by decide +kernel) rfl
theorem st_Integer_bitCount : Cond.static y_Integer_bitCount ∈ tbl := tbl_in 465 (by decide +kernel) rfl
abbrev b_Row_add : ByteArray := prog_5_method_8_code
def y_Row_add : MethodName := ⟨"ShakeHands$Row", "add", "(I)V"⟩
theorem cd_Row_add : Cond.code y_Row_add b_Row_add 2 (none) ∈ tbl := tbl_in 473 (by decide +kernel) rfl
theorem im_Row_add : Cond.instanceMethod y_Row_add ∈ tbl := tbl_in 471 (by decide +kernel) rfl
theorem se_Row_add : Cond.selects "ShakeHands$Row" y_Row_add y_Row_add ∈ tbl := tbl_in 472 (by decide +kernel) rfl
abbrev b_Row_atRest : ByteArray := prog_5_method_7_code
def y_Row_atRest : MethodName := ⟨"ShakeHands$Row", "atRest", "()J"⟩
theorem cd_Row_atRest : Cond.code y_Row_atRest b_Row_atRest 1 (some .long) ∈ tbl := tbl_in 478 (by decide +kernel) rfl
theorem im_Row_atRest : Cond.instanceMethod y_Row_atRest ∈ tbl := tbl_in 476 (by decide +kernel) rfl
theorem se_Row_atRest : Cond.selects "ShakeHands$Row" y_Row_atRest y_Row_atRest ∈ tbl := tbl_in 477 (by decide +kernel) rfl
abbrev b_Teller_tellJoin : ByteArray := prog_9_method_14_code
def y_Teller_tellJoin : MethodName := ⟨"ShakeHands$Teller", "tellJoin", "()V"⟩
theorem cd_Teller_tellJoin : Cond.code y_Teller_tellJoin b_Teller_tellJoin 5 (none) ∈ tbl := tbl_in 483 (by decide +kernel) rfl
theorem im_Teller_tellJoin : Cond.instanceMethod y_Teller_tellJoin ∈ tbl := tbl_in 482 (by decide +kernel) rfl
theorem se_Teller_tellJoin : Cond.selects "ShakeHands$Teller" y_Teller_tellJoin y_Teller_tellJoin ∈ tbl := tbl_sel 13 (by decide +kernel) rfl
abbrev b_Teller_tellPair : ByteArray := prog_9_method_15_code
def y_Teller_tellPair : MethodName := ⟨"ShakeHands$Teller", "tellPair", "([II)I"⟩
theorem cd_Teller_tellPair : Cond.code y_Teller_tellPair b_Teller_tellPair 5 (some .int) ∈ tbl := tbl_in 488 (by decide +kernel) rfl
theorem im_Teller_tellPair : Cond.instanceMethod y_Teller_tellPair ∈ tbl := tbl_in 487 (by decide +kernel) rfl
theorem se_Teller_tellPair : Cond.selects "ShakeHands$Teller" y_Teller_tellPair y_Teller_tellPair ∈ tbl := tbl_sel 14 (by decide +kernel) rfl
abbrev b_ShakeHands_pairOf : ByteArray := prog_1_method_50_code
def y_ShakeHands_pairOf : MethodName := ⟨"ShakeHands", "pairOf", "(II)I"⟩
theorem cd_ShakeHands_pairOf : Cond.code y_ShakeHands_pairOf b_ShakeHands_pairOf 3 (some .int) ∈ tbl := tbl_in 491 (by decide +kernel) rfl
theorem st_ShakeHands_pairOf : Cond.static y_ShakeHands_pairOf ∈ tbl := tbl_in 490 (by decide +kernel) rfl
abbrev b_Math_min : ByteArray := prog_13_method_69_code
def y_Math_min : MethodName := ⟨"java/lang/Math", "min", "(II)I"⟩
theorem cd_Math_min : Cond.code y_Math_min b_Math_min 2 (some .int) ∈ tbl := tbl_in 495 (by decide +kernel) rfl
theorem st_Math_min : Cond.static y_Math_min ∈ tbl := tbl_in 494 (by decide +kernel) rfl
abbrev b_Teller_tellGlove : ByteArray := prog_9_method_16_code
def y_Teller_tellGlove : MethodName := ⟨"ShakeHands$Teller", "tellGlove", "()V"⟩
theorem cd_Teller_tellGlove : Cond.code y_Teller_tellGlove b_Teller_tellGlove 2 (none) ∈ tbl := tbl_in 501 (by decide +kernel) rfl
theorem im_Teller_tellGlove : Cond.instanceMethod y_Teller_tellGlove ∈ tbl := tbl_in 500 (by decide +kernel) rfl
theorem se_Teller_tellGlove : Cond.selects "ShakeHands$Teller" y_Teller_tellGlove y_Teller_tellGlove ∈ tbl := tbl_sel 15 (by decide +kernel) rfl
abbrev b_Teller_lookBack : ByteArray := prog_9_method_4_code
def y_Teller_lookBack : MethodName := ⟨"ShakeHands$Teller", "lookBack", "()V"⟩
theorem cd_Teller_lookBack : Cond.code y_Teller_lookBack b_Teller_lookBack 1 (none) ∈ tbl := tbl_in 505 (by decide +kernel) rfl
theorem im_Teller_lookBack : Cond.instanceMethod y_Teller_lookBack ∈ tbl := tbl_in 504 (by decide +kernel) rfl
theorem se_Teller_lookBack : Cond.selects "ShakeHands$Teller" y_Teller_lookBack y_Teller_lookBack ∈ tbl := tbl_sel 16 (by decide +kernel) rfl
abbrev b_Circle_copy : ByteArray := prog_2_method_3_code
def y_Circle_copy : MethodName := ⟨"ShakeHands$Circle", "copy", "(LShakeHands$Circle;)V"⟩
theorem cd_Circle_copy : Cond.code y_Circle_copy b_Circle_copy 2 (none) ∈ tbl := tbl_in 509 (by decide +kernel) rfl
theorem im_Circle_copy : Cond.instanceMethod y_Circle_copy ∈ tbl := tbl_in 507 (by decide +kernel) rfl
theorem se_Circle_copy : Cond.selects "ShakeHands$Circle" y_Circle_copy y_Circle_copy ∈ tbl := tbl_in 508 (by decide +kernel) rfl
abbrev b_ShakeHands_fault : ByteArray := prog_1_method_5_code
def y_ShakeHands_fault : MethodName := ⟨"ShakeHands", "fault", "()I"⟩
theorem cd_ShakeHands_fault : Cond.code y_ShakeHands_fault b_ShakeHands_fault 1 (some .int) ∈ tbl := tbl_in 517 (by decide +kernel) rfl
theorem im_ShakeHands_fault : Cond.instanceMethod y_ShakeHands_fault ∈ tbl := tbl_in 515 (by decide +kernel) rfl
theorem se_ShakeHands_fault : Cond.selects "ShakeHands" y_ShakeHands_fault y_ShakeHands_fault ∈ tbl := tbl_in 516 (by decide +kernel) rfl
abbrev b_ShakeHands_rule : ByteArray := prog_1_method_6_code
def y_ShakeHands_rule : MethodName := ⟨"ShakeHands", "rule", "(I)I"⟩
theorem cd_ShakeHands_rule : Cond.code y_ShakeHands_rule b_ShakeHands_rule 2 (some .int) ∈ tbl := tbl_in 521 (by decide +kernel) rfl
theorem im_ShakeHands_rule : Cond.instanceMethod y_ShakeHands_rule ∈ tbl := tbl_in 519 (by decide +kernel) rfl
theorem se_ShakeHands_rule : Cond.selects "ShakeHands" y_ShakeHands_rule y_ShakeHands_rule ∈ tbl := tbl_in 520 (by decide +kernel) rfl
abbrev b_ShakeHands_hand : ByteArray := prog_1_method_7_code
def y_ShakeHands_hand : MethodName := ⟨"ShakeHands", "hand", "(IZ)I"⟩
theorem cd_ShakeHands_hand : Cond.code y_ShakeHands_hand b_ShakeHands_hand 3 (some .int) ∈ tbl := tbl_in 526 (by decide +kernel) rfl
theorem im_ShakeHands_hand : Cond.instanceMethod y_ShakeHands_hand ∈ tbl := tbl_in 524 (by decide +kernel) rfl
theorem se_ShakeHands_hand : Cond.selects "ShakeHands" y_ShakeHands_hand y_ShakeHands_hand ∈ tbl := tbl_in 525 (by decide +kernel) rfl
abbrev b_ShakeHands_join : ByteArray := prog_1_method_8_code
def y_ShakeHands_join : MethodName := ⟨"ShakeHands", "join", "(II)I"⟩
theorem cd_ShakeHands_join : Cond.code y_ShakeHands_join b_ShakeHands_join 3 (some .int) ∈ tbl := tbl_in 530 (by decide +kernel) rfl
theorem im_ShakeHands_join : Cond.instanceMethod y_ShakeHands_join ∈ tbl := tbl_in 528 (by decide +kernel) rfl
theorem se_ShakeHands_join : Cond.selects "ShakeHands" y_ShakeHands_join y_ShakeHands_join ∈ tbl := tbl_in 529 (by decide +kernel) rfl
abbrev b_ShakeHands_knows : ByteArray := prog_1_method_9_code
def y_ShakeHands_knows : MethodName := ⟨"ShakeHands", "knows", "(I)I"⟩
theorem cd_ShakeHands_knows : Cond.code y_ShakeHands_knows b_ShakeHands_knows 2 (some .int) ∈ tbl := tbl_in 534 (by decide +kernel) rfl
theorem im_ShakeHands_knows : Cond.instanceMethod y_ShakeHands_knows ∈ tbl := tbl_in 532 (by decide +kernel) rfl
theorem se_ShakeHands_knows : Cond.selects "ShakeHands" y_ShakeHands_knows y_ShakeHands_knows ∈ tbl := tbl_in 533 (by decide +kernel) rfl
abbrev b_ShakeHands_isOne : ByteArray := prog_1_method_39_code
def y_ShakeHands_isOne : MethodName := ⟨"ShakeHands", "isOne", "(I)Z"⟩
theorem cd_ShakeHands_isOne : Cond.code y_ShakeHands_isOne b_ShakeHands_isOne 2 (some .boolean) ∈ tbl := tbl_in 538 (by decide +kernel) rfl
theorem im_ShakeHands_isOne : Cond.instanceMethod y_ShakeHands_isOne ∈ tbl := tbl_in 537 (by decide +kernel) rfl
theorem se_ShakeHands_isOne : Cond.selects "ShakeHands" y_ShakeHands_isOne y_ShakeHands_isOne ∈ tbl := tbl_sel 17 (by decide +kernel) rfl
abbrev b_Row_knownOf : ByteArray := prog_5_method_2_code
def y_Row_knownOf : MethodName := ⟨"ShakeHands$Row", "knownOf", "(J)I"⟩
theorem cd_Row_knownOf : Cond.code y_Row_knownOf b_Row_knownOf 2 (some .int) ∈ tbl := tbl_in 541 (by decide +kernel) rfl
theorem st_Row_knownOf : Cond.static y_Row_knownOf ∈ tbl := tbl_in 540 (by decide +kernel) rfl
abbrev b_ShakeHands_row : ByteArray := prog_1_method_10_code
def y_ShakeHands_row : MethodName := ⟨"ShakeHands", "row", "(II)I"⟩
theorem cd_ShakeHands_row : Cond.code y_ShakeHands_row b_ShakeHands_row 5 (some .int) ∈ tbl := tbl_in 545 (by decide +kernel) rfl
theorem im_ShakeHands_row : Cond.instanceMethod y_ShakeHands_row ∈ tbl := tbl_in 543 (by decide +kernel) rfl
theorem se_ShakeHands_row : Cond.selects "ShakeHands" y_ShakeHands_row y_ShakeHands_row ∈ tbl := tbl_in 544 (by decide +kernel) rfl
abbrev b_Row_sizeOf : ByteArray := prog_5_method_3_code
def y_Row_sizeOf : MethodName := ⟨"ShakeHands$Row", "sizeOf", "(J)I"⟩
theorem cd_Row_sizeOf : Cond.code y_Row_sizeOf b_Row_sizeOf 2 (some .int) ∈ tbl := tbl_in 548 (by decide +kernel) rfl
theorem st_Row_sizeOf : Cond.static y_Row_sizeOf ∈ tbl := tbl_in 547 (by decide +kernel) rfl
abbrev b_Row_thingOf : ByteArray := prog_5_method_4_code
def y_Row_thingOf : MethodName := ⟨"ShakeHands$Row", "thingOf", "(JI)I"⟩
theorem cd_Row_thingOf : Cond.code y_Row_thingOf b_Row_thingOf 3 (some .int) ∈ tbl := tbl_in 551 (by decide +kernel) rfl
theorem st_Row_thingOf : Cond.static y_Row_thingOf ∈ tbl := tbl_in 550 (by decide +kernel) rfl
abbrev b_ShakeHands_who : ByteArray := prog_1_method_11_code
def y_ShakeHands_who : MethodName := ⟨"ShakeHands", "who", "(I)I"⟩
theorem cd_ShakeHands_who : Cond.code y_ShakeHands_who b_ShakeHands_who 2 (some .int) ∈ tbl := tbl_in 555 (by decide +kernel) rfl
theorem im_ShakeHands_who : Cond.instanceMethod y_ShakeHands_who ∈ tbl := tbl_in 553 (by decide +kernel) rfl
theorem se_ShakeHands_who : Cond.selects "ShakeHands" y_ShakeHands_who y_ShakeHands_who ∈ tbl := tbl_in 554 (by decide +kernel) rfl
abbrev b_ShakeHands_isThing : ByteArray := prog_1_method_43_code
def y_ShakeHands_isThing : MethodName := ⟨"ShakeHands", "isThing", "(I)Z"⟩
theorem cd_ShakeHands_isThing : Cond.code y_ShakeHands_isThing b_ShakeHands_isThing 1 (some .boolean) ∈ tbl := tbl_in 558 (by decide +kernel) rfl
theorem st_ShakeHands_isThing : Cond.static y_ShakeHands_isThing ∈ tbl := tbl_in 557 (by decide +kernel) rfl
abbrev b_Minds_knowers : ByteArray := prog_4_method_3_code
def y_Minds_knowers : MethodName := ⟨"ShakeHands$Minds", "knowers", "([JI)I"⟩
theorem cd_Minds_knowers : Cond.code y_Minds_knowers b_Minds_knowers 4 (some .int) ∈ tbl := tbl_in 561 (by decide +kernel) rfl
theorem st_Minds_knowers : Cond.static y_Minds_knowers ∈ tbl := tbl_in 560 (by decide +kernel) rfl
abbrev b_ShakeHands_learn : ByteArray := prog_1_method_12_code
def y_ShakeHands_learn : MethodName := ⟨"ShakeHands", "learn", "(II)I"⟩
theorem cd_ShakeHands_learn : Cond.code y_ShakeHands_learn b_ShakeHands_learn 3 (some .int) ∈ tbl := tbl_in 565 (by decide +kernel) rfl
theorem im_ShakeHands_learn : Cond.instanceMethod y_ShakeHands_learn ∈ tbl := tbl_in 563 (by decide +kernel) rfl
theorem se_ShakeHands_learn : Cond.selects "ShakeHands" y_ShakeHands_learn y_ShakeHands_learn ∈ tbl := tbl_in 564 (by decide +kernel) rfl
abbrev b_ShakeHands_knowsNow : ByteArray := prog_1_method_48_code
def y_ShakeHands_knowsNow : MethodName := ⟨"ShakeHands", "knowsNow", "(II)Z"⟩
theorem cd_ShakeHands_knowsNow : Cond.code y_ShakeHands_knowsNow b_ShakeHands_knowsNow 3 (some .boolean) ∈ tbl := tbl_in 569 (by decide +kernel) rfl
theorem im_ShakeHands_knowsNow : Cond.instanceMethod y_ShakeHands_knowsNow ∈ tbl := tbl_in 568 (by decide +kernel) rfl
theorem se_ShakeHands_knowsNow : Cond.selects "ShakeHands" y_ShakeHands_knowsNow y_ShakeHands_knowsNow ∈ tbl := tbl_sel 18 (by decide +kernel) rfl
abbrev b_Row_knowsIt : ByteArray := prog_5_method_5_code
def y_Row_knowsIt : MethodName := ⟨"ShakeHands$Row", "knowsIt", "(JI)Z"⟩
theorem cd_Row_knowsIt : Cond.code y_Row_knowsIt b_Row_knowsIt 3 (some .boolean) ∈ tbl := tbl_in 572 (by decide +kernel) rfl
theorem st_Row_knowsIt : Cond.static y_Row_knowsIt ∈ tbl := tbl_in 571 (by decide +kernel) rfl
abbrev b_Circle_taught : ByteArray := prog_2_method_5_code
def y_Circle_taught : MethodName := ⟨"ShakeHands$Circle", "taught", "(JI)J"⟩
theorem cd_Circle_taught : Cond.code y_Circle_taught b_Circle_taught 4 (some .long) ∈ tbl := tbl_in 576 (by decide +kernel) rfl
theorem im_Circle_taught : Cond.instanceMethod y_Circle_taught ∈ tbl := tbl_in 574 (by decide +kernel) rfl
theorem se_Circle_taught : Cond.selects "ShakeHands$Circle" y_Circle_taught y_Circle_taught ∈ tbl := tbl_in 575 (by decide +kernel) rfl
abbrev b_Circle_settle : ByteArray := prog_2_method_9_code
def y_Circle_settle : MethodName := ⟨"ShakeHands$Circle", "settle", "()V"⟩
theorem cd_Circle_settle : Cond.code y_Circle_settle b_Circle_settle 3 (none) ∈ tbl := tbl_in 582 (by decide +kernel) rfl
theorem im_Circle_settle : Cond.instanceMethod y_Circle_settle ∈ tbl := tbl_in 581 (by decide +kernel) rfl
theorem se_Circle_settle : Cond.selects "ShakeHands$Circle" y_Circle_settle y_Circle_settle ∈ tbl := tbl_sel 19 (by decide +kernel) rfl
abbrev b_Circle_firstJoin : ByteArray := prog_2_method_10_code
def y_Circle_firstJoin : MethodName := ⟨"ShakeHands$Circle", "firstJoin", "()I"⟩
theorem cd_Circle_firstJoin : Cond.code y_Circle_firstJoin b_Circle_firstJoin 2 (some .int) ∈ tbl := tbl_in 586 (by decide +kernel) rfl
theorem im_Circle_firstJoin : Cond.instanceMethod y_Circle_firstJoin ∈ tbl := tbl_in 585 (by decide +kernel) rfl
theorem se_Circle_firstJoin : Cond.selects "ShakeHands$Circle" y_Circle_firstJoin y_Circle_firstJoin ∈ tbl := tbl_sel 20 (by decide +kernel) rfl
abbrev b_Row_drop : ByteArray := prog_5_method_10_code
def y_Row_drop : MethodName := ⟨"ShakeHands$Row", "drop", "(I)V"⟩
theorem cd_Row_drop : Cond.code y_Row_drop b_Row_drop 6 (none) ∈ tbl := tbl_in 590 (by decide +kernel) rfl
theorem im_Row_drop : Cond.instanceMethod y_Row_drop ∈ tbl := tbl_in 588 (by decide +kernel) rfl
theorem se_Row_drop : Cond.selects "ShakeHands$Row" y_Row_drop y_Row_drop ∈ tbl := tbl_in 589 (by decide +kernel) rfl
abbrev b_Row_shorten : ByteArray := prog_5_method_11_code
def y_Row_shorten : MethodName := ⟨"ShakeHands$Row", "shorten", "(I)V"⟩
theorem cd_Row_shorten : Cond.code y_Row_shorten b_Row_shorten 3 (none) ∈ tbl := tbl_in 595 (by decide +kernel) rfl
theorem im_Row_shorten : Cond.instanceMethod y_Row_shorten ∈ tbl := tbl_in 593 (by decide +kernel) rfl
theorem se_Row_shorten : Cond.selects "ShakeHands$Row" y_Row_shorten y_Row_shorten ∈ tbl := tbl_in 594 (by decide +kernel) rfl
abbrev b_ShakeHands_forget : ByteArray := prog_1_method_13_code
def y_ShakeHands_forget : MethodName := ⟨"ShakeHands", "forget", "(II)I"⟩
theorem cd_ShakeHands_forget : Cond.code y_ShakeHands_forget b_ShakeHands_forget 3 (some .int) ∈ tbl := tbl_in 600 (by decide +kernel) rfl
theorem im_ShakeHands_forget : Cond.instanceMethod y_ShakeHands_forget ∈ tbl := tbl_in 598 (by decide +kernel) rfl
theorem se_ShakeHands_forget : Cond.selects "ShakeHands" y_ShakeHands_forget y_ShakeHands_forget ∈ tbl := tbl_in 599 (by decide +kernel) rfl
abbrev b_Circle_without : ByteArray := prog_2_method_6_code
def y_Circle_without : MethodName := ⟨"ShakeHands$Circle", "without", "(JI)J"⟩
theorem cd_Circle_without : Cond.code y_Circle_without b_Circle_without 4 (some .long) ∈ tbl := tbl_in 604 (by decide +kernel) rfl
theorem im_Circle_without : Cond.instanceMethod y_Circle_without ∈ tbl := tbl_in 602 (by decide +kernel) rfl
theorem se_Circle_without : Cond.selects "ShakeHands$Circle" y_Circle_without y_Circle_without ∈ tbl := tbl_in 603 (by decide +kernel) rfl
abbrev b_ShakeHands_glove : ByteArray := prog_1_method_14_code
def y_ShakeHands_glove : MethodName := ⟨"ShakeHands", "glove", "(IZ)I"⟩
theorem cd_ShakeHands_glove : Cond.code y_ShakeHands_glove b_ShakeHands_glove 4 (some .int) ∈ tbl := tbl_in 608 (by decide +kernel) rfl
theorem im_ShakeHands_glove : Cond.instanceMethod y_ShakeHands_glove ∈ tbl := tbl_in 606 (by decide +kernel) rfl
theorem se_ShakeHands_glove : Cond.selects "ShakeHands" y_ShakeHands_glove y_ShakeHands_glove ∈ tbl := tbl_in 607 (by decide +kernel) rfl
abbrev b_ShakeHands_shake : ByteArray := prog_1_method_15_code
def y_ShakeHands_shake : MethodName := ⟨"ShakeHands", "shake", "(II)I"⟩
theorem cd_ShakeHands_shake : Cond.code y_ShakeHands_shake b_ShakeHands_shake 3 (some .int) ∈ tbl := tbl_in 612 (by decide +kernel) rfl
theorem im_ShakeHands_shake : Cond.instanceMethod y_ShakeHands_shake ∈ tbl := tbl_in 610 (by decide +kernel) rfl
theorem se_ShakeHands_shake : Cond.selects "ShakeHands" y_ShakeHands_shake y_ShakeHands_shake ∈ tbl := tbl_in 611 (by decide +kernel) rfl
abbrev b_ShakeHands_areTwo : ByteArray := prog_1_method_40_code
def y_ShakeHands_areTwo : MethodName := ⟨"ShakeHands", "areTwo", "(II)Z"⟩
theorem cd_ShakeHands_areTwo : Cond.code y_ShakeHands_areTwo b_ShakeHands_areTwo 3 (some .boolean) ∈ tbl := tbl_in 616 (by decide +kernel) rfl
theorem im_ShakeHands_areTwo : Cond.instanceMethod y_ShakeHands_areTwo ∈ tbl := tbl_in 615 (by decide +kernel) rfl
theorem se_ShakeHands_areTwo : Cond.selects "ShakeHands" y_ShakeHands_areTwo y_ShakeHands_areTwo ∈ tbl := tbl_sel 21 (by decide +kernel) rfl
abbrev b_Circle_meet : ByteArray := prog_2_method_4_code
def y_Circle_meet : MethodName := ⟨"ShakeHands$Circle", "meet", "([JII)Z"⟩
theorem cd_Circle_meet : Cond.code y_Circle_meet b_Circle_meet 9 (some .boolean) ∈ tbl := tbl_in 621 (by decide +kernel) rfl
theorem im_Circle_meet : Cond.instanceMethod y_Circle_meet ∈ tbl := tbl_in 619 (by decide +kernel) rfl
theorem se_Circle_meet : Cond.selects "ShakeHands$Circle" y_Circle_meet y_Circle_meet ∈ tbl := tbl_in 620 (by decide +kernel) rfl
abbrev b_Row_addAll : ByteArray := prog_5_method_9_code
def y_Row_addAll : MethodName := ⟨"ShakeHands$Row", "addAll", "(J)V"⟩
theorem cd_Row_addAll : Cond.code y_Row_addAll b_Row_addAll 5 (none) ∈ tbl := tbl_in 629 (by decide +kernel) rfl
theorem im_Row_addAll : Cond.instanceMethod y_Row_addAll ∈ tbl := tbl_in 627 (by decide +kernel) rfl
theorem se_Row_addAll : Cond.selects "ShakeHands$Row" y_Row_addAll y_Row_addAll ∈ tbl := tbl_in 628 (by decide +kernel) rfl
abbrev b_ShakeHands_feast : ByteArray := prog_1_method_16_code
def y_ShakeHands_feast : MethodName := ⟨"ShakeHands", "feast", "(I)I"⟩
theorem cd_ShakeHands_feast : Cond.code y_ShakeHands_feast b_ShakeHands_feast 3 (some .int) ∈ tbl := tbl_in 634 (by decide +kernel) rfl
theorem im_ShakeHands_feast : Cond.instanceMethod y_ShakeHands_feast ∈ tbl := tbl_in 632 (by decide +kernel) rfl
theorem se_ShakeHands_feast : Cond.selects "ShakeHands" y_ShakeHands_feast y_ShakeHands_feast ∈ tbl := tbl_in 633 (by decide +kernel) rfl
abbrev b_ShakeHands_isFeastPart : ByteArray := prog_1_method_44_code
def y_ShakeHands_isFeastPart : MethodName := ⟨"ShakeHands", "isFeastPart", "(I)Z"⟩
theorem cd_ShakeHands_isFeastPart : Cond.code y_ShakeHands_isFeastPart b_ShakeHands_isFeastPart 2 (some .boolean) ∈ tbl := tbl_in 638 (by decide +kernel) rfl
theorem im_ShakeHands_isFeastPart : Cond.instanceMethod y_ShakeHands_isFeastPart ∈ tbl := tbl_in 637 (by decide +kernel) rfl
theorem se_ShakeHands_isFeastPart : Cond.selects "ShakeHands" y_ShakeHands_isFeastPart y_ShakeHands_isFeastPart ∈ tbl := tbl_sel 22 (by decide +kernel) rfl
abbrev b_Minds_known : ByteArray := prog_4_method_4_code
def y_Minds_known : MethodName := ⟨"ShakeHands$Minds", "known", "([J)I"⟩
theorem cd_Minds_known : Cond.code y_Minds_known b_Minds_known 4 (some .int) ∈ tbl := tbl_in 641 (by decide +kernel) rfl
theorem st_Minds_known : Cond.static y_Minds_known ∈ tbl := tbl_in 640 (by decide +kernel) rfl
abbrev b_Circle_celebrate : ByteArray := prog_2_method_7_code
def y_Circle_celebrate : MethodName := ⟨"ShakeHands$Circle", "celebrate", "([JII)V"⟩
theorem cd_Circle_celebrate : Cond.code y_Circle_celebrate b_Circle_celebrate 5 (none) ∈ tbl := tbl_in 645 (by decide +kernel) rfl
theorem im_Circle_celebrate : Cond.instanceMethod y_Circle_celebrate ∈ tbl := tbl_in 643 (by decide +kernel) rfl
theorem se_Circle_celebrate : Cond.selects "ShakeHands$Circle" y_Circle_celebrate y_Circle_celebrate ∈ tbl := tbl_in 644 (by decide +kernel) rfl
abbrev b_ShakeHands_after : ByteArray := prog_1_method_17_code
def y_ShakeHands_after : MethodName := ⟨"ShakeHands", "after", "(II)I"⟩
theorem cd_ShakeHands_after : Cond.code y_ShakeHands_after b_ShakeHands_after 3 (some .int) ∈ tbl := tbl_in 650 (by decide +kernel) rfl
theorem im_ShakeHands_after : Cond.instanceMethod y_ShakeHands_after ∈ tbl := tbl_in 648 (by decide +kernel) rfl
theorem se_ShakeHands_after : Cond.selects "ShakeHands" y_ShakeHands_after y_ShakeHands_after ∈ tbl := tbl_in 649 (by decide +kernel) rfl
abbrev b_ShakeHands_takeTrial : ByteArray := prog_1_method_49_code
def y_ShakeHands_takeTrial : MethodName := ⟨"ShakeHands", "takeTrial", "()V"⟩
theorem cd_ShakeHands_takeTrial : Cond.code y_ShakeHands_takeTrial b_ShakeHands_takeTrial 1 (none) ∈ tbl := tbl_in 654 (by decide +kernel) rfl
theorem im_ShakeHands_takeTrial : Cond.instanceMethod y_ShakeHands_takeTrial ∈ tbl := tbl_in 653 (by decide +kernel) rfl
theorem se_ShakeHands_takeTrial : Cond.selects "ShakeHands" y_ShakeHands_takeTrial y_ShakeHands_takeTrial ∈ tbl := tbl_sel 23 (by decide +kernel) rfl
abbrev b_ShakeHands_lost : ByteArray := prog_1_method_18_code
def y_ShakeHands_lost : MethodName := ⟨"ShakeHands", "lost", "(I)I"⟩
theorem cd_ShakeHands_lost : Cond.code y_ShakeHands_lost b_ShakeHands_lost 3 (some .int) ∈ tbl := tbl_in 658 (by decide +kernel) rfl
theorem im_ShakeHands_lost : Cond.instanceMethod y_ShakeHands_lost ∈ tbl := tbl_in 656 (by decide +kernel) rfl
theorem se_ShakeHands_lost : Cond.selects "ShakeHands" y_ShakeHands_lost y_ShakeHands_lost ∈ tbl := tbl_in 657 (by decide +kernel) rfl
abbrev b_ShakeHands_told : ByteArray := prog_1_method_19_code
def y_ShakeHands_told : MethodName := ⟨"ShakeHands", "told", "(II)I"⟩
theorem cd_ShakeHands_told : Cond.code y_ShakeHands_told b_ShakeHands_told 4 (some .int) ∈ tbl := tbl_in 662 (by decide +kernel) rfl
theorem im_ShakeHands_told : Cond.instanceMethod y_ShakeHands_told ∈ tbl := tbl_in 660 (by decide +kernel) rfl
theorem se_ShakeHands_told : Cond.selects "ShakeHands" y_ShakeHands_told y_ShakeHands_told ∈ tbl := tbl_in 661 (by decide +kernel) rfl
abbrev b_ShakeHands_fewest : ByteArray := prog_1_method_20_code
def y_ShakeHands_fewest : MethodName := ⟨"ShakeHands", "fewest", "(IIII)I"⟩
theorem cd_ShakeHands_fewest : Cond.code y_ShakeHands_fewest b_ShakeHands_fewest 7 (some .int) ∈ tbl := tbl_in 666 (by decide +kernel) rfl
theorem im_ShakeHands_fewest : Cond.instanceMethod y_ShakeHands_fewest ∈ tbl := tbl_in 664 (by decide +kernel) rfl
theorem se_ShakeHands_fewest : Cond.selects "ShakeHands" y_ShakeHands_fewest y_ShakeHands_fewest ∈ tbl := tbl_in 665 (by decide +kernel) rfl
abbrev b_ShakeHands_arePeople : ByteArray := prog_1_method_41_code
def y_ShakeHands_arePeople : MethodName := ⟨"ShakeHands", "arePeople", "(I)Z"⟩
theorem cd_ShakeHands_arePeople : Cond.code y_ShakeHands_arePeople b_ShakeHands_arePeople 2 (some .boolean) ∈ tbl := tbl_in 670 (by decide +kernel) rfl
theorem im_ShakeHands_arePeople : Cond.instanceMethod y_ShakeHands_arePeople ∈ tbl := tbl_in 669 (by decide +kernel) rfl
theorem se_ShakeHands_arePeople : Cond.selects "ShakeHands" y_ShakeHands_arePeople y_ShakeHands_arePeople ∈ tbl := tbl_sel 24 (by decide +kernel) rfl
abbrev b_ShakeHands_everybody : ByteArray := prog_1_method_42_code
def y_ShakeHands_everybody : MethodName := ⟨"ShakeHands", "everybody", "()I"⟩
theorem cd_ShakeHands_everybody : Cond.code y_ShakeHands_everybody b_ShakeHands_everybody 1 (some .int) ∈ tbl := tbl_in 674 (by decide +kernel) rfl
theorem im_ShakeHands_everybody : Cond.instanceMethod y_ShakeHands_everybody ∈ tbl := tbl_in 673 (by decide +kernel) rfl
theorem se_ShakeHands_everybody : Cond.selects "ShakeHands" y_ShakeHands_everybody y_ShakeHands_everybody ∈ tbl := tbl_sel 25 (by decide +kernel) rfl
abbrev b_Search_begin : ByteArray := prog_6_method_2_code
def y_Search_begin : MethodName := ⟨"ShakeHands$Search", "begin", "()V"⟩
theorem cd_Search_begin : Cond.code y_Search_begin b_Search_begin 1 (none) ∈ tbl := tbl_in 678 (by decide +kernel) rfl
theorem im_Search_begin : Cond.instanceMethod y_Search_begin ∈ tbl := tbl_in 676 (by decide +kernel) rfl
theorem se_Search_begin : Cond.selects "ShakeHands$Search" y_Search_begin y_Search_begin ∈ tbl := tbl_in 677 (by decide +kernel) rfl
abbrev b_Search_aim : ByteArray := prog_6_method_3_code
def y_Search_aim : MethodName := ⟨"ShakeHands$Search", "aim", "(IIII)V"⟩
theorem cd_Search_aim : Cond.code y_Search_aim b_Search_aim 5 (none) ∈ tbl := tbl_in 683 (by decide +kernel) rfl
theorem im_Search_aim : Cond.instanceMethod y_Search_aim ∈ tbl := tbl_in 681 (by decide +kernel) rfl
theorem se_Search_aim : Cond.selects "ShakeHands$Search" y_Search_aim y_Search_aim ∈ tbl := tbl_in 682 (by decide +kernel) rfl
abbrev b_Search_fewestHands : ByteArray := prog_6_method_4_code
def y_Search_fewestHands : MethodName := ⟨"ShakeHands$Search", "fewestHands", "()I"⟩
theorem cd_Search_fewestHands : Cond.code y_Search_fewestHands b_Search_fewestHands 2 (some .int) ∈ tbl := tbl_in 687 (by decide +kernel) rfl
theorem im_Search_fewestHands : Cond.instanceMethod y_Search_fewestHands ∈ tbl := tbl_in 685 (by decide +kernel) rfl
theorem se_Search_fewestHands : Cond.selects "ShakeHands$Search" y_Search_fewestHands y_Search_fewestHands ∈ tbl := tbl_in 686 (by decide +kernel) rfl
abbrev b_Search_isBarred : ByteArray := prog_6_method_8_code
def y_Search_isBarred : MethodName := ⟨"ShakeHands$Search", "isBarred", "([J)Z"⟩
theorem cd_Search_isBarred : Cond.code y_Search_isBarred b_Search_isBarred 2 (some .boolean) ∈ tbl := tbl_in 691 (by decide +kernel) rfl
theorem im_Search_isBarred : Cond.instanceMethod y_Search_isBarred ∈ tbl := tbl_in 690 (by decide +kernel) rfl
theorem se_Search_isBarred : Cond.selects "ShakeHands$Search" y_Search_isBarred y_Search_isBarred ∈ tbl := tbl_sel 26 (by decide +kernel) rfl
abbrev b_Search_reaches : ByteArray := prog_6_method_14_code
def y_Search_reaches : MethodName := ⟨"ShakeHands$Search", "reaches", "(LShakeHands$Search;II)Z"⟩
theorem cd_Search_reaches : Cond.code y_Search_reaches b_Search_reaches 5 (some .boolean) ∈ tbl := tbl_in 695 (by decide +kernel) rfl
theorem st_Search_reaches : Cond.static y_Search_reaches ∈ tbl := tbl_in 694 (by decide +kernel) rfl
abbrev b_Search_amiss : ByteArray := prog_6_method_9_code
def y_Search_amiss : MethodName := ⟨"ShakeHands$Search", "amiss", "([J)I"⟩
theorem cd_Search_amiss : Cond.code y_Search_amiss b_Search_amiss 2 (some .int) ∈ tbl := tbl_in 699 (by decide +kernel) rfl
theorem im_Search_amiss : Cond.instanceMethod y_Search_amiss ∈ tbl := tbl_in 698 (by decide +kernel) rfl
theorem se_Search_amiss : Cond.selects "ShakeHands$Search" y_Search_amiss y_Search_amiss ∈ tbl := tbl_sel 27 (by decide +kernel) rfl
abbrev b_Search_bitsOf : ByteArray := prog_6_method_11_code
def y_Search_bitsOf : MethodName := ⟨"ShakeHands$Search", "bitsOf", "(I)I"⟩
theorem cd_Search_bitsOf : Cond.code y_Search_bitsOf b_Search_bitsOf 1 (some .int) ∈ tbl := tbl_in 702 (by decide +kernel) rfl
theorem st_Search_bitsOf : Cond.static y_Search_bitsOf ∈ tbl := tbl_in 701 (by decide +kernel) rfl
abbrev b_Search_canMend : ByteArray := prog_6_method_12_code
def y_Search_canMend : MethodName := ⟨"ShakeHands$Search", "canMend", "(III)Z"⟩
theorem cd_Search_canMend : Cond.code y_Search_canMend b_Search_canMend 3 (some .boolean) ∈ tbl := tbl_in 707 (by decide +kernel) rfl
theorem st_Search_canMend : Cond.static y_Search_canMend ∈ tbl := tbl_in 706 (by decide +kernel) rfl
abbrev b_Search_step : ByteArray := prog_6_method_13_code
def y_Search_step : MethodName := ⟨"ShakeHands$Search", "step", "(II)Z"⟩
theorem cd_Search_step : Cond.code y_Search_step b_Search_step 3 (some .boolean) ∈ tbl := tbl_in 712 (by decide +kernel) rfl
theorem im_Search_step : Cond.instanceMethod y_Search_step ∈ tbl := tbl_in 711 (by decide +kernel) rfl
theorem se_Search_step : Cond.selects "ShakeHands$Search" y_Search_step y_Search_step ∈ tbl := tbl_sel 28 (by decide +kernel) rfl
abbrev b_ShakeHands_rounds : ByteArray := prog_1_method_21_code
def y_ShakeHands_rounds : MethodName := ⟨"ShakeHands", "rounds", "(III)I"⟩
theorem cd_ShakeHands_rounds : Cond.code y_ShakeHands_rounds b_ShakeHands_rounds 4 (some .int) ∈ tbl := tbl_in 717 (by decide +kernel) rfl
theorem im_ShakeHands_rounds : Cond.instanceMethod y_ShakeHands_rounds ∈ tbl := tbl_in 715 (by decide +kernel) rfl
theorem se_ShakeHands_rounds : Cond.selects "ShakeHands" y_ShakeHands_rounds y_ShakeHands_rounds ∈ tbl := tbl_in 716 (by decide +kernel) rfl
abbrev b_Search_fewestRounds : ByteArray := prog_6_method_5_code
def y_Search_fewestRounds : MethodName := ⟨"ShakeHands$Search", "fewestRounds", "()I"⟩
theorem cd_Search_fewestRounds : Cond.code y_Search_fewestRounds b_Search_fewestRounds 2 (some .int) ∈ tbl := tbl_in 721 (by decide +kernel) rfl
theorem im_Search_fewestRounds : Cond.instanceMethod y_Search_fewestRounds ∈ tbl := tbl_in 719 (by decide +kernel) rfl
theorem se_Search_fewestRounds : Cond.selects "ShakeHands$Search" y_Search_fewestRounds y_Search_fewestRounds ∈ tbl := tbl_in 720 (by decide +kernel) rfl
abbrev b_Search_turns : ByteArray := prog_6_method_15_code
def y_Search_turns : MethodName := ⟨"ShakeHands$Search", "turns", "(LShakeHands$Search;IIII)Z"⟩
theorem cd_Search_turns : Cond.code y_Search_turns b_Search_turns 7 (some .boolean) ∈ tbl := tbl_in 724 (by decide +kernel) rfl
theorem st_Search_turns : Cond.static y_Search_turns ∈ tbl := tbl_in 723 (by decide +kernel) rfl
abbrev b_ShakeHands_lose : ByteArray := prog_1_method_22_code
def y_ShakeHands_lose : MethodName := ⟨"ShakeHands", "lose", "(I)I"⟩
theorem cd_ShakeHands_lose : Cond.code y_ShakeHands_lose b_ShakeHands_lose 2 (some .int) ∈ tbl := tbl_in 728 (by decide +kernel) rfl
theorem im_ShakeHands_lose : Cond.instanceMethod y_ShakeHands_lose ∈ tbl := tbl_in 726 (by decide +kernel) rfl
theorem se_ShakeHands_lose : Cond.selects "ShakeHands" y_ShakeHands_lose y_ShakeHands_lose ∈ tbl := tbl_in 727 (by decide +kernel) rfl
abbrev b_ShakeHands_lives : ByteArray := prog_1_method_23_code
def y_ShakeHands_lives : MethodName := ⟨"ShakeHands", "lives", "(I)I"⟩
theorem cd_ShakeHands_lives : Cond.code y_ShakeHands_lives b_ShakeHands_lives 2 (some .int) ∈ tbl := tbl_in 732 (by decide +kernel) rfl
theorem im_ShakeHands_lives : Cond.instanceMethod y_ShakeHands_lives ∈ tbl := tbl_in 730 (by decide +kernel) rfl
theorem se_ShakeHands_lives : Cond.selects "ShakeHands" y_ShakeHands_lives y_ShakeHands_lives ∈ tbl := tbl_in 731 (by decide +kernel) rfl
abbrev b_Habit_lastDay : ByteArray := prog_3_method_2_code
def y_Habit_lastDay : MethodName := ⟨"ShakeHands$Habit", "lastDay", "(I)I"⟩
theorem cd_Habit_lastDay : Cond.code y_Habit_lastDay b_Habit_lastDay 3 (some .int) ∈ tbl := tbl_in 736 (by decide +kernel) rfl
theorem im_Habit_lastDay : Cond.instanceMethod y_Habit_lastDay ∈ tbl := tbl_in 734 (by decide +kernel) rfl
theorem se_Habit_lastDay : Cond.selects "ShakeHands$Habit" y_Habit_lastDay y_Habit_lastDay ∈ tbl := tbl_in 735 (by decide +kernel) rfl
abbrev b_Circle_liveDay : ByteArray := prog_2_method_8_code
def y_Circle_liveDay : MethodName := ⟨"ShakeHands$Circle", "liveDay", "([JI)V"⟩
theorem cd_Circle_liveDay : Cond.code y_Circle_liveDay b_Circle_liveDay 4 (none) ∈ tbl := tbl_in 742 (by decide +kernel) rfl
theorem im_Circle_liveDay : Cond.instanceMethod y_Circle_liveDay ∈ tbl := tbl_in 740 (by decide +kernel) rfl
theorem se_Circle_liveDay : Cond.selects "ShakeHands$Circle" y_Circle_liveDay y_Circle_liveDay ∈ tbl := tbl_in 741 (by decide +kernel) rfl
abbrev b_ShakeHands_comes : ByteArray := prog_1_method_24_code
def y_ShakeHands_comes : MethodName := ⟨"ShakeHands", "comes", "(I)I"⟩
theorem cd_ShakeHands_comes : Cond.code y_ShakeHands_comes b_ShakeHands_comes 2 (some .int) ∈ tbl := tbl_in 746 (by decide +kernel) rfl
theorem im_ShakeHands_comes : Cond.instanceMethod y_ShakeHands_comes ∈ tbl := tbl_in 744 (by decide +kernel) rfl
theorem se_ShakeHands_comes : Cond.selects "ShakeHands" y_ShakeHands_comes y_ShakeHands_comes ∈ tbl := tbl_in 745 (by decide +kernel) rfl
abbrev b_Habit_comesBack : ByteArray := prog_3_method_3_code
def y_Habit_comesBack : MethodName := ⟨"ShakeHands$Habit", "comesBack", "(Z)I"⟩
theorem cd_Habit_comesBack : Cond.code y_Habit_comesBack b_Habit_comesBack 4 (some .int) ∈ tbl := tbl_in 750 (by decide +kernel) rfl
theorem im_Habit_comesBack : Cond.instanceMethod y_Habit_comesBack ∈ tbl := tbl_in 748 (by decide +kernel) rfl
theorem se_Habit_comesBack : Cond.selects "ShakeHands$Habit" y_Habit_comesBack y_Habit_comesBack ∈ tbl := tbl_in 749 (by decide +kernel) rfl
abbrev b_Habit_sameDay : ByteArray := prog_3_method_4_code
def y_Habit_sameDay : MethodName := ⟨"ShakeHands$Habit", "sameDay", "(I)I"⟩
theorem cd_Habit_sameDay : Cond.code y_Habit_sameDay b_Habit_sameDay 4 (some .int) ∈ tbl := tbl_in 754 (by decide +kernel) rfl
theorem im_Habit_sameDay : Cond.instanceMethod y_Habit_sameDay ∈ tbl := tbl_in 753 (by decide +kernel) rfl
theorem se_Habit_sameDay : Cond.selects "ShakeHands$Habit" y_Habit_sameDay y_Habit_sameDay ∈ tbl := tbl_sel 29 (by decide +kernel) rfl
abbrev b_ShakeHands_days : ByteArray := prog_1_method_25_code
def y_ShakeHands_days : MethodName := ⟨"ShakeHands", "days", "(I)I"⟩
theorem cd_ShakeHands_days : Cond.code y_ShakeHands_days b_ShakeHands_days 3 (some .int) ∈ tbl := tbl_in 758 (by decide +kernel) rfl
theorem im_ShakeHands_days : Cond.instanceMethod y_ShakeHands_days ∈ tbl := tbl_in 756 (by decide +kernel) rfl
theorem se_ShakeHands_days : Cond.selects "ShakeHands" y_ShakeHands_days y_ShakeHands_days ∈ tbl := tbl_in 757 (by decide +kernel) rfl
abbrev b_ShakeHands_saw : ByteArray := prog_1_method_26_code
def y_ShakeHands_saw : MethodName := ⟨"ShakeHands", "saw", "(II)I"⟩
theorem cd_ShakeHands_saw : Cond.code y_ShakeHands_saw b_ShakeHands_saw 3 (some .int) ∈ tbl := tbl_in 763 (by decide +kernel) rfl
theorem im_ShakeHands_saw : Cond.instanceMethod y_ShakeHands_saw ∈ tbl := tbl_in 761 (by decide +kernel) rfl
theorem se_ShakeHands_saw : Cond.selects "ShakeHands" y_ShakeHands_saw y_ShakeHands_saw ∈ tbl := tbl_in 762 (by decide +kernel) rfl
abbrev b_ShakeHands_blind : ByteArray := prog_1_method_27_code
def y_ShakeHands_blind : MethodName := ⟨"ShakeHands", "blind", "()I"⟩
theorem cd_ShakeHands_blind : Cond.code y_ShakeHands_blind b_ShakeHands_blind 2 (some .int) ∈ tbl := tbl_in 768 (by decide +kernel) rfl
theorem im_ShakeHands_blind : Cond.instanceMethod y_ShakeHands_blind ∈ tbl := tbl_in 766 (by decide +kernel) rfl
theorem se_ShakeHands_blind : Cond.selects "ShakeHands" y_ShakeHands_blind y_ShakeHands_blind ∈ tbl := tbl_in 767 (by decide +kernel) rfl
abbrev b_ShakeHands_fits : ByteArray := prog_1_method_28_code
def y_ShakeHands_fits : MethodName := ⟨"ShakeHands", "fits", "(II)I"⟩
theorem cd_ShakeHands_fits : Cond.code y_ShakeHands_fits b_ShakeHands_fits 3 (some .int) ∈ tbl := tbl_in 772 (by decide +kernel) rfl
theorem im_ShakeHands_fits : Cond.instanceMethod y_ShakeHands_fits ∈ tbl := tbl_in 770 (by decide +kernel) rfl
theorem se_ShakeHands_fits : Cond.selects "ShakeHands" y_ShakeHands_fits y_ShakeHands_fits ∈ tbl := tbl_in 771 (by decide +kernel) rfl
abbrev b_Search_countFits : ByteArray := prog_6_method_6_code
def y_Search_countFits : MethodName := ⟨"ShakeHands$Search", "countFits", "(I)V"⟩
theorem cd_Search_countFits : Cond.code y_Search_countFits b_Search_countFits 2 (none) ∈ tbl := tbl_in 776 (by decide +kernel) rfl
theorem im_Search_countFits : Cond.instanceMethod y_Search_countFits ∈ tbl := tbl_in 774 (by decide +kernel) rfl
theorem se_Search_countFits : Cond.selects "ShakeHands$Search" y_Search_countFits y_Search_countFits ∈ tbl := tbl_in 775 (by decide +kernel) rfl
abbrev b_Search_fit : ByteArray := prog_6_method_16_code
def y_Search_fit : MethodName := ⟨"ShakeHands$Search", "fit", "(LShakeHands$Search;III)V"⟩
theorem cd_Search_fit : Cond.code y_Search_fit b_Search_fit 7 (none) ∈ tbl := tbl_in 779 (by decide +kernel) rfl
theorem st_Search_fit : Cond.static y_Search_fit ∈ tbl := tbl_in 778 (by decide +kernel) rfl
abbrev b_Search_unlikeSeen : ByteArray := prog_6_method_10_code
def y_Search_unlikeSeen : MethodName := ⟨"ShakeHands$Search", "unlikeSeen", "([J)I"⟩
theorem cd_Search_unlikeSeen : Cond.code y_Search_unlikeSeen b_Search_unlikeSeen 4 (some .int) ∈ tbl := tbl_in 783 (by decide +kernel) rfl
theorem im_Search_unlikeSeen : Cond.instanceMethod y_Search_unlikeSeen ∈ tbl := tbl_in 782 (by decide +kernel) rfl
theorem se_Search_unlikeSeen : Cond.selects "ShakeHands$Search" y_Search_unlikeSeen y_Search_unlikeSeen ∈ tbl := tbl_sel 30 (by decide +kernel) rfl
abbrev b_ShakeHands_least : ByteArray := prog_1_method_29_code
def y_ShakeHands_least : MethodName := ⟨"ShakeHands", "least", "()I"⟩
theorem cd_ShakeHands_least : Cond.code y_ShakeHands_least b_ShakeHands_least 2 (some .int) ∈ tbl := tbl_in 788 (by decide +kernel) rfl
theorem im_ShakeHands_least : Cond.instanceMethod y_ShakeHands_least ∈ tbl := tbl_in 786 (by decide +kernel) rfl
theorem se_ShakeHands_least : Cond.selects "ShakeHands" y_ShakeHands_least y_ShakeHands_least ∈ tbl := tbl_in 787 (by decide +kernel) rfl
abbrev b_ShakeHands_seats : ByteArray := prog_1_method_30_code
def y_ShakeHands_seats : MethodName := ⟨"ShakeHands", "seats", "(III)I"⟩
theorem cd_ShakeHands_seats : Cond.code y_ShakeHands_seats b_ShakeHands_seats 6 (some .int) ∈ tbl := tbl_in 792 (by decide +kernel) rfl
theorem im_ShakeHands_seats : Cond.instanceMethod y_ShakeHands_seats ∈ tbl := tbl_in 790 (by decide +kernel) rfl
theorem se_ShakeHands_seats : Cond.selects "ShakeHands" y_ShakeHands_seats y_ShakeHands_seats ∈ tbl := tbl_in 791 (by decide +kernel) rfl
abbrev b_Search_countSeats : ByteArray := prog_6_method_7_code
def y_Search_countSeats : MethodName := ⟨"ShakeHands$Search", "countSeats", "()V"⟩
theorem cd_Search_countSeats : Cond.code y_Search_countSeats b_Search_countSeats 1 (none) ∈ tbl := tbl_in 796 (by decide +kernel) rfl
theorem im_Search_countSeats : Cond.instanceMethod y_Search_countSeats ∈ tbl := tbl_in 794 (by decide +kernel) rfl
theorem se_Search_countSeats : Cond.selects "ShakeHands$Search" y_Search_countSeats y_Search_countSeats ∈ tbl := tbl_in 795 (by decide +kernel) rfl
abbrev b_Search_sit : ByteArray := prog_6_method_17_code
def y_Search_sit : MethodName := ⟨"ShakeHands$Search", "sit", "(LShakeHands$Search;II)V"⟩
theorem cd_Search_sit : Cond.code y_Search_sit b_Search_sit 4 (none) ∈ tbl := tbl_in 799 (by decide +kernel) rfl
theorem st_Search_sit : Cond.static y_Search_sit ∈ tbl := tbl_in 798 (by decide +kernel) rfl
abbrev b_ShakeHands_gloves : ByteArray := prog_1_method_31_code
def y_ShakeHands_gloves : MethodName := ⟨"ShakeHands", "gloves", "(III)I"⟩
theorem cd_ShakeHands_gloves : Cond.code y_ShakeHands_gloves b_ShakeHands_gloves 5 (some .int) ∈ tbl := tbl_in 804 (by decide +kernel) rfl
theorem im_ShakeHands_gloves : Cond.instanceMethod y_ShakeHands_gloves ∈ tbl := tbl_in 802 (by decide +kernel) rfl
theorem se_ShakeHands_gloves : Cond.selects "ShakeHands" y_ShakeHands_gloves y_ShakeHands_gloves ∈ tbl := tbl_in 803 (by decide +kernel) rfl
abbrev b_ShakeHands_fewestGloves : ByteArray := prog_1_method_52_code
def y_ShakeHands_fewestGloves : MethodName := ⟨"ShakeHands", "fewestGloves", "(II)I"⟩
theorem cd_ShakeHands_fewestGloves : Cond.code y_ShakeHands_fewestGloves b_ShakeHands_fewestGloves 6 (some .int) ∈ tbl := tbl_in 808 (by decide +kernel) rfl
theorem im_ShakeHands_fewestGloves : Cond.instanceMethod y_ShakeHands_fewestGloves ∈ tbl := tbl_in 807 (by decide +kernel) rfl
theorem se_ShakeHands_fewestGloves : Cond.selects "ShakeHands" y_ShakeHands_fewestGloves y_ShakeHands_fewestGloves ∈ tbl := tbl_sel 31 (by decide +kernel) rfl
abbrev b_ShakeHands_keep : ByteArray := prog_1_method_32_code
def y_ShakeHands_keep : MethodName := ⟨"ShakeHands", "keep", "(I)I"⟩
theorem cd_ShakeHands_keep : Cond.code y_ShakeHands_keep b_ShakeHands_keep 3 (some .int) ∈ tbl := tbl_in 812 (by decide +kernel) rfl
theorem im_ShakeHands_keep : Cond.instanceMethod y_ShakeHands_keep ∈ tbl := tbl_in 810 (by decide +kernel) rfl
theorem se_ShakeHands_keep : Cond.selects "ShakeHands" y_ShakeHands_keep y_ShakeHands_keep ∈ tbl := tbl_in 811 (by decide +kernel) rfl
abbrev b_ShakeHands_isImage : ByteArray := prog_1_method_45_code
def y_ShakeHands_isImage : MethodName := ⟨"ShakeHands", "isImage", "(I)Z"⟩
theorem cd_ShakeHands_isImage : Cond.code y_ShakeHands_isImage b_ShakeHands_isImage 1 (some .boolean) ∈ tbl := tbl_in 815 (by decide +kernel) rfl
theorem st_ShakeHands_isImage : Cond.static y_ShakeHands_isImage ∈ tbl := tbl_in 814 (by decide +kernel) rfl
abbrev b_Minds_copy : ByteArray := prog_4_method_2_code
def y_Minds_copy : MethodName := ⟨"ShakeHands$Minds", "copy", "(LShakeHands$Minds;)V"⟩
theorem cd_Minds_copy : Cond.code y_Minds_copy b_Minds_copy 2 (none) ∈ tbl := tbl_in 819 (by decide +kernel) rfl
theorem im_Minds_copy : Cond.instanceMethod y_Minds_copy ∈ tbl := tbl_in 817 (by decide +kernel) rfl
theorem se_Minds_copy : Cond.selects "ShakeHands$Minds" y_Minds_copy y_Minds_copy ∈ tbl := tbl_in 818 (by decide +kernel) rfl
abbrev b_ShakeHands_back : ByteArray := prog_1_method_33_code
def y_ShakeHands_back : MethodName := ⟨"ShakeHands", "back", "(I)I"⟩
theorem cd_ShakeHands_back : Cond.code y_ShakeHands_back b_ShakeHands_back 2 (some .int) ∈ tbl := tbl_in 824 (by decide +kernel) rfl
theorem im_ShakeHands_back : Cond.instanceMethod y_ShakeHands_back ∈ tbl := tbl_in 822 (by decide +kernel) rfl
theorem se_ShakeHands_back : Cond.selects "ShakeHands" y_ShakeHands_back y_ShakeHands_back ∈ tbl := tbl_in 823 (by decide +kernel) rfl
abbrev b_ShakeHands_sheet : ByteArray := prog_1_method_34_code
def y_ShakeHands_sheet : MethodName := ⟨"ShakeHands", "sheet", "(III)I"⟩
theorem cd_ShakeHands_sheet : Cond.code y_ShakeHands_sheet b_ShakeHands_sheet 4 (some .int) ∈ tbl := tbl_in 828 (by decide +kernel) rfl
theorem im_ShakeHands_sheet : Cond.instanceMethod y_ShakeHands_sheet ∈ tbl := tbl_in 826 (by decide +kernel) rfl
theorem se_ShakeHands_sheet : Cond.selects "ShakeHands" y_ShakeHands_sheet y_ShakeHands_sheet ∈ tbl := tbl_in 827 (by decide +kernel) rfl
abbrev b_ShakeHands_isSheet : ByteArray := prog_1_method_46_code
def y_ShakeHands_isSheet : MethodName := ⟨"ShakeHands", "isSheet", "(I)Z"⟩
theorem cd_ShakeHands_isSheet : Cond.code y_ShakeHands_isSheet b_ShakeHands_isSheet 1 (some .boolean) ∈ tbl := tbl_in 831 (by decide +kernel) rfl
theorem st_ShakeHands_isSheet : Cond.static y_ShakeHands_isSheet ∈ tbl := tbl_in 830 (by decide +kernel) rfl
abbrev b_ShakeHands_isLane : ByteArray := prog_1_method_47_code
def y_ShakeHands_isLane : MethodName := ⟨"ShakeHands", "isLane", "(I)Z"⟩
theorem cd_ShakeHands_isLane : Cond.code y_ShakeHands_isLane b_ShakeHands_isLane 1 (some .boolean) ∈ tbl := tbl_in 834 (by decide +kernel) rfl
theorem st_ShakeHands_isLane : Cond.static y_ShakeHands_isLane ∈ tbl := tbl_in 833 (by decide +kernel) rfl
abbrev b_Sheet_renew : ByteArray := prog_7_method_2_code
def y_Sheet_renew : MethodName := ⟨"ShakeHands$Sheet", "renew", "(II)V"⟩
theorem cd_Sheet_renew : Cond.code y_Sheet_renew b_Sheet_renew 4 (none) ∈ tbl := tbl_in 838 (by decide +kernel) rfl
theorem im_Sheet_renew : Cond.instanceMethod y_Sheet_renew ∈ tbl := tbl_in 836 (by decide +kernel) rfl
theorem se_Sheet_renew : Cond.selects "ShakeHands$Sheet" y_Sheet_renew y_Sheet_renew ∈ tbl := tbl_in 837 (by decide +kernel) rfl
abbrev b_ShakeHands_lay : ByteArray := prog_1_method_35_code
def y_ShakeHands_lay : MethodName := ⟨"ShakeHands", "lay", "(III)I"⟩
theorem cd_ShakeHands_lay : Cond.code y_ShakeHands_lay b_ShakeHands_lay 5 (some .int) ∈ tbl := tbl_in 842 (by decide +kernel) rfl
theorem im_ShakeHands_lay : Cond.instanceMethod y_ShakeHands_lay ∈ tbl := tbl_in 840 (by decide +kernel) rfl
theorem se_ShakeHands_lay : Cond.selects "ShakeHands" y_ShakeHands_lay y_ShakeHands_lay ∈ tbl := tbl_in 841 (by decide +kernel) rfl
abbrev b_Sheet_faultAt : ByteArray := prog_7_method_3_code
def y_Sheet_faultAt : MethodName := ⟨"ShakeHands$Sheet", "faultAt", "(I)I"⟩
theorem cd_Sheet_faultAt : Cond.code y_Sheet_faultAt b_Sheet_faultAt 2 (some .int) ∈ tbl := tbl_in 846 (by decide +kernel) rfl
theorem im_Sheet_faultAt : Cond.instanceMethod y_Sheet_faultAt ∈ tbl := tbl_in 844 (by decide +kernel) rfl
theorem se_Sheet_faultAt : Cond.selects "ShakeHands$Sheet" y_Sheet_faultAt y_Sheet_faultAt ∈ tbl := tbl_in 845 (by decide +kernel) rfl
abbrev b_Sheet_put : ByteArray := prog_7_method_6_code
def y_Sheet_put : MethodName := ⟨"ShakeHands$Sheet", "put", "(II)V"⟩
theorem cd_Sheet_put : Cond.code y_Sheet_put b_Sheet_put 3 (none) ∈ tbl := tbl_in 850 (by decide +kernel) rfl
theorem im_Sheet_put : Cond.instanceMethod y_Sheet_put ∈ tbl := tbl_in 848 (by decide +kernel) rfl
theorem se_Sheet_put : Cond.selects "ShakeHands$Sheet" y_Sheet_put y_Sheet_put ∈ tbl := tbl_in 849 (by decide +kernel) rfl
abbrev b_ShakeHands_read : ByteArray := prog_1_method_36_code
def y_ShakeHands_read : MethodName := ⟨"ShakeHands", "read", "(IIII)I"⟩
theorem cd_ShakeHands_read : Cond.code y_ShakeHands_read b_ShakeHands_read 10 (some .int) ∈ tbl := tbl_in 855 (by decide +kernel) rfl
theorem im_ShakeHands_read : Cond.instanceMethod y_ShakeHands_read ∈ tbl := tbl_in 853 (by decide +kernel) rfl
theorem se_ShakeHands_read : Cond.selects "ShakeHands" y_ShakeHands_read y_ShakeHands_read ∈ tbl := tbl_in 854 (by decide +kernel) rfl
abbrev b_Sheet_faultOfTwo : ByteArray := prog_7_method_4_code
def y_Sheet_faultOfTwo : MethodName := ⟨"ShakeHands$Sheet", "faultOfTwo", "(II)I"⟩
theorem cd_Sheet_faultOfTwo : Cond.code y_Sheet_faultOfTwo b_Sheet_faultOfTwo 4 (some .int) ∈ tbl := tbl_in 859 (by decide +kernel) rfl
theorem im_Sheet_faultOfTwo : Cond.instanceMethod y_Sheet_faultOfTwo ∈ tbl := tbl_in 857 (by decide +kernel) rfl
theorem se_Sheet_faultOfTwo : Cond.selects "ShakeHands$Sheet" y_Sheet_faultOfTwo y_Sheet_faultOfTwo ∈ tbl := tbl_in 858 (by decide +kernel) rfl
abbrev b_Sheet_cellAt : ByteArray := prog_7_method_5_code
def y_Sheet_cellAt : MethodName := ⟨"ShakeHands$Sheet", "cellAt", "(I)I"⟩
theorem cd_Sheet_cellAt : Cond.code y_Sheet_cellAt b_Sheet_cellAt 2 (some .int) ∈ tbl := tbl_in 863 (by decide +kernel) rfl
theorem im_Sheet_cellAt : Cond.instanceMethod y_Sheet_cellAt ∈ tbl := tbl_in 861 (by decide +kernel) rfl
theorem se_Sheet_cellAt : Cond.selects "ShakeHands$Sheet" y_Sheet_cellAt y_Sheet_cellAt ∈ tbl := tbl_in 862 (by decide +kernel) rfl
abbrev b_ShakeHands_torn : ByteArray := prog_1_method_37_code
def y_ShakeHands_torn : MethodName := ⟨"ShakeHands", "torn", "()I"⟩
theorem cd_ShakeHands_torn : Cond.code y_ShakeHands_torn b_ShakeHands_torn 1 (some .int) ∈ tbl := tbl_in 867 (by decide +kernel) rfl
theorem im_ShakeHands_torn : Cond.instanceMethod y_ShakeHands_torn ∈ tbl := tbl_in 865 (by decide +kernel) rfl
theorem se_ShakeHands_torn : Cond.selects "ShakeHands" y_ShakeHands_torn y_ShakeHands_torn ∈ tbl := tbl_in 866 (by decide +kernel) rfl
abbrev b_ShakeHands_count : ByteArray := prog_1_method_38_code
def y_ShakeHands_count : MethodName := ⟨"ShakeHands", "count", "(I)I"⟩
theorem cd_ShakeHands_count : Cond.code y_ShakeHands_count b_ShakeHands_count 2 (some .int) ∈ tbl := tbl_in 871 (by decide +kernel) rfl
theorem im_ShakeHands_count : Cond.instanceMethod y_ShakeHands_count ∈ tbl := tbl_in 869 (by decide +kernel) rfl
theorem se_ShakeHands_count : Cond.selects "ShakeHands" y_ShakeHands_count y_ShakeHands_count ∈ tbl := tbl_in 870 (by decide +kernel) rfl
abbrev b_ShakeHands_knownToAll : ByteArray := prog_1_method_51_code
def y_ShakeHands_knownToAll : MethodName := ⟨"ShakeHands", "knownToAll", "()I"⟩
theorem cd_ShakeHands_knownToAll : Cond.code y_ShakeHands_knownToAll b_ShakeHands_knownToAll 3 (some .int) ∈ tbl := tbl_in 875 (by decide +kernel) rfl
theorem im_ShakeHands_knownToAll : Cond.instanceMethod y_ShakeHands_knownToAll ∈ tbl := tbl_in 874 (by decide +kernel) rfl
theorem se_ShakeHands_knownToAll : Cond.selects "ShakeHands" y_ShakeHands_knownToAll y_ShakeHands_knownToAll ∈ tbl := tbl_sel 32 (by decide +kernel) rfl
abbrev b_Model_init : ByteArray := prog_11_method_1_code
def y_Model_init : MethodName := ⟨"ShakeHandsModel", "<init>", "()V"⟩
theorem cd_Model_init : Cond.code y_Model_init b_Model_init 3 (none) ∈ tbl := tbl_in 881 (by decide +kernel) rfl
theorem im_Model_init : Cond.instanceMethod y_Model_init ∈ tbl := tbl_in 880 (by decide +kernel) rfl
abbrev b_Model_pairOf : ByteArray := prog_11_method_5_code
def y_Model_pairOf : MethodName := ⟨"ShakeHandsModel", "pairOf", "(II)I"⟩
theorem cd_Model_pairOf : Cond.code y_Model_pairOf b_Model_pairOf 2 (some .int) ∈ tbl := tbl_in 885 (by decide +kernel) rfl
theorem st_Model_pairOf : Cond.static y_Model_pairOf ∈ tbl := tbl_in 884 (by decide +kernel) rfl
abbrev b_Model_firstDraft : ByteArray := prog_11_method_7_code
def y_Model_firstDraft : MethodName := ⟨"ShakeHandsModel", "firstDraft", "()V"⟩
theorem cd_Model_firstDraft : Cond.code y_Model_firstDraft b_Model_firstDraft 2 (none) ∈ tbl := tbl_in 889 (by decide +kernel) rfl
theorem im_Model_firstDraft : Cond.instanceMethod y_Model_firstDraft ∈ tbl := tbl_in 888 (by decide +kernel) rfl
theorem se_Model_firstDraft : Cond.selects "ShakeHandsModel" y_Model_firstDraft y_Model_firstDraft ∈ tbl := tbl_sel 33 (by decide +kernel) rfl
abbrev b_Model_keepDraft : ByteArray := prog_11_method_8_code
def y_Model_keepDraft : MethodName := ⟨"ShakeHandsModel", "keepDraft", "()V"⟩
theorem cd_Model_keepDraft : Cond.code y_Model_keepDraft b_Model_keepDraft 2 (none) ∈ tbl := tbl_in 893 (by decide +kernel) rfl
theorem im_Model_keepDraft : Cond.instanceMethod y_Model_keepDraft ∈ tbl := tbl_in 892 (by decide +kernel) rfl
theorem se_Model_keepDraft : Cond.selects "ShakeHandsModel" y_Model_keepDraft y_Model_keepDraft ∈ tbl := tbl_sel 34 (by decide +kernel) rfl
abbrev b_Model_flag : ByteArray := prog_11_method_4_code
def y_Model_flag : MethodName := ⟨"ShakeHandsModel", "flag", "(Z)I"⟩
theorem cd_Model_flag : Cond.code y_Model_flag b_Model_flag 1 (some .int) ∈ tbl := tbl_in 896 (by decide +kernel) rfl
theorem st_Model_flag : Cond.static y_Model_flag ∈ tbl := tbl_in 895 (by decide +kernel) rfl
abbrev b_Model_feed : ByteArray := prog_11_method_9_code
def y_Model_feed : MethodName := ⟨"ShakeHandsModel", "feed", "(J)I"⟩
theorem cd_Model_feed : Cond.code y_Model_feed b_Model_feed 4 (some .int) ∈ tbl := tbl_in 1067 (by decide +kernel) rfl
theorem im_Model_feed : Cond.instanceMethod y_Model_feed ∈ tbl := tbl_in 1065 (by decide +kernel) rfl
theorem se_Model_feed : Cond.selects "ShakeHandsModel" y_Model_feed y_Model_feed ∈ tbl := tbl_in 1066 (by decide +kernel) rfl
abbrev b_Model_end : ByteArray := prog_11_method_10_code
def y_Model_end : MethodName := ⟨"ShakeHandsModel", "end", "(I)I"⟩
theorem cd_Model_end : Cond.code y_Model_end b_Model_end 3 (some .int) ∈ tbl := tbl_in 1072 (by decide +kernel) rfl
theorem im_Model_end : Cond.instanceMethod y_Model_end ∈ tbl := tbl_in 1070 (by decide +kernel) rfl
theorem se_Model_end : Cond.selects "ShakeHandsModel" y_Model_end y_Model_end ∈ tbl := tbl_in 1071 (by decide +kernel) rfl
abbrev b_Model_in : ByteArray := prog_11_method_3_code
def y_Model_in : MethodName := ⟨"ShakeHandsModel", "in", "(JJJ)Z"⟩
theorem cd_Model_in : Cond.code y_Model_in b_Model_in 6 (some .boolean) ∈ tbl := tbl_in 1075 (by decide +kernel) rfl
theorem st_Model_in : Cond.static y_Model_in ∈ tbl := tbl_in 1074 (by decide +kernel) rfl
abbrev b_Model_text : ByteArray := prog_11_method_25_code
def y_Model_text : MethodName := ⟨"ShakeHandsModel", "text", "()I"⟩
theorem cd_Model_text : Cond.code y_Model_text b_Model_text 2 (some .int) ∈ tbl := tbl_in 1079 (by decide +kernel) rfl
theorem im_Model_text : Cond.instanceMethod y_Model_text ∈ tbl := tbl_in 1077 (by decide +kernel) rfl
theorem se_Model_text : Cond.selects "ShakeHandsModel" y_Model_text y_Model_text ∈ tbl := tbl_in 1078 (by decide +kernel) rfl
abbrev b_Model_next : ByteArray := prog_11_method_15_code
def y_Model_next : MethodName := ⟨"ShakeHandsModel", "next", "()V"⟩
theorem cd_Model_next : Cond.code y_Model_next b_Model_next 2 (none) ∈ tbl := tbl_in 1083 (by decide +kernel) rfl
theorem im_Model_next : Cond.instanceMethod y_Model_next ∈ tbl := tbl_in 1082 (by decide +kernel) rfl
theorem se_Model_next : Cond.selects "ShakeHandsModel" y_Model_next y_Model_next ∈ tbl := tbl_sel 35 (by decide +kernel) rfl
abbrev b_Model_look : ByteArray := prog_11_method_12_code
def y_Model_look : MethodName := ⟨"ShakeHandsModel", "look", "(I)I"⟩
theorem cd_Model_look : Cond.code y_Model_look b_Model_look 2 (some .int) ∈ tbl := tbl_in 1087 (by decide +kernel) rfl
theorem im_Model_look : Cond.instanceMethod y_Model_look ∈ tbl := tbl_in 1086 (by decide +kernel) rfl
theorem se_Model_look : Cond.selects "ShakeHandsModel" y_Model_look y_Model_look ∈ tbl := tbl_sel 36 (by decide +kernel) rfl
abbrev b_Model_needs : ByteArray := prog_11_method_11_code
def y_Model_needs : MethodName := ⟨"ShakeHandsModel", "needs", "(ZI)V"⟩
theorem cd_Model_needs : Cond.code y_Model_needs b_Model_needs 3 (none) ∈ tbl := tbl_in 1095 (by decide +kernel) rfl
theorem im_Model_needs : Cond.instanceMethod y_Model_needs ∈ tbl := tbl_in 1094 (by decide +kernel) rfl
theorem se_Model_needs : Cond.selects "ShakeHandsModel" y_Model_needs y_Model_needs ∈ tbl := tbl_sel 37 (by decide +kernel) rfl
abbrev b_Model_readLine : ByteArray := prog_11_method_23_code
def y_Model_readLine : MethodName := ⟨"ShakeHandsModel", "readLine", "()V"⟩
theorem cd_Model_readLine : Cond.code y_Model_readLine b_Model_readLine 2 (none) ∈ tbl := tbl_in 1099 (by decide +kernel) rfl
theorem im_Model_readLine : Cond.instanceMethod y_Model_readLine ∈ tbl := tbl_in 1098 (by decide +kernel) rfl
theorem se_Model_readLine : Cond.selects "ShakeHandsModel" y_Model_readLine y_Model_readLine ∈ tbl := tbl_sel 38 (by decide +kernel) rfl
abbrev b_Model_nameNow : ByteArray := prog_11_method_14_code
def y_Model_nameNow : MethodName := ⟨"ShakeHandsModel", "nameNow", "()I"⟩
theorem cd_Model_nameNow : Cond.code y_Model_nameNow b_Model_nameNow 1 (some .int) ∈ tbl := tbl_in 1103 (by decide +kernel) rfl
theorem im_Model_nameNow : Cond.instanceMethod y_Model_nameNow ∈ tbl := tbl_in 1102 (by decide +kernel) rfl
theorem se_Model_nameNow : Cond.selects "ShakeHandsModel" y_Model_nameNow y_Model_nameNow ∈ tbl := tbl_sel 39 (by decide +kernel) rfl
abbrev b_Model_is : ByteArray := prog_11_method_13_code
def y_Model_is : MethodName := ⟨"ShakeHandsModel", "is", "(IIIII)Z"⟩
theorem cd_Model_is : Cond.code y_Model_is b_Model_is 6 (some .boolean) ∈ tbl := tbl_in 1107 (by decide +kernel) rfl
theorem im_Model_is : Cond.instanceMethod y_Model_is ∈ tbl := tbl_in 1106 (by decide +kernel) rfl
theorem se_Model_is : Cond.selects "ShakeHandsModel" y_Model_is y_Model_is ∈ tbl := tbl_sel 40 (by decide +kernel) rfl
abbrev b_Model_readNumber : ByteArray := prog_11_method_17_code
def y_Model_readNumber : MethodName := ⟨"ShakeHandsModel", "readNumber", "(II)I"⟩
theorem cd_Model_readNumber : Cond.code y_Model_readNumber b_Model_readNumber 4 (some .int) ∈ tbl := tbl_in 1111 (by decide +kernel) rfl
theorem im_Model_readNumber : Cond.instanceMethod y_Model_readNumber ∈ tbl := tbl_in 1110 (by decide +kernel) rfl
theorem se_Model_readNumber : Cond.selects "ShakeHandsModel" y_Model_readNumber y_Model_readNumber ∈ tbl := tbl_sel 41 (by decide +kernel) rfl
abbrev b_Model_looked : ByteArray := prog_11_method_16_code
def y_Model_looked : MethodName := ⟨"ShakeHandsModel", "looked", "(II)I"⟩
theorem cd_Model_looked : Cond.code y_Model_looked b_Model_looked 3 (some .int) ∈ tbl := tbl_in 1115 (by decide +kernel) rfl
theorem im_Model_looked : Cond.instanceMethod y_Model_looked ∈ tbl := tbl_in 1114 (by decide +kernel) rfl
theorem se_Model_looked : Cond.selects "ShakeHandsModel" y_Model_looked y_Model_looked ∈ tbl := tbl_sel 42 (by decide +kernel) rfl
abbrev b_Model_readKnows : ByteArray := prog_11_method_19_code
def y_Model_readKnows : MethodName := ⟨"ShakeHandsModel", "readKnows", "()V"⟩
theorem cd_Model_readKnows : Cond.code y_Model_readKnows b_Model_readKnows 6 (none) ∈ tbl := tbl_in 1119 (by decide +kernel) rfl
theorem im_Model_readKnows : Cond.instanceMethod y_Model_readKnows ∈ tbl := tbl_in 1118 (by decide +kernel) rfl
theorem se_Model_readKnows : Cond.selects "ShakeHandsModel" y_Model_readKnows y_Model_readKnows ∈ tbl := tbl_sel 43 (by decide +kernel) rfl
abbrev b_Model_tells : ByteArray := prog_11_method_18_code
def y_Model_tells : MethodName := ⟨"ShakeHandsModel", "tells", "(I)V"⟩
theorem cd_Model_tells : Cond.code y_Model_tells b_Model_tells 2 (none) ∈ tbl := tbl_in 1123 (by decide +kernel) rfl
theorem im_Model_tells : Cond.instanceMethod y_Model_tells ∈ tbl := tbl_in 1122 (by decide +kernel) rfl
theorem se_Model_tells : Cond.selects "ShakeHandsModel" y_Model_tells y_Model_tells ∈ tbl := tbl_sel 44 (by decide +kernel) rfl
abbrev b_Model_readJoin : ByteArray := prog_11_method_20_code
def y_Model_readJoin : MethodName := ⟨"ShakeHandsModel", "readJoin", "()V"⟩
theorem cd_Model_readJoin : Cond.code y_Model_readJoin b_Model_readJoin 4 (none) ∈ tbl := tbl_in 1127 (by decide +kernel) rfl
theorem im_Model_readJoin : Cond.instanceMethod y_Model_readJoin ∈ tbl := tbl_in 1126 (by decide +kernel) rfl
theorem se_Model_readJoin : Cond.selects "ShakeHandsModel" y_Model_readJoin y_Model_readJoin ∈ tbl := tbl_sel 45 (by decide +kernel) rfl
abbrev b_Model_readHand : ByteArray := prog_11_method_21_code
def y_Model_readHand : MethodName := ⟨"ShakeHandsModel", "readHand", "()I"⟩
theorem cd_Model_readHand : Cond.code y_Model_readHand b_Model_readHand 3 (some .int) ∈ tbl := tbl_in 1131 (by decide +kernel) rfl
theorem im_Model_readHand : Cond.instanceMethod y_Model_readHand ∈ tbl := tbl_in 1130 (by decide +kernel) rfl
theorem se_Model_readHand : Cond.selects "ShakeHandsModel" y_Model_readHand y_Model_readHand ∈ tbl := tbl_sel 46 (by decide +kernel) rfl
abbrev b_Model_readGlove : ByteArray := prog_11_method_22_code
def y_Model_readGlove : MethodName := ⟨"ShakeHandsModel", "readGlove", "()V"⟩
theorem cd_Model_readGlove : Cond.code y_Model_readGlove b_Model_readGlove 2 (none) ∈ tbl := tbl_in 1135 (by decide +kernel) rfl
theorem im_Model_readGlove : Cond.instanceMethod y_Model_readGlove ∈ tbl := tbl_in 1134 (by decide +kernel) rfl
theorem se_Model_readGlove : Cond.selects "ShakeHandsModel" y_Model_readGlove y_Model_readGlove ∈ tbl := tbl_sel 47 (by decide +kernel) rfl
abbrev b_Model_isHeld : ByteArray := prog_11_method_24_code
def y_Model_isHeld : MethodName := ⟨"ShakeHandsModel", "isHeld", "()Z"⟩
theorem cd_Model_isHeld : Cond.code y_Model_isHeld b_Model_isHeld 3 (some .boolean) ∈ tbl := tbl_in 1139 (by decide +kernel) rfl
theorem im_Model_isHeld : Cond.instanceMethod y_Model_isHeld ∈ tbl := tbl_in 1138 (by decide +kernel) rfl
theorem se_Model_isHeld : Cond.selects "ShakeHandsModel" y_Model_isHeld y_Model_isHeld ∈ tbl := tbl_sel 48 (by decide +kernel) rfl
abbrev b_Model_fault : ByteArray := prog_11_method_26_code
def y_Model_fault : MethodName := ⟨"ShakeHandsModel", "fault", "()I"⟩
theorem cd_Model_fault : Cond.code y_Model_fault b_Model_fault 1 (some .int) ∈ tbl := tbl_in 1143 (by decide +kernel) rfl
theorem im_Model_fault : Cond.instanceMethod y_Model_fault ∈ tbl := tbl_in 1141 (by decide +kernel) rfl
theorem se_Model_fault : Cond.selects "ShakeHandsModel" y_Model_fault y_Model_fault ∈ tbl := tbl_in 1142 (by decide +kernel) rfl
abbrev b_Model_rule : ByteArray := prog_11_method_28_code
def y_Model_rule : MethodName := ⟨"ShakeHandsModel", "rule", "(I)I"⟩
theorem cd_Model_rule : Cond.code y_Model_rule b_Model_rule 2 (some .int) ∈ tbl := tbl_in 1147 (by decide +kernel) rfl
theorem im_Model_rule : Cond.instanceMethod y_Model_rule ∈ tbl := tbl_in 1145 (by decide +kernel) rfl
theorem se_Model_rule : Cond.selects "ShakeHandsModel" y_Model_rule y_Model_rule ∈ tbl := tbl_in 1146 (by decide +kernel) rfl
abbrev b_Model_worn : ByteArray := prog_11_method_27_code
def y_Model_worn : MethodName := ⟨"ShakeHandsModel", "worn", "()I"⟩
theorem cd_Model_worn : Cond.code y_Model_worn b_Model_worn 3 (some .int) ∈ tbl := tbl_in 1151 (by decide +kernel) rfl
theorem im_Model_worn : Cond.instanceMethod y_Model_worn ∈ tbl := tbl_in 1150 (by decide +kernel) rfl
theorem se_Model_worn : Cond.selects "ShakeHandsModel" y_Model_worn y_Model_worn ∈ tbl := tbl_sel 49 (by decide +kernel) rfl
abbrev b_Model_bitsOf : ByteArray := prog_11_method_6_code
def y_Model_bitsOf : MethodName := ⟨"ShakeHandsModel", "bitsOf", "(I)I"⟩
theorem cd_Model_bitsOf : Cond.code y_Model_bitsOf b_Model_bitsOf 3 (some .int) ∈ tbl := tbl_in 1154 (by decide +kernel) rfl
theorem st_Model_bitsOf : Cond.static y_Model_bitsOf ∈ tbl := tbl_in 1153 (by decide +kernel) rfl
abbrev b_Model_hand : ByteArray := prog_11_method_29_code
def y_Model_hand : MethodName := ⟨"ShakeHandsModel", "hand", "(IZ)I"⟩
theorem cd_Model_hand : Cond.code y_Model_hand b_Model_hand 3 (some .int) ∈ tbl := tbl_in 1158 (by decide +kernel) rfl
theorem im_Model_hand : Cond.instanceMethod y_Model_hand ∈ tbl := tbl_in 1156 (by decide +kernel) rfl
theorem se_Model_hand : Cond.selects "ShakeHandsModel" y_Model_hand y_Model_hand ∈ tbl := tbl_in 1157 (by decide +kernel) rfl
abbrev b_Model_join : ByteArray := prog_11_method_30_code
def y_Model_join : MethodName := ⟨"ShakeHandsModel", "join", "(II)I"⟩
theorem cd_Model_join : Cond.code y_Model_join b_Model_join 3 (some .int) ∈ tbl := tbl_in 1162 (by decide +kernel) rfl
theorem im_Model_join : Cond.instanceMethod y_Model_join ∈ tbl := tbl_in 1160 (by decide +kernel) rfl
theorem se_Model_join : Cond.selects "ShakeHandsModel" y_Model_join y_Model_join ∈ tbl := tbl_in 1161 (by decide +kernel) rfl
abbrev b_Model_knows : ByteArray := prog_11_method_50_code
def y_Model_knows : MethodName := ⟨"ShakeHandsModel", "knows", "(I)I"⟩
theorem cd_Model_knows : Cond.code y_Model_knows b_Model_knows 2 (some .int) ∈ tbl := tbl_in 1167 (by decide +kernel) rfl
theorem im_Model_knows : Cond.instanceMethod y_Model_knows ∈ tbl := tbl_in 1165 (by decide +kernel) rfl
theorem se_Model_knows : Cond.selects "ShakeHandsModel" y_Model_knows y_Model_knows ∈ tbl := tbl_in 1166 (by decide +kernel) rfl
abbrev b_Model_isOne : ByteArray := prog_11_method_44_code
def y_Model_isOne : MethodName := ⟨"ShakeHandsModel", "isOne", "(I)Z"⟩
theorem cd_Model_isOne : Cond.code y_Model_isOne b_Model_isOne 2 (some .boolean) ∈ tbl := tbl_in 1171 (by decide +kernel) rfl
theorem im_Model_isOne : Cond.instanceMethod y_Model_isOne ∈ tbl := tbl_in 1170 (by decide +kernel) rfl
theorem se_Model_isOne : Cond.selects "ShakeHandsModel" y_Model_isOne y_Model_isOne ∈ tbl := tbl_sel 50 (by decide +kernel) rfl
abbrev b_Model_knowsNow : ByteArray := prog_11_method_46_code
def y_Model_knowsNow : MethodName := ⟨"ShakeHandsModel", "knowsNow", "(I)I"⟩
theorem cd_Model_knowsNow : Cond.code y_Model_knowsNow b_Model_knowsNow 2 (some .int) ∈ tbl := tbl_in 1175 (by decide +kernel) rfl
theorem im_Model_knowsNow : Cond.instanceMethod y_Model_knowsNow ∈ tbl := tbl_in 1174 (by decide +kernel) rfl
theorem se_Model_knowsNow : Cond.selects "ShakeHandsModel" y_Model_knowsNow y_Model_knowsNow ∈ tbl := tbl_sel 51 (by decide +kernel) rfl
abbrev b_Model_begins : ByteArray := prog_11_method_31_code
def y_Model_begins : MethodName := ⟨"ShakeHandsModel", "begins", "(I)V"⟩
theorem cd_Model_begins : Cond.code y_Model_begins b_Model_begins 3 (none) ∈ tbl := tbl_in 1179 (by decide +kernel) rfl
theorem im_Model_begins : Cond.instanceMethod y_Model_begins ∈ tbl := tbl_in 1178 (by decide +kernel) rfl
theorem se_Model_begins : Cond.selects "ShakeHandsModel" y_Model_begins y_Model_begins ∈ tbl := tbl_sel 52 (by decide +kernel) rfl
abbrev b_Model_knowsIn : ByteArray := prog_11_method_40_code
def y_Model_knowsIn : MethodName := ⟨"ShakeHandsModel", "knowsIn", "(II)I"⟩
theorem cd_Model_knowsIn : Cond.code y_Model_knowsIn b_Model_knowsIn 6 (some .int) ∈ tbl := tbl_in 1183 (by decide +kernel) rfl
theorem im_Model_knowsIn : Cond.instanceMethod y_Model_knowsIn ∈ tbl := tbl_in 1182 (by decide +kernel) rfl
theorem se_Model_knowsIn : Cond.selects "ShakeHandsModel" y_Model_knowsIn y_Model_knowsIn ∈ tbl := tbl_sel 53 (by decide +kernel) rfl
abbrev b_Model_row : ByteArray := prog_11_method_51_code
def y_Model_row : MethodName := ⟨"ShakeHandsModel", "row", "(II)I"⟩
theorem cd_Model_row : Cond.code y_Model_row b_Model_row 3 (some .int) ∈ tbl := tbl_in 1187 (by decide +kernel) rfl
theorem im_Model_row : Cond.instanceMethod y_Model_row ∈ tbl := tbl_in 1185 (by decide +kernel) rfl
theorem se_Model_row : Cond.selects "ShakeHandsModel" y_Model_row y_Model_row ∈ tbl := tbl_in 1186 (by decide +kernel) rfl
abbrev b_Model_who : ByteArray := prog_11_method_52_code
def y_Model_who : MethodName := ⟨"ShakeHandsModel", "who", "(I)I"⟩
theorem cd_Model_who : Cond.code y_Model_who b_Model_who 2 (some .int) ∈ tbl := tbl_in 1191 (by decide +kernel) rfl
theorem im_Model_who : Cond.instanceMethod y_Model_who ∈ tbl := tbl_in 1189 (by decide +kernel) rfl
theorem se_Model_who : Cond.selects "ShakeHandsModel" y_Model_who y_Model_who ∈ tbl := tbl_in 1190 (by decide +kernel) rfl
abbrev b_Model_isThing : ByteArray := prog_11_method_45_code
def y_Model_isThing : MethodName := ⟨"ShakeHandsModel", "isThing", "(I)Z"⟩
theorem cd_Model_isThing : Cond.code y_Model_isThing b_Model_isThing 1 (some .boolean) ∈ tbl := tbl_in 1194 (by decide +kernel) rfl
theorem st_Model_isThing : Cond.static y_Model_isThing ∈ tbl := tbl_in 1193 (by decide +kernel) rfl
abbrev b_Model_whoNow : ByteArray := prog_11_method_48_code
def y_Model_whoNow : MethodName := ⟨"ShakeHandsModel", "whoNow", "(I)I"⟩
theorem cd_Model_whoNow : Cond.code y_Model_whoNow b_Model_whoNow 2 (some .int) ∈ tbl := tbl_in 1199 (by decide +kernel) rfl
theorem im_Model_whoNow : Cond.instanceMethod y_Model_whoNow ∈ tbl := tbl_in 1198 (by decide +kernel) rfl
theorem se_Model_whoNow : Cond.selects "ShakeHandsModel" y_Model_whoNow y_Model_whoNow ∈ tbl := tbl_sel 54 (by decide +kernel) rfl
abbrev b_Model_whoIn : ByteArray := prog_11_method_41_code
def y_Model_whoIn : MethodName := ⟨"ShakeHandsModel", "whoIn", "(II)I"⟩
theorem cd_Model_whoIn : Cond.code y_Model_whoIn b_Model_whoIn 5 (some .int) ∈ tbl := tbl_in 1203 (by decide +kernel) rfl
theorem im_Model_whoIn : Cond.instanceMethod y_Model_whoIn ∈ tbl := tbl_in 1202 (by decide +kernel) rfl
theorem se_Model_whoIn : Cond.selects "ShakeHandsModel" y_Model_whoIn y_Model_whoIn ∈ tbl := tbl_sel 55 (by decide +kernel) rfl
abbrev b_Model_learn : ByteArray := prog_11_method_53_code
def y_Model_learn : MethodName := ⟨"ShakeHandsModel", "learn", "(II)I"⟩
theorem cd_Model_learn : Cond.code y_Model_learn b_Model_learn 3 (some .int) ∈ tbl := tbl_in 1207 (by decide +kernel) rfl
theorem im_Model_learn : Cond.instanceMethod y_Model_learn ∈ tbl := tbl_in 1205 (by decide +kernel) rfl
theorem se_Model_learn : Cond.selects "ShakeHandsModel" y_Model_learn y_Model_learn ∈ tbl := tbl_in 1206 (by decide +kernel) rfl
abbrev b_Model_knowsIt : ByteArray := prog_11_method_49_code
def y_Model_knowsIt : MethodName := ⟨"ShakeHandsModel", "knowsIt", "(II)Z"⟩
theorem cd_Model_knowsIt : Cond.code y_Model_knowsIt b_Model_knowsIt 3 (some .boolean) ∈ tbl := tbl_in 1211 (by decide +kernel) rfl
theorem im_Model_knowsIt : Cond.instanceMethod y_Model_knowsIt ∈ tbl := tbl_in 1210 (by decide +kernel) rfl
theorem se_Model_knowsIt : Cond.selects "ShakeHandsModel" y_Model_knowsIt y_Model_knowsIt ∈ tbl := tbl_sel 56 (by decide +kernel) rfl
abbrev b_Model_takes : ByteArray := prog_11_method_37_code
def y_Model_takes : MethodName := ⟨"ShakeHandsModel", "takes", "([II)V"⟩
theorem cd_Model_takes : Cond.code y_Model_takes b_Model_takes 4 (none) ∈ tbl := tbl_in 1215 (by decide +kernel) rfl
theorem im_Model_takes : Cond.instanceMethod y_Model_takes ∈ tbl := tbl_in 1214 (by decide +kernel) rfl
theorem se_Model_takes : Cond.selects "ShakeHandsModel" y_Model_takes y_Model_takes ∈ tbl := tbl_sel 57 (by decide +kernel) rfl
abbrev b_Model_adds : ByteArray := prog_11_method_34_code
def y_Model_adds : MethodName := ⟨"ShakeHandsModel", "adds", "(I)V"⟩
theorem cd_Model_adds : Cond.code y_Model_adds b_Model_adds 2 (none) ∈ tbl := tbl_in 1219 (by decide +kernel) rfl
theorem im_Model_adds : Cond.instanceMethod y_Model_adds ∈ tbl := tbl_in 1218 (by decide +kernel) rfl
theorem se_Model_adds : Cond.selects "ShakeHandsModel" y_Model_adds y_Model_adds ∈ tbl := tbl_sel 58 (by decide +kernel) rfl
abbrev b_Model_place : ByteArray := prog_11_method_33_code
def y_Model_place : MethodName := ⟨"ShakeHandsModel", "place", "(I)I"⟩
theorem cd_Model_place : Cond.code y_Model_place b_Model_place 4 (some .int) ∈ tbl := tbl_in 1223 (by decide +kernel) rfl
theorem im_Model_place : Cond.instanceMethod y_Model_place ∈ tbl := tbl_in 1222 (by decide +kernel) rfl
theorem se_Model_place : Cond.selects "ShakeHandsModel" y_Model_place y_Model_place ∈ tbl := tbl_sel 59 (by decide +kernel) rfl
abbrev b_Model_settles : ByteArray := prog_11_method_36_code
def y_Model_settles : MethodName := ⟨"ShakeHandsModel", "settles", "()V"⟩
theorem cd_Model_settles : Cond.code y_Model_settles b_Model_settles 3 (none) ∈ tbl := tbl_in 1227 (by decide +kernel) rfl
theorem im_Model_settles : Cond.instanceMethod y_Model_settles ∈ tbl := tbl_in 1226 (by decide +kernel) rfl
theorem se_Model_settles : Cond.selects "ShakeHandsModel" y_Model_settles y_Model_settles ∈ tbl := tbl_sel 60 (by decide +kernel) rfl
abbrev b_Model_drops : ByteArray := prog_11_method_35_code
def y_Model_drops : MethodName := ⟨"ShakeHandsModel", "drops", "(I)V"⟩
theorem cd_Model_drops : Cond.code y_Model_drops b_Model_drops 3 (none) ∈ tbl := tbl_in 1231 (by decide +kernel) rfl
theorem im_Model_drops : Cond.instanceMethod y_Model_drops ∈ tbl := tbl_in 1230 (by decide +kernel) rfl
theorem se_Model_drops : Cond.selects "ShakeHandsModel" y_Model_drops y_Model_drops ∈ tbl := tbl_sel 61 (by decide +kernel) rfl
abbrev b_Model_puts : ByteArray := prog_11_method_38_code
def y_Model_puts : MethodName := ⟨"ShakeHandsModel", "puts", "([II)V"⟩
theorem cd_Model_puts : Cond.code y_Model_puts b_Model_puts 4 (none) ∈ tbl := tbl_in 1235 (by decide +kernel) rfl
theorem im_Model_puts : Cond.instanceMethod y_Model_puts ∈ tbl := tbl_in 1234 (by decide +kernel) rfl
theorem se_Model_puts : Cond.selects "ShakeHandsModel" y_Model_puts y_Model_puts ∈ tbl := tbl_sel 62 (by decide +kernel) rfl
abbrev b_Model_forget : ByteArray := prog_11_method_54_code
def y_Model_forget : MethodName := ⟨"ShakeHandsModel", "forget", "(II)I"⟩
theorem cd_Model_forget : Cond.code y_Model_forget b_Model_forget 3 (some .int) ∈ tbl := tbl_in 1239 (by decide +kernel) rfl
theorem im_Model_forget : Cond.instanceMethod y_Model_forget ∈ tbl := tbl_in 1237 (by decide +kernel) rfl
theorem se_Model_forget : Cond.selects "ShakeHandsModel" y_Model_forget y_Model_forget ∈ tbl := tbl_in 1238 (by decide +kernel) rfl
abbrev b_Model_glove : ByteArray := prog_11_method_55_code
def y_Model_glove : MethodName := ⟨"ShakeHandsModel", "glove", "(IZ)I"⟩
theorem cd_Model_glove : Cond.code y_Model_glove b_Model_glove 4 (some .int) ∈ tbl := tbl_in 1243 (by decide +kernel) rfl
theorem im_Model_glove : Cond.instanceMethod y_Model_glove ∈ tbl := tbl_in 1241 (by decide +kernel) rfl
theorem se_Model_glove : Cond.selects "ShakeHandsModel" y_Model_glove y_Model_glove ∈ tbl := tbl_in 1242 (by decide +kernel) rfl
abbrev b_Model_shake : ByteArray := prog_11_method_58_code
def y_Model_shake : MethodName := ⟨"ShakeHandsModel", "shake", "(II)I"⟩
theorem cd_Model_shake : Cond.code y_Model_shake b_Model_shake 3 (some .int) ∈ tbl := tbl_in 1247 (by decide +kernel) rfl
theorem im_Model_shake : Cond.instanceMethod y_Model_shake ∈ tbl := tbl_in 1245 (by decide +kernel) rfl
theorem se_Model_shake : Cond.selects "ShakeHandsModel" y_Model_shake y_Model_shake ∈ tbl := tbl_in 1246 (by decide +kernel) rfl
abbrev b_Model_areTwo : ByteArray := prog_11_method_56_code
def y_Model_areTwo : MethodName := ⟨"ShakeHandsModel", "areTwo", "(II)Z"⟩
theorem cd_Model_areTwo : Cond.code y_Model_areTwo b_Model_areTwo 3 (some .boolean) ∈ tbl := tbl_in 1251 (by decide +kernel) rfl
theorem im_Model_areTwo : Cond.instanceMethod y_Model_areTwo ∈ tbl := tbl_in 1250 (by decide +kernel) rfl
theorem se_Model_areTwo : Cond.selects "ShakeHandsModel" y_Model_areTwo y_Model_areTwo ∈ tbl := tbl_sel 63 (by decide +kernel) rfl
abbrev b_Model_shakesNow : ByteArray := prog_11_method_57_code
def y_Model_shakesNow : MethodName := ⟨"ShakeHandsModel", "shakesNow", "(I)V"⟩
theorem cd_Model_shakesNow : Cond.code y_Model_shakesNow b_Model_shakesNow 2 (none) ∈ tbl := tbl_in 1255 (by decide +kernel) rfl
theorem im_Model_shakesNow : Cond.instanceMethod y_Model_shakesNow ∈ tbl := tbl_in 1254 (by decide +kernel) rfl
theorem se_Model_shakesNow : Cond.selects "ShakeHandsModel" y_Model_shakesNow y_Model_shakesNow ∈ tbl := tbl_sel 64 (by decide +kernel) rfl
abbrev b_Model_shakes : ByteArray := prog_11_method_39_code
def y_Model_shakes : MethodName := ⟨"ShakeHandsModel", "shakes", "(III)V"⟩
theorem cd_Model_shakes : Cond.code y_Model_shakes b_Model_shakes 6 (none) ∈ tbl := tbl_in 1259 (by decide +kernel) rfl
theorem im_Model_shakes : Cond.instanceMethod y_Model_shakes ∈ tbl := tbl_in 1258 (by decide +kernel) rfl
theorem se_Model_shakes : Cond.selects "ShakeHandsModel" y_Model_shakes y_Model_shakes ∈ tbl := tbl_sel 65 (by decide +kernel) rfl
abbrev b_Model_becomes : ByteArray := prog_11_method_43_code
def y_Model_becomes : MethodName := ⟨"ShakeHandsModel", "becomes", "(I)V"⟩
theorem cd_Model_becomes : Cond.code y_Model_becomes b_Model_becomes 3 (none) ∈ tbl := tbl_in 1263 (by decide +kernel) rfl
theorem im_Model_becomes : Cond.instanceMethod y_Model_becomes ∈ tbl := tbl_in 1262 (by decide +kernel) rfl
theorem se_Model_becomes : Cond.selects "ShakeHandsModel" y_Model_becomes y_Model_becomes ∈ tbl := tbl_sel 66 (by decide +kernel) rfl
abbrev b_Model_feast : ByteArray := prog_11_method_60_code
def y_Model_feast : MethodName := ⟨"ShakeHandsModel", "feast", "(I)I"⟩
theorem cd_Model_feast : Cond.code y_Model_feast b_Model_feast 3 (some .int) ∈ tbl := tbl_in 1267 (by decide +kernel) rfl
theorem im_Model_feast : Cond.instanceMethod y_Model_feast ∈ tbl := tbl_in 1265 (by decide +kernel) rfl
theorem se_Model_feast : Cond.selects "ShakeHandsModel" y_Model_feast y_Model_feast ∈ tbl := tbl_in 1266 (by decide +kernel) rfl
abbrev b_Model_anyNow : ByteArray := prog_11_method_47_code
def y_Model_anyNow : MethodName := ⟨"ShakeHandsModel", "anyNow", "()I"⟩
theorem cd_Model_anyNow : Cond.code y_Model_anyNow b_Model_anyNow 1 (some .int) ∈ tbl := tbl_in 1271 (by decide +kernel) rfl
theorem im_Model_anyNow : Cond.instanceMethod y_Model_anyNow ∈ tbl := tbl_in 1270 (by decide +kernel) rfl
theorem se_Model_anyNow : Cond.selects "ShakeHandsModel" y_Model_anyNow y_Model_anyNow ∈ tbl := tbl_sel 67 (by decide +kernel) rfl
abbrev b_Model_anyIn : ByteArray := prog_11_method_42_code
def y_Model_anyIn : MethodName := ⟨"ShakeHandsModel", "anyIn", "(I)I"⟩
theorem cd_Model_anyIn : Cond.code y_Model_anyIn b_Model_anyIn 4 (some .int) ∈ tbl := tbl_in 1275 (by decide +kernel) rfl
theorem im_Model_anyIn : Cond.instanceMethod y_Model_anyIn ∈ tbl := tbl_in 1274 (by decide +kernel) rfl
theorem se_Model_anyIn : Cond.selects "ShakeHandsModel" y_Model_anyIn y_Model_anyIn ∈ tbl := tbl_sel 68 (by decide +kernel) rfl
abbrev b_Model_feasts : ByteArray := prog_11_method_59_code
def y_Model_feasts : MethodName := ⟨"ShakeHandsModel", "feasts", "(II)V"⟩
theorem cd_Model_feasts : Cond.code y_Model_feasts b_Model_feasts 4 (none) ∈ tbl := tbl_in 1279 (by decide +kernel) rfl
theorem im_Model_feasts : Cond.instanceMethod y_Model_feasts ∈ tbl := tbl_in 1278 (by decide +kernel) rfl
theorem se_Model_feasts : Cond.selects "ShakeHandsModel" y_Model_feasts y_Model_feasts ∈ tbl := tbl_sel 69 (by decide +kernel) rfl
abbrev b_Model_after : ByteArray := prog_11_method_61_code
def y_Model_after : MethodName := ⟨"ShakeHandsModel", "after", "(II)I"⟩
theorem cd_Model_after : Cond.code y_Model_after b_Model_after 3 (some .int) ∈ tbl := tbl_in 1283 (by decide +kernel) rfl
theorem im_Model_after : Cond.instanceMethod y_Model_after ∈ tbl := tbl_in 1281 (by decide +kernel) rfl
theorem se_Model_after : Cond.selects "ShakeHandsModel" y_Model_after y_Model_after ∈ tbl := tbl_in 1282 (by decide +kernel) rfl
abbrev b_Model_lost : ByteArray := prog_11_method_62_code
def y_Model_lost : MethodName := ⟨"ShakeHandsModel", "lost", "(I)I"⟩
theorem cd_Model_lost : Cond.code y_Model_lost b_Model_lost 3 (some .int) ∈ tbl := tbl_in 1287 (by decide +kernel) rfl
theorem im_Model_lost : Cond.instanceMethod y_Model_lost ∈ tbl := tbl_in 1285 (by decide +kernel) rfl
theorem se_Model_lost : Cond.selects "ShakeHandsModel" y_Model_lost y_Model_lost ∈ tbl := tbl_in 1286 (by decide +kernel) rfl
abbrev b_Model_told : ByteArray := prog_11_method_63_code
def y_Model_told : MethodName := ⟨"ShakeHandsModel", "told", "(II)I"⟩
theorem cd_Model_told : Cond.code y_Model_told b_Model_told 4 (some .int) ∈ tbl := tbl_in 1291 (by decide +kernel) rfl
theorem im_Model_told : Cond.instanceMethod y_Model_told ∈ tbl := tbl_in 1289 (by decide +kernel) rfl
theorem se_Model_told : Cond.selects "ShakeHandsModel" y_Model_told y_Model_told ∈ tbl := tbl_in 1290 (by decide +kernel) rfl
abbrev b_Model_fewest : ByteArray := prog_11_method_74_code
def y_Model_fewest : MethodName := ⟨"ShakeHandsModel", "fewest", "(IIII)I"⟩
theorem cd_Model_fewest : Cond.code y_Model_fewest b_Model_fewest 6 (some .int) ∈ tbl := tbl_in 1295 (by decide +kernel) rfl
theorem im_Model_fewest : Cond.instanceMethod y_Model_fewest ∈ tbl := tbl_in 1293 (by decide +kernel) rfl
theorem se_Model_fewest : Cond.selects "ShakeHandsModel" y_Model_fewest y_Model_fewest ∈ tbl := tbl_in 1294 (by decide +kernel) rfl
abbrev b_Model_areOnes : ByteArray := prog_11_method_71_code
def y_Model_areOnes : MethodName := ⟨"ShakeHandsModel", "areOnes", "(I)Z"⟩
theorem cd_Model_areOnes : Cond.code y_Model_areOnes b_Model_areOnes 2 (some .boolean) ∈ tbl := tbl_in 1299 (by decide +kernel) rfl
theorem im_Model_areOnes : Cond.instanceMethod y_Model_areOnes ∈ tbl := tbl_in 1298 (by decide +kernel) rfl
theorem se_Model_areOnes : Cond.selects "ShakeHandsModel" y_Model_areOnes y_Model_areOnes ∈ tbl := tbl_sel 70 (by decide +kernel) rfl
abbrev b_Model_asks : ByteArray := prog_11_method_72_code
def y_Model_asks : MethodName := ⟨"ShakeHandsModel", "asks", "(IIII)V"⟩
theorem cd_Model_asks : Cond.code y_Model_asks b_Model_asks 5 (none) ∈ tbl := tbl_in 1305 (by decide +kernel) rfl
theorem im_Model_asks : Cond.instanceMethod y_Model_asks ∈ tbl := tbl_in 1304 (by decide +kernel) rfl
theorem se_Model_asks : Cond.selects "ShakeHandsModel" y_Model_asks y_Model_asks ∈ tbl := tbl_sel 71 (by decide +kernel) rfl
abbrev b_Model_fewestHands : ByteArray := prog_11_method_73_code
def y_Model_fewestHands : MethodName := ⟨"ShakeHandsModel", "fewestHands", "()I"⟩
theorem cd_Model_fewestHands : Cond.code y_Model_fewestHands b_Model_fewestHands 2 (some .int) ∈ tbl := tbl_in 1309 (by decide +kernel) rfl
theorem im_Model_fewestHands : Cond.instanceMethod y_Model_fewestHands ∈ tbl := tbl_in 1308 (by decide +kernel) rfl
theorem se_Model_fewestHands : Cond.selects "ShakeHandsModel" y_Model_fewestHands y_Model_fewestHands ∈ tbl := tbl_sel 72 (by decide +kernel) rfl
abbrev b_Model_layRows : ByteArray := prog_11_method_70_code
def y_Model_layRows : MethodName := ⟨"ShakeHandsModel", "layRows", "(IZ)I"⟩
theorem cd_Model_layRows : Cond.code y_Model_layRows b_Model_layRows 5 (some .int) ∈ tbl := tbl_in 1313 (by decide +kernel) rfl
theorem im_Model_layRows : Cond.instanceMethod y_Model_layRows ∈ tbl := tbl_in 1312 (by decide +kernel) rfl
theorem se_Model_layRows : Cond.selects "ShakeHandsModel" y_Model_layRows y_Model_layRows ∈ tbl := tbl_sel 73 (by decide +kernel) rfl
abbrev b_Model_isStill : ByteArray := prog_11_method_66_code
def y_Model_isStill : MethodName := ⟨"ShakeHandsModel", "isStill", "(I)Z"⟩
theorem cd_Model_isStill : Cond.code y_Model_isStill b_Model_isStill 2 (some .boolean) ∈ tbl := tbl_in 1317 (by decide +kernel) rfl
theorem im_Model_isStill : Cond.instanceMethod y_Model_isStill ∈ tbl := tbl_in 1316 (by decide +kernel) rfl
theorem se_Model_isStill : Cond.selects "ShakeHandsModel" y_Model_isStill y_Model_isStill ∈ tbl := tbl_sel 74 (by decide +kernel) rfl
abbrev b_Model_isGood : ByteArray := prog_11_method_68_code
def y_Model_isGood : MethodName := ⟨"ShakeHandsModel", "isGood", "(I)Z"⟩
theorem cd_Model_isGood : Cond.code y_Model_isGood b_Model_isGood 3 (some .boolean) ∈ tbl := tbl_in 1321 (by decide +kernel) rfl
theorem im_Model_isGood : Cond.instanceMethod y_Model_isGood ∈ tbl := tbl_in 1320 (by decide +kernel) rfl
theorem se_Model_isGood : Cond.selects "ShakeHandsModel" y_Model_isGood y_Model_isGood ∈ tbl := tbl_sel 75 (by decide +kernel) rfl
abbrev b_Model_isSeen : ByteArray := prog_11_method_67_code
def y_Model_isSeen : MethodName := ⟨"ShakeHandsModel", "isSeen", "(I)Z"⟩
theorem cd_Model_isSeen : Cond.code y_Model_isSeen b_Model_isSeen 4 (some .boolean) ∈ tbl := tbl_in 1325 (by decide +kernel) rfl
theorem im_Model_isSeen : Cond.instanceMethod y_Model_isSeen ∈ tbl := tbl_in 1324 (by decide +kernel) rfl
theorem se_Model_isSeen : Cond.selects "ShakeHandsModel" y_Model_isSeen y_Model_isSeen ∈ tbl := tbl_sel 76 (by decide +kernel) rfl
abbrev b_Model_aRow : ByteArray := prog_11_method_69_code
def y_Model_aRow : MethodName := ⟨"ShakeHandsModel", "aRow", "(I)V"⟩
theorem cd_Model_aRow : Cond.code y_Model_aRow b_Model_aRow 4 (none) ∈ tbl := tbl_in 1329 (by decide +kernel) rfl
theorem im_Model_aRow : Cond.instanceMethod y_Model_aRow ∈ tbl := tbl_in 1328 (by decide +kernel) rfl
theorem se_Model_aRow : Cond.selects "ShakeHandsModel" y_Model_aRow y_Model_aRow ∈ tbl := tbl_sel 77 (by decide +kernel) rfl
abbrev b_Model_freeFrom : ByteArray := prog_11_method_65_code
def y_Model_freeFrom : MethodName := ⟨"ShakeHandsModel", "freeFrom", "(I)I"⟩
theorem cd_Model_freeFrom : Cond.code y_Model_freeFrom b_Model_freeFrom 3 (some .int) ∈ tbl := tbl_in 1333 (by decide +kernel) rfl
theorem im_Model_freeFrom : Cond.instanceMethod y_Model_freeFrom ∈ tbl := tbl_in 1332 (by decide +kernel) rfl
theorem se_Model_freeFrom : Cond.selects "ShakeHandsModel" y_Model_freeFrom y_Model_freeFrom ∈ tbl := tbl_sel 78 (by decide +kernel) rfl
abbrev b_Model_isFreePair : ByteArray := prog_11_method_64_code
def y_Model_isFreePair : MethodName := ⟨"ShakeHandsModel", "isFreePair", "(I)Z"⟩
theorem cd_Model_isFreePair : Cond.code y_Model_isFreePair b_Model_isFreePair 2 (some .boolean) ∈ tbl := tbl_in 1337 (by decide +kernel) rfl
theorem im_Model_isFreePair : Cond.instanceMethod y_Model_isFreePair ∈ tbl := tbl_in 1336 (by decide +kernel) rfl
theorem se_Model_isFreePair : Cond.selects "ShakeHandsModel" y_Model_isFreePair y_Model_isFreePair ∈ tbl := tbl_sel 79 (by decide +kernel) rfl
abbrev b_Model_copies : ByteArray := prog_11_method_32_code
def y_Model_copies : MethodName := ⟨"ShakeHandsModel", "copies", "(II)V"⟩
theorem cd_Model_copies : Cond.code y_Model_copies b_Model_copies 4 (none) ∈ tbl := tbl_in 1341 (by decide +kernel) rfl
theorem im_Model_copies : Cond.instanceMethod y_Model_copies ∈ tbl := tbl_in 1340 (by decide +kernel) rfl
theorem se_Model_copies : Cond.selects "ShakeHandsModel" y_Model_copies y_Model_copies ∈ tbl := tbl_sel 80 (by decide +kernel) rfl
abbrev b_Model_rounds : ByteArray := prog_11_method_78_code
def y_Model_rounds : MethodName := ⟨"ShakeHandsModel", "rounds", "(III)I"⟩
theorem cd_Model_rounds : Cond.code y_Model_rounds b_Model_rounds 7 (some .int) ∈ tbl := tbl_in 1345 (by decide +kernel) rfl
theorem im_Model_rounds : Cond.instanceMethod y_Model_rounds ∈ tbl := tbl_in 1343 (by decide +kernel) rfl
theorem se_Model_rounds : Cond.selects "ShakeHandsModel" y_Model_rounds y_Model_rounds ∈ tbl := tbl_in 1344 (by decide +kernel) rfl
abbrev b_Model_layRounds : ByteArray := prog_11_method_76_code
def y_Model_layRounds : MethodName := ⟨"ShakeHandsModel", "layRounds", "()V"⟩
theorem cd_Model_layRounds : Cond.code y_Model_layRounds b_Model_layRounds 2 (none) ∈ tbl := tbl_in 1349 (by decide +kernel) rfl
theorem im_Model_layRounds : Cond.instanceMethod y_Model_layRounds ∈ tbl := tbl_in 1348 (by decide +kernel) rfl
theorem se_Model_layRounds : Cond.selects "ShakeHandsModel" y_Model_layRounds y_Model_layRounds ∈ tbl := tbl_sel 81 (by decide +kernel) rfl
abbrev b_Model_isRound : ByteArray := prog_11_method_75_code
def y_Model_isRound : MethodName := ⟨"ShakeHandsModel", "isRound", "(I)Z"⟩
theorem cd_Model_isRound : Cond.code y_Model_isRound b_Model_isRound 5 (some .boolean) ∈ tbl := tbl_in 1354 (by decide +kernel) rfl
theorem im_Model_isRound : Cond.instanceMethod y_Model_isRound ∈ tbl := tbl_in 1353 (by decide +kernel) rfl
theorem se_Model_isRound : Cond.selects "ShakeHandsModel" y_Model_isRound y_Model_isRound ∈ tbl := tbl_sel 82 (by decide +kernel) rfl
abbrev b_Model_goesRound : ByteArray := prog_11_method_77_code
def y_Model_goesRound : MethodName := ⟨"ShakeHandsModel", "goesRound", "(II)V"⟩
theorem cd_Model_goesRound : Cond.code y_Model_goesRound b_Model_goesRound 4 (none) ∈ tbl := tbl_in 1358 (by decide +kernel) rfl
theorem im_Model_goesRound : Cond.instanceMethod y_Model_goesRound ∈ tbl := tbl_in 1357 (by decide +kernel) rfl
theorem se_Model_goesRound : Cond.selects "ShakeHandsModel" y_Model_goesRound y_Model_goesRound ∈ tbl := tbl_sel 83 (by decide +kernel) rfl
abbrev b_Model_lose : ByteArray := prog_11_method_79_code
def y_Model_lose : MethodName := ⟨"ShakeHandsModel", "lose", "(I)I"⟩
theorem cd_Model_lose : Cond.code y_Model_lose b_Model_lose 2 (some .int) ∈ tbl := tbl_in 1362 (by decide +kernel) rfl
theorem im_Model_lose : Cond.instanceMethod y_Model_lose ∈ tbl := tbl_in 1360 (by decide +kernel) rfl
theorem se_Model_lose : Cond.selects "ShakeHandsModel" y_Model_lose y_Model_lose ∈ tbl := tbl_in 1361 (by decide +kernel) rfl
abbrev b_Model_lives : ByteArray := prog_11_method_81_code
def y_Model_lives : MethodName := ⟨"ShakeHandsModel", "lives", "(I)I"⟩
theorem cd_Model_lives : Cond.code y_Model_lives b_Model_lives 3 (some .int) ∈ tbl := tbl_in 1366 (by decide +kernel) rfl
theorem im_Model_lives : Cond.instanceMethod y_Model_lives ∈ tbl := tbl_in 1364 (by decide +kernel) rfl
theorem se_Model_lives : Cond.selects "ShakeHandsModel" y_Model_lives y_Model_lives ∈ tbl := tbl_in 1365 (by decide +kernel) rfl
abbrev b_Model_aDay : ByteArray := prog_11_method_80_code
def y_Model_aDay : MethodName := ⟨"ShakeHandsModel", "aDay", "(I)V"⟩
theorem cd_Model_aDay : Cond.code y_Model_aDay b_Model_aDay 3 (none) ∈ tbl := tbl_in 1370 (by decide +kernel) rfl
theorem im_Model_aDay : Cond.instanceMethod y_Model_aDay ∈ tbl := tbl_in 1369 (by decide +kernel) rfl
theorem se_Model_aDay : Cond.selects "ShakeHandsModel" y_Model_aDay y_Model_aDay ∈ tbl := tbl_sel 84 (by decide +kernel) rfl
abbrev b_Model_comes : ByteArray := prog_11_method_84_code
def y_Model_comes : MethodName := ⟨"ShakeHandsModel", "comes", "(I)I"⟩
theorem cd_Model_comes : Cond.code y_Model_comes b_Model_comes 4 (some .int) ∈ tbl := tbl_in 1374 (by decide +kernel) rfl
theorem im_Model_comes : Cond.instanceMethod y_Model_comes ∈ tbl := tbl_in 1372 (by decide +kernel) rfl
theorem se_Model_comes : Cond.selects "ShakeHandsModel" y_Model_comes y_Model_comes ∈ tbl := tbl_in 1373 (by decide +kernel) rfl
abbrev b_Model_notes : ByteArray := prog_11_method_82_code
def y_Model_notes : MethodName := ⟨"ShakeHandsModel", "notes", "(I)V"⟩
theorem cd_Model_notes : Cond.code y_Model_notes b_Model_notes 6 (none) ∈ tbl := tbl_in 1378 (by decide +kernel) rfl
theorem im_Model_notes : Cond.instanceMethod y_Model_notes ∈ tbl := tbl_in 1377 (by decide +kernel) rfl
theorem se_Model_notes : Cond.selects "ShakeHandsModel" y_Model_notes y_Model_notes ∈ tbl := tbl_sel 85 (by decide +kernel) rfl
abbrev b_Model_isAs : ByteArray := prog_11_method_83_code
def y_Model_isAs : MethodName := ⟨"ShakeHandsModel", "isAs", "(II)Z"⟩
theorem cd_Model_isAs : Cond.code y_Model_isAs b_Model_isAs 5 (some .boolean) ∈ tbl := tbl_in 1383 (by decide +kernel) rfl
theorem im_Model_isAs : Cond.instanceMethod y_Model_isAs ∈ tbl := tbl_in 1382 (by decide +kernel) rfl
theorem se_Model_isAs : Cond.selects "ShakeHandsModel" y_Model_isAs y_Model_isAs ∈ tbl := tbl_sel 86 (by decide +kernel) rfl
abbrev b_Model_days : ByteArray := prog_11_method_85_code
def y_Model_days : MethodName := ⟨"ShakeHandsModel", "days", "(I)I"⟩
theorem cd_Model_days : Cond.code y_Model_days b_Model_days 3 (some .int) ∈ tbl := tbl_in 1387 (by decide +kernel) rfl
theorem im_Model_days : Cond.instanceMethod y_Model_days ∈ tbl := tbl_in 1385 (by decide +kernel) rfl
theorem se_Model_days : Cond.selects "ShakeHandsModel" y_Model_days y_Model_days ∈ tbl := tbl_in 1386 (by decide +kernel) rfl
abbrev b_Model_saw : ByteArray := prog_11_method_87_code
def y_Model_saw : MethodName := ⟨"ShakeHandsModel", "saw", "(II)I"⟩
theorem cd_Model_saw : Cond.code y_Model_saw b_Model_saw 3 (some .int) ∈ tbl := tbl_in 1392 (by decide +kernel) rfl
theorem im_Model_saw : Cond.instanceMethod y_Model_saw ∈ tbl := tbl_in 1390 (by decide +kernel) rfl
theorem se_Model_saw : Cond.selects "ShakeHandsModel" y_Model_saw y_Model_saw ∈ tbl := tbl_in 1391 (by decide +kernel) rfl
abbrev b_Model_seen : ByteArray := prog_11_method_86_code
def y_Model_seen : MethodName := ⟨"ShakeHandsModel", "seen", "()I"⟩
theorem cd_Model_seen : Cond.code y_Model_seen b_Model_seen 3 (some .int) ∈ tbl := tbl_in 1397 (by decide +kernel) rfl
theorem im_Model_seen : Cond.instanceMethod y_Model_seen ∈ tbl := tbl_in 1396 (by decide +kernel) rfl
theorem se_Model_seen : Cond.selects "ShakeHandsModel" y_Model_seen y_Model_seen ∈ tbl := tbl_sel 87 (by decide +kernel) rfl
abbrev b_Model_blind : ByteArray := prog_11_method_88_code
def y_Model_blind : MethodName := ⟨"ShakeHandsModel", "blind", "()I"⟩
theorem cd_Model_blind : Cond.code y_Model_blind b_Model_blind 3 (some .int) ∈ tbl := tbl_in 1401 (by decide +kernel) rfl
theorem im_Model_blind : Cond.instanceMethod y_Model_blind ∈ tbl := tbl_in 1399 (by decide +kernel) rfl
theorem se_Model_blind : Cond.selects "ShakeHandsModel" y_Model_blind y_Model_blind ∈ tbl := tbl_in 1400 (by decide +kernel) rfl
abbrev b_Model_fits : ByteArray := prog_11_method_89_code
def y_Model_fits : MethodName := ⟨"ShakeHandsModel", "fits", "(II)I"⟩
theorem cd_Model_fits : Cond.code y_Model_fits b_Model_fits 4 (some .int) ∈ tbl := tbl_in 1405 (by decide +kernel) rfl
theorem im_Model_fits : Cond.instanceMethod y_Model_fits ∈ tbl := tbl_in 1403 (by decide +kernel) rfl
theorem se_Model_fits : Cond.selects "ShakeHandsModel" y_Model_fits y_Model_fits ∈ tbl := tbl_in 1404 (by decide +kernel) rfl
abbrev b_Model_least : ByteArray := prog_11_method_90_code
def y_Model_least : MethodName := ⟨"ShakeHandsModel", "least", "()I"⟩
theorem cd_Model_least : Cond.code y_Model_least b_Model_least 1 (some .int) ∈ tbl := tbl_in 1410 (by decide +kernel) rfl
theorem im_Model_least : Cond.instanceMethod y_Model_least ∈ tbl := tbl_in 1408 (by decide +kernel) rfl
theorem se_Model_least : Cond.selects "ShakeHandsModel" y_Model_least y_Model_least ∈ tbl := tbl_in 1409 (by decide +kernel) rfl
abbrev b_Model_seats : ByteArray := prog_11_method_92_code
def y_Model_seats : MethodName := ⟨"ShakeHandsModel", "seats", "(III)I"⟩
theorem cd_Model_seats : Cond.code y_Model_seats b_Model_seats 9 (some .int) ∈ tbl := tbl_in 1414 (by decide +kernel) rfl
theorem im_Model_seats : Cond.instanceMethod y_Model_seats ∈ tbl := tbl_in 1412 (by decide +kernel) rfl
theorem se_Model_seats : Cond.selects "ShakeHandsModel" y_Model_seats y_Model_seats ∈ tbl := tbl_in 1413 (by decide +kernel) rfl
abbrev b_Model_sits : ByteArray := prog_11_method_91_code
def y_Model_sits : MethodName := ⟨"ShakeHandsModel", "sits", "(I)V"⟩
theorem cd_Model_sits : Cond.code y_Model_sits b_Model_sits 8 (none) ∈ tbl := tbl_in 1418 (by decide +kernel) rfl
theorem im_Model_sits : Cond.instanceMethod y_Model_sits ∈ tbl := tbl_in 1417 (by decide +kernel) rfl
theorem se_Model_sits : Cond.selects "ShakeHandsModel" y_Model_sits y_Model_sits ∈ tbl := tbl_sel 88 (by decide +kernel) rfl
abbrev b_Model_gloves : ByteArray := prog_11_method_93_code
def y_Model_gloves : MethodName := ⟨"ShakeHandsModel", "gloves", "(III)I"⟩
theorem cd_Model_gloves : Cond.code y_Model_gloves b_Model_gloves 7 (some .int) ∈ tbl := tbl_in 1422 (by decide +kernel) rfl
theorem im_Model_gloves : Cond.instanceMethod y_Model_gloves ∈ tbl := tbl_in 1420 (by decide +kernel) rfl
theorem se_Model_gloves : Cond.selects "ShakeHandsModel" y_Model_gloves y_Model_gloves ∈ tbl := tbl_in 1421 (by decide +kernel) rfl
abbrev b_Model_keep : ByteArray := prog_11_method_94_code
def y_Model_keep : MethodName := ⟨"ShakeHandsModel", "keep", "(I)I"⟩
theorem cd_Model_keep : Cond.code y_Model_keep b_Model_keep 4 (some .int) ∈ tbl := tbl_in 1426 (by decide +kernel) rfl
theorem im_Model_keep : Cond.instanceMethod y_Model_keep ∈ tbl := tbl_in 1424 (by decide +kernel) rfl
theorem se_Model_keep : Cond.selects "ShakeHandsModel" y_Model_keep y_Model_keep ∈ tbl := tbl_in 1425 (by decide +kernel) rfl
abbrev b_Model_back : ByteArray := prog_11_method_95_code
def y_Model_back : MethodName := ⟨"ShakeHandsModel", "back", "(I)I"⟩
theorem cd_Model_back : Cond.code y_Model_back b_Model_back 3 (some .int) ∈ tbl := tbl_in 1430 (by decide +kernel) rfl
theorem im_Model_back : Cond.instanceMethod y_Model_back ∈ tbl := tbl_in 1428 (by decide +kernel) rfl
theorem se_Model_back : Cond.selects "ShakeHandsModel" y_Model_back y_Model_back ∈ tbl := tbl_in 1429 (by decide +kernel) rfl
abbrev b_Model_sheet : ByteArray := prog_11_method_97_code
def y_Model_sheet : MethodName := ⟨"ShakeHandsModel", "sheet", "(III)I"⟩
theorem cd_Model_sheet : Cond.code y_Model_sheet b_Model_sheet 5 (some .int) ∈ tbl := tbl_in 1434 (by decide +kernel) rfl
theorem im_Model_sheet : Cond.instanceMethod y_Model_sheet ∈ tbl := tbl_in 1432 (by decide +kernel) rfl
theorem se_Model_sheet : Cond.selects "ShakeHandsModel" y_Model_sheet y_Model_sheet ∈ tbl := tbl_in 1433 (by decide +kernel) rfl
abbrev b_Model_isSheet : ByteArray := prog_11_method_96_code
def y_Model_isSheet : MethodName := ⟨"ShakeHandsModel", "isSheet", "(II)Z"⟩
theorem cd_Model_isSheet : Cond.code y_Model_isSheet b_Model_isSheet 2 (some .boolean) ∈ tbl := tbl_in 1437 (by decide +kernel) rfl
theorem st_Model_isSheet : Cond.static y_Model_isSheet ∈ tbl := tbl_in 1436 (by decide +kernel) rfl
abbrev b_Model_lay : ByteArray := prog_11_method_98_code
def y_Model_lay : MethodName := ⟨"ShakeHandsModel", "lay", "(III)I"⟩
theorem cd_Model_lay : Cond.code y_Model_lay b_Model_lay 4 (some .int) ∈ tbl := tbl_in 1442 (by decide +kernel) rfl
theorem im_Model_lay : Cond.instanceMethod y_Model_lay ∈ tbl := tbl_in 1440 (by decide +kernel) rfl
theorem se_Model_lay : Cond.selects "ShakeHandsModel" y_Model_lay y_Model_lay ∈ tbl := tbl_in 1441 (by decide +kernel) rfl
abbrev b_Model_read : ByteArray := prog_11_method_99_code
def y_Model_read : MethodName := ⟨"ShakeHandsModel", "read", "(IIII)I"⟩
theorem cd_Model_read : Cond.code y_Model_read b_Model_read 11 (some .int) ∈ tbl := tbl_in 1446 (by decide +kernel) rfl
theorem im_Model_read : Cond.instanceMethod y_Model_read ∈ tbl := tbl_in 1444 (by decide +kernel) rfl
theorem se_Model_read : Cond.selects "ShakeHandsModel" y_Model_read y_Model_read ∈ tbl := tbl_in 1445 (by decide +kernel) rfl
abbrev b_Model_torn : ByteArray := prog_11_method_100_code
def y_Model_torn : MethodName := ⟨"ShakeHandsModel", "torn", "()I"⟩
theorem cd_Model_torn : Cond.code y_Model_torn b_Model_torn 1 (some .int) ∈ tbl := tbl_in 1451 (by decide +kernel) rfl
theorem im_Model_torn : Cond.instanceMethod y_Model_torn ∈ tbl := tbl_in 1449 (by decide +kernel) rfl
theorem se_Model_torn : Cond.selects "ShakeHandsModel" y_Model_torn y_Model_torn ∈ tbl := tbl_in 1450 (by decide +kernel) rfl
abbrev b_Model_count : ByteArray := prog_11_method_101_code
def y_Model_count : MethodName := ⟨"ShakeHandsModel", "count", "(I)I"⟩
theorem cd_Model_count : Cond.code y_Model_count b_Model_count 4 (some .int) ∈ tbl := tbl_in 1455 (by decide +kernel) rfl
theorem im_Model_count : Cond.instanceMethod y_Model_count ∈ tbl := tbl_in 1453 (by decide +kernel) rfl
theorem se_Model_count : Cond.selects "ShakeHandsModel" y_Model_count y_Model_count ∈ tbl := tbl_in 1454 (by decide +kernel) rfl
end
section
/-! THE FLAT MEMORY: a pure picture of all cells of one object and what hangs on it; J: 'if the pure residue is some (r, M'), the machine returns r with M'' -/
abbrev Mem : Type := (Nat → Nat → Int32) × (Nat → Nat → Int64)
abbrev Shp : Type := List (Nat × List Nat)
def si (M : Mem) (a k : Nat) (v : Int32) : Mem := (fun x y => if x = a ∧ y = k then v else M.1 x y, M.2)
def sl (M : Mem) (a k : Nat) (v : Int64) : Mem := (M.1, fun x y => if x = a ∧ y = k then v else M.2 x y)
def cpI (M : Mem) (a sp b dp n : Nat) : Mem := (fun x y => if x = b ∧ dp ≤ y ∧ y < dp + n then M.1 a (sp + (y - dp)) else M.1 x y, M.2)
def cpL (M : Mem) (a sp b dp n : Nat) : Mem := (M.1, fun x y => if x = b ∧ dp ≤ y ∧ y < dp + n then M.2 a (sp + (y - dp)) else M.2 x y)
def rv (ad : Nat → Nat) (v : Value) : Value := match v with
  | .ref a => .ref (ad a)
  | w => w
def rvp (ad : Nat → Nat) (q : Nat × Value) : Nat × Value := (q.1, rv ad q.2)
def fldOf (ad : Nat → Nat) (M : Mem) (a i kd : Nat) : Value := match kd with
  | 0 => .int (M.1 a i)
  | 1 => .long (M.2 a i)
  | r + 2 => .ref (ad r)
def objOf (ad : Nat → Nat) (M : Mem) (a : Nat) (ds : List Nat) : List Value := ds.mapIdx (fun i kd => fldOf ad M a i kd)
def cellOf (ad : Nat → Nat) (dA : Nat → ClassId) (M : Mem) (a : Nat) (q : Nat × List Nat) : va_E :=
  if q.1 < 100 then .inr (q.1, objOf ad M a q.2)
  else if q.1 < 103 then .inl (dA (q.1 - 100), q.2.headD 0, .inl (M.1 a))
  else if q.1 = 103 then .inl (dA 3, q.2.headD 0, .inr (.inl (M.2 a)))
  else .inl (dA (q.1 - 100), q.2.length, .inr (.inr (.inr (.inr (fun j => (q.2[j]?).map ad)))))
def lay (ad : Nat → Nat) (dA : Nat → ClassId) (sh : Shp) (M : Mem) : va_W := sh.mapIdx (fun a q => (ad a, cellOf ad dA M a q))
def tysOf (dA : Nat → ClassId) : List (ClassId × FieldType) := [(dA 0, .int), (dA 1, .byte), (dA 2, .boolean), (dA 3, .long), (dA 4, .object "ShakeHands$Minds"), (dA 5, .object "ShakeHands$Sheet"), (dA 6, .array .long)]
theorem lay_get {ad : Nat → Nat} {dA : Nat → ClassId} {sh : Shp} {M : Mem} {a : Nat} {q : Nat × List Nat} (h : sh[a]? = some q) : (lay ad dA sh M)[a]? = some (ad a, cellOf ad dA M a q) := by
  simp [lay, h]
theorem obj_get {ad : Nat → Nat} {M : Mem} {a k kd : Nat} {ds : List Nat} (h : ds[k]? = some kd) : (objOf ad M a ds)[k]? = some (fldOf ad M a k kd) := by
  simp [objOf, h]
theorem cell_obj {ad : Nat → Nat} {dA : Nat → ClassId} {M : Mem} {a ci : Nat} {ds : List Nat} (h : ci < 100) : cellOf ad dA M a (ci, ds) = .inr (ci, objOf ad M a ds) := by
  simp [cellOf, h]
theorem cell_off {ad : Nat → Nat} {dA : Nat → ClassId} {M M' : Mem} {a : Nat} {q : Nat × List Nat} (h1 : M'.1 a = M.1 a) (h2 : M'.2 a = M.2 a) : cellOf ad dA M' a q = cellOf ad dA M a q := by
  have h : objOf ad M' a q.2 = objOf ad M a q.2 := by
    unfold objOf
    congr 1
    funext i kd
    match kd with
    | 0 => simp [fldOf, h1]
    | 1 => simp [fldOf, h2]
    | r + 2 => rfl
  unfold cellOf
  rw [h, h1, h2]
theorem lay_set {ad : Nat → Nat} {dA : Nat → ClassId} {sh : Shp} {M M' : Mem} {a : Nat} {q : Nat × List Nat} {x : va_E} (h : sh[a]? = some q) (hx : x = cellOf ad dA M' a q) (ho : ∀ j, j ≠ a → M'.1 j = M.1 j ∧ M'.2 j = M.2 j) : (lay ad dA sh M).set a (ad a, x) = lay ad dA sh M' := by
  apply List.ext_getElem?
  intro j
  rw [List.getElem?_set]
  by_cases e : a = j
  · subst e
    have hl : a < (lay ad dA sh M).length := by
      have := (List.getElem?_eq_some_iff.mp (lay_get (ad := ad) (dA := dA) (M := M) h)).1
      exact this
    rw [if_pos rfl, if_pos hl, lay_get h, hx]
  · rw [if_neg e]
    cases hq : sh[j]? with
    | none => simp [lay, hq]
    | some q2 => rw [lay_get hq, lay_get hq, cell_off (ho j (fun e2 => e e2.symm)).1 (ho j (fun e2 => e e2.symm)).2]
theorem obj_set {ad : Nat → Nat} {M M' : Mem} {a k kd : Nat} {ds : List Nat} {v : Value} (h : ds[k]? = some kd) (hv : fldOf ad M' a k kd = v) (ho : ∀ j kd2, j ≠ k → fldOf ad M' a j kd2 = fldOf ad M a j kd2) : (objOf ad M a ds).set k v = objOf ad M' a ds := by
  apply List.ext_getElem?
  intro j
  rw [List.getElem?_set]
  by_cases e : k = j
  · subst e
    have hl : k < (objOf ad M a ds).length := (List.getElem?_eq_some_iff.mp (obj_get (ad := ad) (M := M) (a := a) h)).1
    rw [if_pos rfl, if_pos hl, obj_get h, hv]
  · rw [if_neg e]
    cases hq : ds[j]? with
    | none => simp [objOf, hq]
    | some q2 => rw [obj_get hq, obj_get hq, ho j q2 (fun e2 => e e2.symm)]
theorem si_off {M : Mem} {a k j : Nat} {v : Int32} (h : j ≠ a) : (si M a k v).1 j = M.1 j ∧ (si M a k v).2 j = M.2 j := ⟨by funext y; simp [si, h], rfl⟩
theorem sl_off {M : Mem} {a k j : Nat} {v : Int64} (h : j ≠ a) : (sl M a k v).1 j = M.1 j ∧ (sl M a k v).2 j = M.2 j := ⟨rfl, by funext y; simp [sl, h]⟩
theorem cpI_off {M : Mem} {a sp b dp n j : Nat} (h : j ≠ b) : (cpI M a sp b dp n).1 j = M.1 j ∧ (cpI M a sp b dp n).2 j = M.2 j := ⟨by funext y; simp [cpI, h], rfl⟩
theorem cpL_off {M : Mem} {a sp b dp n j : Nat} (h : j ≠ b) : (cpL M a sp b dp n).1 j = M.1 j ∧ (cpL M a sp b dp n).2 j = M.2 j := ⟨rfl, by funext y; simp [cpL, h]⟩
theorem rv_cat (ad : Nat → Nat) (v : Value) : (rv ad v).category = v.category := by cases v <;> rfl
theorem rv_cats (ad : Nat → Nat) : ∀ st : List Value, ((st.map (rv ad)).map fun v => v.category).sum = (st.map fun v => v.category).sum
  | [] => rfl
  | v :: st => by
    have h := rv_cats ad st
    simp only [List.map_cons, List.sum_cons, rv_cat]
    rw [h]
theorem lvp_get {ad : Nat → Nat} {lv : List (Nat × Value)} {k i : Nat} {v : Value} (h : lv[k]? = some (i, v)) : (lv.map (rvp ad))[k]? = some (i, rv ad v) := by
  rw [List.getElem?_map, h]; rfl
theorem lvp_filter {ad : Nat → Nat} {lv lv' : List (Nat × Value)} {i : Nat} {v : Value} (h : (i, v) :: lv.filter (fun q => !(q.1 == i) && !(q.1 + 1 == i && q.2.category == 2)) = lv') : (i, rv ad v) :: (lv.map (rvp ad)).filter (fun q => !(q.1 == i) && !(q.1 + 1 == i && q.2.category == 2)) = lv'.map (rvp ad) := by
  subst h
  rw [List.map_cons, List.filter_map]
  have e : ((fun q : Nat × Value => !(q.1 == i) && !(q.1 + 1 == i && q.2.category == 2)) ∘ rvp ad) = (fun q : Nat × Value => !(q.1 == i) && !(q.1 + 1 == i && q.2.category == 2)) := by
    funext q
    simp [rvp, rv_cat]
  rw [e]
  rfl
theorem lvp_filter2 {ad : Nat → Nat} {lv lv' : List (Nat × Value)} {i : Nat} {v : Value} {f : Nat × Value → Bool} (hf : ∀ q, f (rvp ad q) = f q) (h : (i, v) :: lv.filter f = lv') : (i, rv ad v) :: (lv.map (rvp ad)).filter f = lv'.map (rvp ad) := by
  subst h
  rw [List.map_cons, List.filter_map]
  have e : f ∘ rvp ad = f := funext hf
  rw [e]
  rfl
theorem lvp_args (ad : Nat → Nat) : ∀ (i : Nat) (vs : List Value), lv_args i (vs.map (rv ad)) = (lv_args i vs).map (rvp ad)
  | _, [] => rfl
  | i, v :: vs => by
    simp only [List.map_cons, lv_args, rv_cat, rvp]
    rw [lvp_args ad _ vs]
theorem lvp_sl (ad : Nat → Nat) (vs : List Value) : (lg_sl (vs.map (rv ad))).length = (lg_sl vs).length := by
  induction vs with
  | nil => rfl
  | cons v vs ih =>
    simp only [lg_sl, List.map_cons, List.flatMap_cons, List.length_append, rv_cat] at ih ⊢
    rw [ih]
    by_cases h : v.category = 2 <;> simp [h]
end
section
/-! J: the machine stands in a method of mt at pc, with locals lv, operand stack st, memory M; F is the pure residue of the method from there on -/
-- a method's constants: its class, code, locals, answer's type, depth of its calls, and the shapes of all cells
abbrev Mt : Type := String × ByteArray × Nat × Option FieldType × Nat × Shp
def lsr : Nat → Int32 := fun j => ([0, 0, 1, 0, 1, 2, 0, 1, 2, 3, 0, 1, 2, 3, 4] : List Int32).getD j 0
def grt : Nat → Int32 := fun j => ([1, 2, 2, 3, 3, 3, 4, 4, 4, 4, 5, 5, 5, 5, 5] : List Int32).getD j 0
def stLen : List Nat := [6, 4, 5, 4, 4, 5, 5]
def stByt : List (List Int32) := [[112, 101, 111, 112, 108, 101], [104, 111, 108, 100], [107, 110, 111, 119, 115], [106, 111, 105, 110], [104, 97, 110, 100], [100, 97, 105, 108, 121], [103, 108, 111, 118, 101]]
def stTxt : List (Nat × String) := [(115, "people"), (123, "hold"), (127, "knows"), (132, "join"), (137, "hand"), (150, "daily"), (157, "glove")]
def nestF : List (String × Nat × String) := [("ShakeHands$Circle", 50, "LESSER"), ("ShakeHands$Circle", 53, "GREATER"), ("ShakeHands$Search", 113, "LESSER"), ("ShakeHands$Search", 116, "GREATER")]
def nestM : List (String × Nat × MethodName) := [("ShakeHands$Search", 146, y_ShakeHands_pairOf), ("ShakeHands$Teller", 206, y_ShakeHands_pairOf)]
/-- what holds of the machine besides the object's own cells: class tables, static arrays, string constants (ids 200, 201, 210.., 220..) -/
def Cx (D : va_G) (ad : Nat → Nat) (dA : Nat → ClassId) (A : Nat → Prop) (U : State) (H : Heap) : Prop :=
  va_K D cl (tysOf dA) U ∧ va_Z "ShakeHands" "LESSER" "[I" (.ref (ad 200)) A U H ∧ va_T .int (ad 200) 15 (fun j => .int (lsr j)) A U H ∧
  va_Z "ShakeHands" "GREATER" "[I" (.ref (ad 201)) A U H ∧ va_T .int (ad 201) 15 (fun j => .int (grt j)) A U H ∧
  vk_S 7 stLen stByt (fun i => ad (210 + i)) (fun i => ad (220 + i)) A U H ∧ (∀ i q, stTxt[i]? = some q → vk_R "ShakeHands$Teller" q.1 q.2 (ad (210 + i)) U) ∧
  va_Z "java/lang/String" "COMPACT_STRINGS" "Z" (.int 1) A U H ∧ (va_Z "jdk/internal/util/Preconditions" "SIOOBE_FORMATTER" "Ljava/util/function/BiFunction;" .null A U H ∨ va_Z "jdk/internal/util/Preconditions" "SIOOBE_FORMATTER" "Ljava/util/function/BiFunction;" (.ref (ad 230)) A U H) ∧
  (∀ q ∈ nestF, va_Nw (.fieldLinkNest q.1 q.2.1 "ShakeHands" q.2.2 "[I" "ShakeHands") U) ∧ (∀ q ∈ nestM, va_Nw (.methodLinkNest q.1 q.2.1 q.2.2 "ShakeHands") U)
theorem Cx.next {D : va_G} {ad : Nat → Nat} {dA : Nat → ClassId} {A : Nat → Prop} {s U : State} {H : Heap} {locs : List Loc} (h : Cx D ad dA A s s.heap) (hS : va_S A s.heap H locs) (hW : s.WarmedH U.vm) : Cx D ad dA A U H := by
  obtain ⟨h1, h2, h3, h4, h5, h6, h7, h8, h9, h10, h11⟩ := h
  have hk : ∀ a : Nat, a < s.heap.size → ¬ A a → H[a]? = s.heap[a]? := hS.2.1
  have hv := hW.alike
  exact ⟨va_K.moved hv h1, va_Z.kept (va_Z.moved hv h2) hk, va_T.kept (va_T.moved hv h3) hk, va_Z.kept (va_Z.moved hv h4) hk, va_T.kept (va_T.moved hv h5) hk, vk_S.kept (vk_S.moved hv h6) hk, fun i q hq => vk_R.warm hW (h7 i q hq), va_Z.kept (va_Z.moved hv h8) hk, Or.imp (fun h => va_Z.kept (va_Z.moved hv h) hk) (fun h => va_Z.kept (va_Z.moved hv h) hk) h9, fun q hq => va_Nw.warmF hW (h10 q hq), fun q hq => va_Nw.warmM hW (h11 q hq)⟩
theorem Cx.blind {D : va_G} {ad : Nat → Nat} {dA : Nat → ClassId} {A : Nat → Prop} {U : State} {g : JFrame} {mk : MethodId} {a : Array Value} (h : Cx D ad dA A U U.heap) : Cx D ad dA A (U.calling g mk a) (U.calling g mk a).heap := by
  obtain ⟨h1, h2, h3, h4, h5, h6, h7, h8, h9, h10, h11⟩ := h
  have hv : U.vm.Alike (U.calling g mk a).vm := Vm.Alike.refl U.vm
  exact ⟨va_K.moved (u := U) hv h1, va_Z.moved (u := U) hv h2, va_T.moved (u := U) hv h3, va_Z.moved (u := U) hv h4, va_T.moved (u := U) hv h5, vk_S.moved (u := U) hv h6, fun i q hq => vk_R.same (u := U) rfl (h7 i q hq), va_Z.moved (u := U) hv h8, Or.imp (fun h => va_Z.moved (u := U) hv h) (fun h => va_Z.moved (u := U) hv h) h9, fun q hq => va_Nw.same rfl rfl (h10 q hq), fun q hq => va_Nw.same rfl rfl (h11 q hq)⟩
def Wd (D : va_G) (ad : Nat → Nat) (dA : Nat → ClassId) (A : Nat → Prop) (sh : Shp) (M : Mem) (H : Heap) : Prop := va_P D cl (lay ad dA sh M) H ∧ va_D A (lay ad dA sh M)
def Qr (wv : Option Value) (Post : State → Prop) (A : Nat → Prop) : Array Value → State → Outcome → State → Prop := fun _ st o t => o = .returned wv ∧ Post t ∧ va_F A st t
def rmd (d : Nat) : Room := { frames := d, cells := 0, slots := 0, locals := 64 * d }
def Hp (mt : Mt) (p : Program) (s : State) (m : MethodId) (args : Array Value) (meth : Method) (c : Code) (D : va_G) (ad : Nat → Nat) (dA : Nat → ClassId) (A : Nat → Prop) : Prop :=
  p.tables.exec = Jvm.exec ∧ c.code = mt.2.1 ∧ meth.sig.returnType = mt.2.2.2.1 ∧ c.maxLocals = mt.2.2.1 ∧ s.vm.findClass mt.1 = some m.cls ∧ (∀ w ∈ tbl, w.before args s = true) ∧ meth.locks = false ∧ Cx D ad dA A s s.heap
def J {R : Type} (mt : Mt) (wr : R → Option Value) (pc : Nat) (lv : List (Nat × Value)) (st : List Value) (M : Mem) (F : Option (R × Mem)) : Prop :=
  ∀ (r : R) (M' : Mem), F = some (r, M') → ∀ (p : Program) (l : Launch) (e : Env) (s : State) (m : MethodId) (args : Array Value) (below : List Frame) (meth : Method) (c : Code) (D : va_G) (ad : Nat → Nat) (dA : Nat → ClassId) (A : Nat → Prop), Hp mt p s m args meth c D ad dA A →
    ∀ (H : Heap) (locs : List Loc) (ls : Array Slot), va_P D cl (lay ad dA mt.2.2.2.2.2 M) H → va_D A (lay ad dA mt.2.2.2.2.2 M) → va_S A s.heap H locs → lv_has ls mt.2.2.1 (lv.map (rvp ad)) →
      W p l e (rmd mt.2.2.2.2.1) s m args below meth c H locs 0 0 (MQ below (Qr (wr r) (fun t => Wd D ad dA A mt.2.2.2.2.2 M' t.heap) A) args s 0 0 A) (F0 m pc ls (st.map (rv ad)))
/-- a method's contract -/
def Ct {R : Type} (y : MethodName) (mt : Mt) (wr : R → Option Value) (as : List Value) (M : Mem) (F : Option (R × Mem)) : Prop :=
  ∀ (r : R) (M' : Mem), F = some (r, M') → ∀ (l : Launch) (D : va_G) (ad : Nat → Nat) (dA : Nat → ClassId) (A : Nat → Prop),
    Met l y (.code y mt.2.1 mt.2.2.1 mt.2.2.2.1 :: tbl) (rmd mt.2.2.2.2.1) (va_Pc (as.map (rv ad)) (fun U => Wd D ad dA A mt.2.2.2.2.2 M U.heap ∧ Cx D ad dA A U U.heap)) (Qr (wr r) (fun t => Wd D ad dA A mt.2.2.2.2.2 M' t.heap) A) 0 0 A
theorem ct_of {R : Type} {y : MethodName} {mt : Mt} {wr : R → Option Value} {as : List Value} {M : Mem} {F : Option (R × Mem)} (hy : plainName y.cls = true) (hn : y.cls = mt.1) (hl : (lg_sl as).length ≤ mt.2.2.1) (hJ : J mt wr 0 (lv_args 0 as) [] M F) : Ct y mt wr as M F := by
  intro r M' hF l D ad dA A
  refine Met.ofW (cc := mt.2.1) (maxL := mt.2.2.1) (ret := mt.2.2.2.1) hy rfl ?_
  intro p e s m args below meth c s₁ B hml hv
  obtain ⟨rfl, ⟨hP, hD⟩, hC⟩ := hv
  have hts := atoms_spec (ws := .code y mt.2.1 mt.2.2.1 mt.2.2.2.1 :: tbl) B.pre
  have hown : s.vm.findClass y.cls = some m.cls := findClass_of_methodNamed B.named
  have hS : va_S A s.heap s.heap [] := va_S.rf
  have hls := lv_entry (as.map (rv ad)) (n := mt.2.2.1) (by rw [lvp_sl]; exact hl)
  rw [lg_entry_eq]
  rw [lvp_args] at hls
  exact hJ r M' hF p l e s m _ below meth c D ad dA A ⟨B.exec, B.bytes, B.returns, hml, by rw [← hn]; exact hown, fun w h => hts w (List.mem_cons_of_mem _ h), B.notSynchronized, hC⟩ s.heap [] _ hP hD hS hls
end
section
/-! ROWS: an instruction, a row (written by wip/gen/rows.py) -/
theorem j_iadd {R : Type} {mt : Mt} {wr : R → Option Value} {pc : Nat} {lv : List (Nat × Value)} {st : List Value} {M : Mem} {F : Option (R × Mem)} {x y : Int32} (hd : decode mt.2.1 pc = .ok (.iadd, 1)) (K : J mt wr (pc + 1) lv (.int (x + y) :: st) M F) : J mt wr pc lv (.int y :: .int x :: st) M F := by
  intro r M' hF p l e s m args below meth c D ad dA A hp H locs ls hP hD hS hl
  obtain ⟨hx, hb, hr, hml, hown, hts, hlk, hC⟩ := id hp
  exact lv_iadd hx hb hd (K r M' hF p l e s m args below meth c D ad dA A hp H locs ls hP hD hS hl)
theorem j_isub {R : Type} {mt : Mt} {wr : R → Option Value} {pc : Nat} {lv : List (Nat × Value)} {st : List Value} {M : Mem} {F : Option (R × Mem)} {x y : Int32} (hd : decode mt.2.1 pc = .ok (.isub, 1)) (K : J mt wr (pc + 1) lv (.int (x - y) :: st) M F) : J mt wr pc lv (.int y :: .int x :: st) M F := by
  intro r M' hF p l e s m args below meth c D ad dA A hp H locs ls hP hD hS hl
  obtain ⟨hx, hb, hr, hml, hown, hts, hlk, hC⟩ := id hp
  exact lv_isub hx hb hd (K r M' hF p l e s m args below meth c D ad dA A hp H locs ls hP hD hS hl)
theorem j_imul {R : Type} {mt : Mt} {wr : R → Option Value} {pc : Nat} {lv : List (Nat × Value)} {st : List Value} {M : Mem} {F : Option (R × Mem)} {x y : Int32} (hd : decode mt.2.1 pc = .ok (.imul, 1)) (K : J mt wr (pc + 1) lv (.int (x * y) :: st) M F) : J mt wr pc lv (.int y :: .int x :: st) M F := by
  intro r M' hF p l e s m args below meth c D ad dA A hp H locs ls hP hD hS hl
  obtain ⟨hx, hb, hr, hml, hown, hts, hlk, hC⟩ := id hp
  exact lv_imul hx hb hd (K r M' hF p l e s m args below meth c D ad dA A hp H locs ls hP hD hS hl)
theorem j_iand {R : Type} {mt : Mt} {wr : R → Option Value} {pc : Nat} {lv : List (Nat × Value)} {st : List Value} {M : Mem} {F : Option (R × Mem)} {x y : Int32} (hd : decode mt.2.1 pc = .ok (.iand, 1)) (K : J mt wr (pc + 1) lv (.int (x &&& y) :: st) M F) : J mt wr pc lv (.int y :: .int x :: st) M F := by
  intro r M' hF p l e s m args below meth c D ad dA A hp H locs ls hP hD hS hl
  obtain ⟨hx, hb, hr, hml, hown, hts, hlk, hC⟩ := id hp
  exact lv_iand hx hb hd (K r M' hF p l e s m args below meth c D ad dA A hp H locs ls hP hD hS hl)
theorem j_ior {R : Type} {mt : Mt} {wr : R → Option Value} {pc : Nat} {lv : List (Nat × Value)} {st : List Value} {M : Mem} {F : Option (R × Mem)} {x y : Int32} (hd : decode mt.2.1 pc = .ok (.ior, 1)) (K : J mt wr (pc + 1) lv (.int (x ||| y) :: st) M F) : J mt wr pc lv (.int y :: .int x :: st) M F := by
  intro r M' hF p l e s m args below meth c D ad dA A hp H locs ls hP hD hS hl
  obtain ⟨hx, hb, hr, hml, hown, hts, hlk, hC⟩ := id hp
  exact lv_ior hx hb hd (K r M' hF p l e s m args below meth c D ad dA A hp H locs ls hP hD hS hl)
theorem j_ixor {R : Type} {mt : Mt} {wr : R → Option Value} {pc : Nat} {lv : List (Nat × Value)} {st : List Value} {M : Mem} {F : Option (R × Mem)} {x y : Int32} (hd : decode mt.2.1 pc = .ok (.ixor, 1)) (K : J mt wr (pc + 1) lv (.int (x ^^^ y) :: st) M F) : J mt wr pc lv (.int y :: .int x :: st) M F := by
  intro r M' hF p l e s m args below meth c D ad dA A hp H locs ls hP hD hS hl
  obtain ⟨hx, hb, hr, hml, hown, hts, hlk, hC⟩ := id hp
  exact lv_ixor hx hb hd (K r M' hF p l e s m args below meth c D ad dA A hp H locs ls hP hD hS hl)
theorem j_ishl {R : Type} {mt : Mt} {wr : R → Option Value} {pc : Nat} {lv : List (Nat × Value)} {st : List Value} {M : Mem} {F : Option (R × Mem)} {x y : Int32} (hd : decode mt.2.1 pc = .ok (.ishl, 1)) (K : J mt wr (pc + 1) lv (.int (x <<< (y &&& 31)) :: st) M F) : J mt wr pc lv (.int y :: .int x :: st) M F := by
  intro r M' hF p l e s m args below meth c D ad dA A hp H locs ls hP hD hS hl
  obtain ⟨hx, hb, hr, hml, hown, hts, hlk, hC⟩ := id hp
  exact lv_ishl hx hb hd (K r M' hF p l e s m args below meth c D ad dA A hp H locs ls hP hD hS hl)
theorem j_ishr {R : Type} {mt : Mt} {wr : R → Option Value} {pc : Nat} {lv : List (Nat × Value)} {st : List Value} {M : Mem} {F : Option (R × Mem)} {x y : Int32} (hd : decode mt.2.1 pc = .ok (.ishr, 1)) (K : J mt wr (pc + 1) lv (.int (x >>> (y &&& 31)) :: st) M F) : J mt wr pc lv (.int y :: .int x :: st) M F := by
  intro r M' hF p l e s m args below meth c D ad dA A hp H locs ls hP hD hS hl
  obtain ⟨hx, hb, hr, hml, hown, hts, hlk, hC⟩ := id hp
  exact lv_ishr hx hb hd (K r M' hF p l e s m args below meth c D ad dA A hp H locs ls hP hD hS hl)
theorem j_iushr {R : Type} {mt : Mt} {wr : R → Option Value} {pc : Nat} {lv : List (Nat × Value)} {st : List Value} {M : Mem} {F : Option (R × Mem)} {x y : Int32} (hd : decode mt.2.1 pc = .ok (.iushr, 1)) (K : J mt wr (pc + 1) lv (.int ((x.toUInt32 >>> (y.toUInt32 &&& Int32.toUInt32 31)).toInt32) :: st) M F) : J mt wr pc lv (.int y :: .int x :: st) M F := by
  intro r M' hF p l e s m args below meth c D ad dA A hp H locs ls hP hD hS hl
  obtain ⟨hx, hb, hr, hml, hown, hts, hlk, hC⟩ := id hp
  exact lv_iushr hx hb hd rfl (K r M' hF p l e s m args below meth c D ad dA A hp H locs ls hP hD hS hl)
theorem j_ladd {R : Type} {mt : Mt} {wr : R → Option Value} {pc : Nat} {lv : List (Nat × Value)} {st : List Value} {M : Mem} {F : Option (R × Mem)} {x y : Int64} (hd : decode mt.2.1 pc = .ok (.ladd, 1)) (K : J mt wr (pc + 1) lv (.long (x + y) :: st) M F) : J mt wr pc lv (.long y :: .long x :: st) M F := by
  intro r M' hF p l e s m args below meth c D ad dA A hp H locs ls hP hD hS hl
  obtain ⟨hx, hb, hr, hml, hown, hts, hlk, hC⟩ := id hp
  exact lv_ladd hx hb hd (K r M' hF p l e s m args below meth c D ad dA A hp H locs ls hP hD hS hl)
theorem j_lsub {R : Type} {mt : Mt} {wr : R → Option Value} {pc : Nat} {lv : List (Nat × Value)} {st : List Value} {M : Mem} {F : Option (R × Mem)} {x y : Int64} (hd : decode mt.2.1 pc = .ok (.lsub, 1)) (K : J mt wr (pc + 1) lv (.long (x - y) :: st) M F) : J mt wr pc lv (.long y :: .long x :: st) M F := by
  intro r M' hF p l e s m args below meth c D ad dA A hp H locs ls hP hD hS hl
  obtain ⟨hx, hb, hr, hml, hown, hts, hlk, hC⟩ := id hp
  exact lv_lsub hx hb hd (K r M' hF p l e s m args below meth c D ad dA A hp H locs ls hP hD hS hl)
theorem j_lmul {R : Type} {mt : Mt} {wr : R → Option Value} {pc : Nat} {lv : List (Nat × Value)} {st : List Value} {M : Mem} {F : Option (R × Mem)} {x y : Int64} (hd : decode mt.2.1 pc = .ok (.lmul, 1)) (K : J mt wr (pc + 1) lv (.long (x * y) :: st) M F) : J mt wr pc lv (.long y :: .long x :: st) M F := by
  intro r M' hF p l e s m args below meth c D ad dA A hp H locs ls hP hD hS hl
  obtain ⟨hx, hb, hr, hml, hown, hts, hlk, hC⟩ := id hp
  exact lv_lmul hx hb hd (K r M' hF p l e s m args below meth c D ad dA A hp H locs ls hP hD hS hl)
theorem j_land {R : Type} {mt : Mt} {wr : R → Option Value} {pc : Nat} {lv : List (Nat × Value)} {st : List Value} {M : Mem} {F : Option (R × Mem)} {x y : Int64} (hd : decode mt.2.1 pc = .ok (.land, 1)) (K : J mt wr (pc + 1) lv (.long (x &&& y) :: st) M F) : J mt wr pc lv (.long y :: .long x :: st) M F := by
  intro r M' hF p l e s m args below meth c D ad dA A hp H locs ls hP hD hS hl
  obtain ⟨hx, hb, hr, hml, hown, hts, hlk, hC⟩ := id hp
  exact lv_land hx hb hd (K r M' hF p l e s m args below meth c D ad dA A hp H locs ls hP hD hS hl)
theorem j_lor {R : Type} {mt : Mt} {wr : R → Option Value} {pc : Nat} {lv : List (Nat × Value)} {st : List Value} {M : Mem} {F : Option (R × Mem)} {x y : Int64} (hd : decode mt.2.1 pc = .ok (.lor, 1)) (K : J mt wr (pc + 1) lv (.long (x ||| y) :: st) M F) : J mt wr pc lv (.long y :: .long x :: st) M F := by
  intro r M' hF p l e s m args below meth c D ad dA A hp H locs ls hP hD hS hl
  obtain ⟨hx, hb, hr, hml, hown, hts, hlk, hC⟩ := id hp
  exact lv_lor hx hb hd (K r M' hF p l e s m args below meth c D ad dA A hp H locs ls hP hD hS hl)
theorem j_lxor {R : Type} {mt : Mt} {wr : R → Option Value} {pc : Nat} {lv : List (Nat × Value)} {st : List Value} {M : Mem} {F : Option (R × Mem)} {x y : Int64} (hd : decode mt.2.1 pc = .ok (.lxor, 1)) (K : J mt wr (pc + 1) lv (.long (x ^^^ y) :: st) M F) : J mt wr pc lv (.long y :: .long x :: st) M F := by
  intro r M' hF p l e s m args below meth c D ad dA A hp H locs ls hP hD hS hl
  obtain ⟨hx, hb, hr, hml, hown, hts, hlk, hC⟩ := id hp
  exact lv_lxor hx hb hd (K r M' hF p l e s m args below meth c D ad dA A hp H locs ls hP hD hS hl)
theorem j_lshl {R : Type} {mt : Mt} {wr : R → Option Value} {pc : Nat} {lv : List (Nat × Value)} {st : List Value} {M : Mem} {F : Option (R × Mem)} {x : Int64} {y : Int32} (hd : decode mt.2.1 pc = .ok (.lshl, 1)) (K : J mt wr (pc + 1) lv (.long (x <<< (y.toInt64 &&& 63)) :: st) M F) : J mt wr pc lv (.int y :: .long x :: st) M F := by
  intro r M' hF p l e s m args below meth c D ad dA A hp H locs ls hP hD hS hl
  obtain ⟨hx, hb, hr, hml, hown, hts, hlk, hC⟩ := id hp
  exact lv_lshl hx hb hd rfl (K r M' hF p l e s m args below meth c D ad dA A hp H locs ls hP hD hS hl)
theorem j_lshr {R : Type} {mt : Mt} {wr : R → Option Value} {pc : Nat} {lv : List (Nat × Value)} {st : List Value} {M : Mem} {F : Option (R × Mem)} {x : Int64} {y : Int32} (hd : decode mt.2.1 pc = .ok (.lshr, 1)) (K : J mt wr (pc + 1) lv (.long (x >>> (y.toInt64 &&& 63)) :: st) M F) : J mt wr pc lv (.int y :: .long x :: st) M F := by
  intro r M' hF p l e s m args below meth c D ad dA A hp H locs ls hP hD hS hl
  obtain ⟨hx, hb, hr, hml, hown, hts, hlk, hC⟩ := id hp
  exact lv_lshr hx hb hd rfl (K r M' hF p l e s m args below meth c D ad dA A hp H locs ls hP hD hS hl)
theorem j_lushr {R : Type} {mt : Mt} {wr : R → Option Value} {pc : Nat} {lv : List (Nat × Value)} {st : List Value} {M : Mem} {F : Option (R × Mem)} {x : Int64} {y : Int32} (hd : decode mt.2.1 pc = .ok (.lushr, 1)) (K : J mt wr (pc + 1) lv (.long ((x.toUInt64 >>> (y.toInt64.toUInt64 &&& Int64.toUInt64 63)).toInt64) :: st) M F) : J mt wr pc lv (.int y :: .long x :: st) M F := by
  intro r M' hF p l e s m args below meth c D ad dA A hp H locs ls hP hD hS hl
  obtain ⟨hx, hb, hr, hml, hown, hts, hlk, hC⟩ := id hp
  exact lv_lushr hx hb hd rfl (K r M' hF p l e s m args below meth c D ad dA A hp H locs ls hP hD hS hl)
theorem j_lcmp {R : Type} {mt : Mt} {wr : R → Option Value} {pc : Nat} {lv : List (Nat × Value)} {st : List Value} {M : Mem} {F : Option (R × Mem)} {x y : Int64} (hd : decode mt.2.1 pc = .ok (.lcmp, 1)) (K : J mt wr (pc + 1) lv (.int (lg_cmp x y) :: st) M F) : J mt wr pc lv (.long y :: .long x :: st) M F := by
  intro r M' hF p l e s m args below meth c D ad dA A hp H locs ls hP hD hS hl
  obtain ⟨hx, hb, hr, hml, hown, hts, hlk, hC⟩ := id hp
  exact W.lcmp hx hb hd (K r M' hF p l e s m args below meth c D ad dA A hp H locs ls hP hD hS hl)
theorem j_i2l {R : Type} {mt : Mt} {wr : R → Option Value} {pc : Nat} {lv : List (Nat × Value)} {st : List Value} {M : Mem} {F : Option (R × Mem)} {x : Int32} (hd : decode mt.2.1 pc = .ok (.i2l, 1)) (K : J mt wr (pc + 1) lv (.long x.toInt64 :: st) M F) : J mt wr pc lv (.int x :: st) M F := by
  intro r M' hF p l e s m args below meth c D ad dA A hp H locs ls hP hD hS hl
  obtain ⟨hx, hb, hr, hml, hown, hts, hlk, hC⟩ := id hp
  exact lv_i2l hx hb hd rfl (K r M' hF p l e s m args below meth c D ad dA A hp H locs ls hP hD hS hl)
theorem j_l2i {R : Type} {mt : Mt} {wr : R → Option Value} {pc : Nat} {lv : List (Nat × Value)} {st : List Value} {M : Mem} {F : Option (R × Mem)} {x : Int64} (hd : decode mt.2.1 pc = .ok (.l2i, 1)) (K : J mt wr (pc + 1) lv (.int x.toInt32 :: st) M F) : J mt wr pc lv (.long x :: st) M F := by
  intro r M' hF p l e s m args below meth c D ad dA A hp H locs ls hP hD hS hl
  obtain ⟨hx, hb, hr, hml, hown, hts, hlk, hC⟩ := id hp
  exact lv_l2i hx hb hd rfl (K r M' hF p l e s m args below meth c D ad dA A hp H locs ls hP hD hS hl)
theorem j_i2b {R : Type} {mt : Mt} {wr : R → Option Value} {pc : Nat} {lv : List (Nat × Value)} {st : List Value} {M : Mem} {F : Option (R × Mem)} {x : Int32} (hd : decode mt.2.1 pc = .ok (.i2b, 1)) (K : J mt wr (pc + 1) lv (.int x.toInt8.toInt32 :: st) M F) : J mt wr pc lv (.int x :: st) M F := by
  intro r M' hF p l e s m args below meth c D ad dA A hp H locs ls hP hD hS hl
  obtain ⟨hx, hb, hr, hml, hown, hts, hlk, hC⟩ := id hp
  exact lv_i2b hx hb hd rfl (K r M' hF p l e s m args below meth c D ad dA A hp H locs ls hP hD hS hl)
theorem j_i2s {R : Type} {mt : Mt} {wr : R → Option Value} {pc : Nat} {lv : List (Nat × Value)} {st : List Value} {M : Mem} {F : Option (R × Mem)} {x : Int32} (hd : decode mt.2.1 pc = .ok (.i2s, 1)) (K : J mt wr (pc + 1) lv (.int x.toInt16.toInt32 :: st) M F) : J mt wr pc lv (.int x :: st) M F := by
  intro r M' hF p l e s m args below meth c D ad dA A hp H locs ls hP hD hS hl
  obtain ⟨hx, hb, hr, hml, hown, hts, hlk, hC⟩ := id hp
  exact lv_i2s hx hb hd rfl (K r M' hF p l e s m args below meth c D ad dA A hp H locs ls hP hD hS hl)
theorem j_i2c {R : Type} {mt : Mt} {wr : R → Option Value} {pc : Nat} {lv : List (Nat × Value)} {st : List Value} {M : Mem} {F : Option (R × Mem)} {x : Int32} (hd : decode mt.2.1 pc = .ok (.i2c, 1)) (K : J mt wr (pc + 1) lv (.int (x.toUInt32 % 65536).toInt32 :: st) M F) : J mt wr pc lv (.int x :: st) M F := by
  intro r M' hF p l e s m args below meth c D ad dA A hp H locs ls hP hD hS hl
  obtain ⟨hx, hb, hr, hml, hown, hts, hlk, hC⟩ := id hp
  exact lv_i2c hx hb hd rfl (K r M' hF p l e s m args below meth c D ad dA A hp H locs ls hP hD hS hl)
theorem j_dup {R : Type} {mt : Mt} {wr : R → Option Value} {pc : Nat} {lv : List (Nat × Value)} {st : List Value} {M : Mem} {F : Option (R × Mem)} {v : Value} (hd : decode mt.2.1 pc = .ok (.dup, 1)) (hv : v.category = 1) (K : J mt wr (pc + 1) lv (v :: v :: st) M F) : J mt wr pc lv (v :: st) M F := by
  intro r M' hF p l e s m args below meth c D ad dA A hp H locs ls hP hD hS hl
  obtain ⟨hx, hb, hr, hml, hown, hts, hlk, hC⟩ := id hp
  exact lv_dup hx hb hd ((rv_cat ad v).trans hv) (K r M' hF p l e s m args below meth c D ad dA A hp H locs ls hP hD hS hl)
theorem j_pop {R : Type} {mt : Mt} {wr : R → Option Value} {pc : Nat} {lv : List (Nat × Value)} {st : List Value} {M : Mem} {F : Option (R × Mem)} {v : Value} (hd : decode mt.2.1 pc = .ok (.pop, 1)) (hv : v.category = 1) (K : J mt wr (pc + 1) lv (st) M F) : J mt wr pc lv (v :: st) M F := by
  intro r M' hF p l e s m args below meth c D ad dA A hp H locs ls hP hD hS hl
  obtain ⟨hx, hb, hr, hml, hown, hts, hlk, hC⟩ := id hp
  exact lv_pop hx hb hd ((rv_cat ad v).trans hv) (K r M' hF p l e s m args below meth c D ad dA A hp H locs ls hP hD hS hl)
theorem j_iconst {R : Type} {mt : Mt} {wr : R → Option Value} {pc : Nat} {lv : List (Nat × Value)} {st : List Value} {M : Mem} {F : Option (R × Mem)} {n : Int} {v : Int32} (hd : decode mt.2.1 pc = .ok (.iconst n, 1)) (hv : Int32.ofInt n = v) (K : J mt wr (pc + 1) lv (.int v :: st) M F) : J mt wr pc lv (st) M F := by
  intro r M' hF p l e s m args below meth c D ad dA A hp H locs ls hP hD hS hl
  obtain ⟨hx, hb, hr, hml, hown, hts, hlk, hC⟩ := id hp
  exact lv_iconst hx hb hd hv (K r M' hF p l e s m args below meth c D ad dA A hp H locs ls hP hD hS hl)
theorem j_bipush {R : Type} {mt : Mt} {wr : R → Option Value} {pc : Nat} {lv : List (Nat × Value)} {st : List Value} {M : Mem} {F : Option (R × Mem)} {n : Int} {v : Int32} (hd : decode mt.2.1 pc = .ok (.bipush n, 2)) (hv : (Int8.ofInt n).toInt32 = v) (K : J mt wr (pc + 2) lv (.int v :: st) M F) : J mt wr pc lv (st) M F := by
  intro r M' hF p l e s m args below meth c D ad dA A hp H locs ls hP hD hS hl
  obtain ⟨hx, hb, hr, hml, hown, hts, hlk, hC⟩ := id hp
  exact lv_bipush hx hb hd hv (K r M' hF p l e s m args below meth c D ad dA A hp H locs ls hP hD hS hl)
theorem j_sipush {R : Type} {mt : Mt} {wr : R → Option Value} {pc : Nat} {lv : List (Nat × Value)} {st : List Value} {M : Mem} {F : Option (R × Mem)} {n : Int} {v : Int32} (hd : decode mt.2.1 pc = .ok (.sipush n, 3)) (hv : (Int16.ofInt n).toInt32 = v) (K : J mt wr (pc + 3) lv (.int v :: st) M F) : J mt wr pc lv (st) M F := by
  intro r M' hF p l e s m args below meth c D ad dA A hp H locs ls hP hD hS hl
  obtain ⟨hx, hb, hr, hml, hown, hts, hlk, hC⟩ := id hp
  exact lv_sipush hx hb hd hv (K r M' hF p l e s m args below meth c D ad dA A hp H locs ls hP hD hS hl)
theorem j_lconst {R : Type} {mt : Mt} {wr : R → Option Value} {pc : Nat} {lv : List (Nat × Value)} {st : List Value} {M : Mem} {F : Option (R × Mem)} {n : Fin 2} {v : Int64} (hd : decode mt.2.1 pc = .ok (.lconst n, 1)) (hv : Int64.ofNat (n : Nat) = v) (K : J mt wr (pc + 1) lv (.long v :: st) M F) : J mt wr pc lv (st) M F := by
  intro r M' hF p l e s m args below meth c D ad dA A hp H locs ls hP hD hS hl
  obtain ⟨hx, hb, hr, hml, hown, hts, hlk, hC⟩ := id hp
  exact lv_lconst hx hb hd hv (K r M' hF p l e s m args below meth c D ad dA A hp H locs ls hP hD hS hl)
theorem j_idiv {R : Type} {mt : Mt} {wr : R → Option Value} {pc : Nat} {lv : List (Nat × Value)} {st : List Value} {M : Mem} {F : Option (R × Mem)} {x y : Int32} (hd : decode mt.2.1 pc = .ok (.idiv, 1)) (K : ¬ y = 0 → J mt wr (pc + 1) lv (.int (x / y) :: st) M F) : J mt wr pc lv (.int y :: .int x :: st) M (if y = 0 then none else F) := by
  intro r M' hF0
  by_cases hy : y = 0
  · rw [if_pos hy] at hF0; cases hF0
  rw [if_neg hy] at hF0
  revert hF0
  revert r M'
  show J _ _ _ _ _ _ _
  intro r M' hF p l e s m args below meth c D ad dA A hp H locs ls hP hD hS hl
  obtain ⟨hx, hb, hr, hml, hown, hts, hlk, hC⟩ := id hp
  exact lv_idiv hx hb hd hy ((K hy) r M' hF p l e s m args below meth c D ad dA A hp H locs ls hP hD hS hl)
theorem j_irem {R : Type} {mt : Mt} {wr : R → Option Value} {pc : Nat} {lv : List (Nat × Value)} {st : List Value} {M : Mem} {F : Option (R × Mem)} {x y : Int32} (hd : decode mt.2.1 pc = .ok (.irem, 1)) (K : ¬ y = 0 → J mt wr (pc + 1) lv (.int (x - x / y * y) :: st) M F) : J mt wr pc lv (.int y :: .int x :: st) M (if y = 0 then none else F) := by
  intro r M' hF0
  by_cases hy : y = 0
  · rw [if_pos hy] at hF0; cases hF0
  rw [if_neg hy] at hF0
  revert hF0
  revert r M'
  show J _ _ _ _ _ _ _
  intro r M' hF p l e s m args below meth c D ad dA A hp H locs ls hP hD hS hl
  obtain ⟨hx, hb, hr, hml, hown, hts, hlk, hC⟩ := id hp
  exact lv_irem hx hb hd hy ((K hy) r M' hF p l e s m args below meth c D ad dA A hp H locs ls hP hD hS hl)
theorem j_ldc {R : Type} {mt : Mt} {wr : R → Option Value} {pc : Nat} {lv : List (Nat × Value)} {st : List Value} {M : Mem} {F : Option (R × Mem)} {own : String} {i : Nat} {v : Int32} (hd : decode mt.2.1 pc = .ok (.ldc i, 2)) (hw : Cond.constant mt.1 i v ∈ tbl) (K : J mt wr (pc + 2) lv (.int v :: st) M F) : J mt wr pc lv st M F := by
  intro r M' hF p l e s m args below meth c D ad dA A hp H locs ls hP hD hS hl
  obtain ⟨hx, hb, hr, hml, hown, hts, hlk, hC⟩ := id hp
  exact lv_ldc hx hb hown (hts _ hw) hd (K r M' hF p l e s m args below meth c D ad dA A hp H locs ls hP hD hS hl)
theorem j_ldcw {R : Type} {mt : Mt} {wr : R → Option Value} {pc : Nat} {lv : List (Nat × Value)} {st : List Value} {M : Mem} {F : Option (R × Mem)} {own : String} {i : Nat} {v : Int32} (hd : decode mt.2.1 pc = .ok (.ldc_w i, 3)) (hw : Cond.constant mt.1 i v ∈ tbl) (K : J mt wr (pc + 3) lv (.int v :: st) M F) : J mt wr pc lv st M F := by
  intro r M' hF p l e s m args below meth c D ad dA A hp H locs ls hP hD hS hl
  obtain ⟨hx, hb, hr, hml, hown, hts, hlk, hC⟩ := id hp
  exact lv_ldcw hx hb hown (hts _ hw) hd (K r M' hF p l e s m args below meth c D ad dA A hp H locs ls hP hD hS hl)
theorem j_ldc2 {R : Type} {mt : Mt} {wr : R → Option Value} {pc : Nat} {lv : List (Nat × Value)} {st : List Value} {M : Mem} {F : Option (R × Mem)} {i : Nat} {v : Int64} (hd : decode mt.2.1 pc = .ok (.ldc2_w i, 3)) (hw : Cond.constantLong mt.1 i v ∈ tbl) (K : J mt wr (pc + 3) lv (.long v :: st) M F) : J mt wr pc lv st M F := by
  intro r M' hF p l e s m args below meth c D ad dA A hp H locs ls hP hD hS hl
  obtain ⟨hx, hb, hr, hml, hown, hts, hlk, hC⟩ := id hp
  exact lv_ldc2 hx hb hown (hts _ hw) hd (K r M' hF p l e s m args below meth c D ad dA A hp H locs ls hP hD hS hl)
theorem j_iload_n {R : Type} {mt : Mt} {wr : R → Option Value} {pc : Nat} {lv : List (Nat × Value)} {st : List Value} {M : Mem} {F : Option (R × Mem)} {k : Fin 4} {i q : Nat} {x : Int32} (hd : decode mt.2.1 pc = .ok (.iload_n k, 1)) (hi : (k : Nat) = i) (hq : lv[q]? = some (i, .int x)) (K : J mt wr (pc + 1) lv (.int x :: st) M F) : J mt wr pc lv st M F := by
  intro r M' hF p l e s m args below meth c D ad dA A hp H locs ls hP hD hS hl
  obtain ⟨hx, hb, hr, hml, hown, hts, hlk, hC⟩ := id hp
  exact lv_iload_n hx hb hd hi (lv_at hl q (lvp_get hq)) (K r M' hF p l e s m args below meth c D ad dA A hp H locs ls hP hD hS hl)
theorem j_iload {R : Type} {mt : Mt} {wr : R → Option Value} {pc : Nat} {lv : List (Nat × Value)} {st : List Value} {M : Mem} {F : Option (R × Mem)} {i q : Nat} {x : Int32} (hd : decode mt.2.1 pc = .ok (.iload i, 2)) (hq : lv[q]? = some (i, .int x)) (K : J mt wr (pc + 2) lv (.int x :: st) M F) : J mt wr pc lv st M F := by
  intro r M' hF p l e s m args below meth c D ad dA A hp H locs ls hP hD hS hl
  obtain ⟨hx, hb, hr, hml, hown, hts, hlk, hC⟩ := id hp
  exact lv_iload hx hb hd (lv_at hl q (lvp_get hq)) (K r M' hF p l e s m args below meth c D ad dA A hp H locs ls hP hD hS hl)
theorem j_lload_n {R : Type} {mt : Mt} {wr : R → Option Value} {pc : Nat} {lv : List (Nat × Value)} {st : List Value} {M : Mem} {F : Option (R × Mem)} {k : Fin 4} {i q : Nat} {x : Int64} (hd : decode mt.2.1 pc = .ok (.lload_n k, 1)) (hi : (k : Nat) = i) (hq : lv[q]? = some (i, .long x)) (K : J mt wr (pc + 1) lv (.long x :: st) M F) : J mt wr pc lv st M F := by
  intro r M' hF p l e s m args below meth c D ad dA A hp H locs ls hP hD hS hl
  obtain ⟨hx, hb, hr, hml, hown, hts, hlk, hC⟩ := id hp
  exact lv_lload_n hx hb hd hi (lv_at hl q (lvp_get hq)) (K r M' hF p l e s m args below meth c D ad dA A hp H locs ls hP hD hS hl)
theorem j_lload {R : Type} {mt : Mt} {wr : R → Option Value} {pc : Nat} {lv : List (Nat × Value)} {st : List Value} {M : Mem} {F : Option (R × Mem)} {i q : Nat} {x : Int64} (hd : decode mt.2.1 pc = .ok (.lload i, 2)) (hq : lv[q]? = some (i, .long x)) (K : J mt wr (pc + 2) lv (.long x :: st) M F) : J mt wr pc lv st M F := by
  intro r M' hF p l e s m args below meth c D ad dA A hp H locs ls hP hD hS hl
  obtain ⟨hx, hb, hr, hml, hown, hts, hlk, hC⟩ := id hp
  exact lv_lload hx hb hd (lv_at hl q (lvp_get hq)) (K r M' hF p l e s m args below meth c D ad dA A hp H locs ls hP hD hS hl)
theorem j_aload_n {R : Type} {mt : Mt} {wr : R → Option Value} {pc : Nat} {lv : List (Nat × Value)} {st : List Value} {M : Mem} {F : Option (R × Mem)} {k : Fin 4} {i q : Nat} {x : Nat} (hd : decode mt.2.1 pc = .ok (.aload_n k, 1)) (hi : (k : Nat) = i) (hq : lv[q]? = some (i, .ref x)) (K : J mt wr (pc + 1) lv (.ref x :: st) M F) : J mt wr pc lv st M F := by
  intro r M' hF p l e s m args below meth c D ad dA A hp H locs ls hP hD hS hl
  obtain ⟨hx, hb, hr, hml, hown, hts, hlk, hC⟩ := id hp
  exact lv_aload_n hx hb hd hi (lv_at hl q (lvp_get hq)) (K r M' hF p l e s m args below meth c D ad dA A hp H locs ls hP hD hS hl)
theorem j_aload {R : Type} {mt : Mt} {wr : R → Option Value} {pc : Nat} {lv : List (Nat × Value)} {st : List Value} {M : Mem} {F : Option (R × Mem)} {i q : Nat} {x : Nat} (hd : decode mt.2.1 pc = .ok (.aload i, 2)) (hq : lv[q]? = some (i, .ref x)) (K : J mt wr (pc + 2) lv (.ref x :: st) M F) : J mt wr pc lv st M F := by
  intro r M' hF p l e s m args below meth c D ad dA A hp H locs ls hP hD hS hl
  obtain ⟨hx, hb, hr, hml, hown, hts, hlk, hC⟩ := id hp
  exact lv_aload hx hb hd (lv_at hl q (lvp_get hq)) (K r M' hF p l e s m args below meth c D ad dA A hp H locs ls hP hD hS hl)
theorem j_istore_n {R : Type} {mt : Mt} {wr : R → Option Value} {pc : Nat} {lv : List (Nat × Value)} {st : List Value} {M : Mem} {F : Option (R × Mem)} {k : Fin 4} {i : Nat} {x : Int32} {lv' : List (Nat × Value)} (hd : decode mt.2.1 pc = .ok (.istore_n k, 1)) (hi : (k : Nat) = i) (hn : i < mt.2.2.1) (h : (i, Value.int x) :: lv.filter (fun q => !(q.1 == i) && !(q.1 + 1 == i && q.2.category == 2)) = lv') (K : J mt wr (pc + 1) lv' st M F) : J mt wr pc lv (.int x :: st) M F := by
  intro r M' hF p l e s m args below meth c D ad dA A hp H locs ls hP hD hS hl
  obtain ⟨hx, hb, hr, hml, hown, hts, hlk, hC⟩ := id hp
  exact lv_istore_n hx hb hd hi hl hn (lvp_filter h) (fun ls2 hl2 => K r M' hF p l e s m args below meth c D ad dA A hp H locs ls2 hP hD hS hl2)
theorem j_istore {R : Type} {mt : Mt} {wr : R → Option Value} {pc : Nat} {lv : List (Nat × Value)} {st : List Value} {M : Mem} {F : Option (R × Mem)} {i : Nat} {x : Int32} {lv' : List (Nat × Value)} (hd : decode mt.2.1 pc = .ok (.istore i, 2)) (hn : i < mt.2.2.1) (h : (i, Value.int x) :: lv.filter (fun q => !(q.1 == i) && !(q.1 + 1 == i && q.2.category == 2)) = lv') (K : J mt wr (pc + 2) lv' st M F) : J mt wr pc lv (.int x :: st) M F := by
  intro r M' hF p l e s m args below meth c D ad dA A hp H locs ls hP hD hS hl
  obtain ⟨hx, hb, hr, hml, hown, hts, hlk, hC⟩ := id hp
  exact lv_istore hx hb hd hl hn (lvp_filter h) (fun ls2 hl2 => K r M' hF p l e s m args below meth c D ad dA A hp H locs ls2 hP hD hS hl2)
theorem j_lstore_n {R : Type} {mt : Mt} {wr : R → Option Value} {pc : Nat} {lv : List (Nat × Value)} {st : List Value} {M : Mem} {F : Option (R × Mem)} {k : Fin 4} {i : Nat} {x : Int64} {lv' : List (Nat × Value)} (hd : decode mt.2.1 pc = .ok (.lstore_n k, 1)) (hi : (k : Nat) = i) (hn : i + 1 < mt.2.2.1) (h : (i, Value.long x) :: lv.filter (fun q => !(q.1 == i) && (!(q.1 == i + 1) && !(q.1 + 1 == i && q.2.category == 2))) = lv') (K : J mt wr (pc + 1) lv' st M F) : J mt wr pc lv (.long x :: st) M F := by
  intro r M' hF p l e s m args below meth c D ad dA A hp H locs ls hP hD hS hl
  obtain ⟨hx, hb, hr, hml, hown, hts, hlk, hC⟩ := id hp
  exact lv_lstore_n hx hb hd hi hl hn (lvp_filter2 (fun q => by simp [rvp, rv_cat]) h) (fun ls2 hl2 => K r M' hF p l e s m args below meth c D ad dA A hp H locs ls2 hP hD hS hl2)
theorem j_lstore {R : Type} {mt : Mt} {wr : R → Option Value} {pc : Nat} {lv : List (Nat × Value)} {st : List Value} {M : Mem} {F : Option (R × Mem)} {i : Nat} {x : Int64} {lv' : List (Nat × Value)} (hd : decode mt.2.1 pc = .ok (.lstore i, 2)) (hn : i + 1 < mt.2.2.1) (h : (i, Value.long x) :: lv.filter (fun q => !(q.1 == i) && (!(q.1 == i + 1) && !(q.1 + 1 == i && q.2.category == 2))) = lv') (K : J mt wr (pc + 2) lv' st M F) : J mt wr pc lv (.long x :: st) M F := by
  intro r M' hF p l e s m args below meth c D ad dA A hp H locs ls hP hD hS hl
  obtain ⟨hx, hb, hr, hml, hown, hts, hlk, hC⟩ := id hp
  exact lv_lstore hx hb hd hl hn (lvp_filter2 (fun q => by simp [rvp, rv_cat]) h) (fun ls2 hl2 => K r M' hF p l e s m args below meth c D ad dA A hp H locs ls2 hP hD hS hl2)
theorem j_astore_n {R : Type} {mt : Mt} {wr : R → Option Value} {pc : Nat} {lv : List (Nat × Value)} {st : List Value} {M : Mem} {F : Option (R × Mem)} {k : Fin 4} {i : Nat} {x : Nat} {lv' : List (Nat × Value)} (hd : decode mt.2.1 pc = .ok (.astore_n k, 1)) (hi : (k : Nat) = i) (hn : i < mt.2.2.1) (h : (i, Value.ref x) :: lv.filter (fun q => !(q.1 == i) && !(q.1 + 1 == i && q.2.category == 2)) = lv') (K : J mt wr (pc + 1) lv' st M F) : J mt wr pc lv (.ref x :: st) M F := by
  intro r M' hF p l e s m args below meth c D ad dA A hp H locs ls hP hD hS hl
  obtain ⟨hx, hb, hr, hml, hown, hts, hlk, hC⟩ := id hp
  exact lv_astore_n hx hb hd hi hl hn (lvp_filter h) (fun ls2 hl2 => K r M' hF p l e s m args below meth c D ad dA A hp H locs ls2 hP hD hS hl2)
theorem j_astore {R : Type} {mt : Mt} {wr : R → Option Value} {pc : Nat} {lv : List (Nat × Value)} {st : List Value} {M : Mem} {F : Option (R × Mem)} {i : Nat} {x : Nat} {lv' : List (Nat × Value)} (hd : decode mt.2.1 pc = .ok (.astore i, 2)) (hn : i < mt.2.2.1) (h : (i, Value.ref x) :: lv.filter (fun q => !(q.1 == i) && !(q.1 + 1 == i && q.2.category == 2)) = lv') (K : J mt wr (pc + 2) lv' st M F) : J mt wr pc lv (.ref x :: st) M F := by
  intro r M' hF p l e s m args below meth c D ad dA A hp H locs ls hP hD hS hl
  obtain ⟨hx, hb, hr, hml, hown, hts, hlk, hC⟩ := id hp
  exact lv_astore hx hb hd hl hn (lvp_filter h) (fun ls2 hl2 => K r M' hF p l e s m args below meth c D ad dA A hp H locs ls2 hP hD hS hl2)
theorem j_iinc {R : Type} {mt : Mt} {wr : R → Option Value} {pc : Nat} {lv : List (Nat × Value)} {st : List Value} {M : Mem} {F : Option (R × Mem)} {i q : Nat} {n : Int} {x v : Int32} {lv' : List (Nat × Value)} (hd : decode mt.2.1 pc = .ok (.iinc i n, 3)) (hq : lv[q]? = some (i, .int x)) (hv : x + Int32.ofInt n = v) (hn : i < mt.2.2.1) (h : (i, Value.int v) :: lv.filter (fun q => !(q.1 == i) && !(q.1 + 1 == i && q.2.category == 2)) = lv') (K : J mt wr (pc + 3) lv' st M F) : J mt wr pc lv st M F := by
  intro r M' hF p l e s m args below meth c D ad dA A hp H locs ls hP hD hS hl
  obtain ⟨hx, hb, hr, hml, hown, hts, hlk, hC⟩ := id hp
  exact lv_iinc hx hb hd hl (lvp_get hq) hv hn (lvp_filter h) (fun ls2 hl2 => K r M' hF p l e s m args below meth c D ad dA A hp H locs ls2 hP hD hS hl2)
theorem j_icmp_eq {R : Type} {mt : Mt} {wr : R → Option Value} {pc : Nat} {lv : List (Nat × Value)} {st : List Value} {M : Mem} {F G : Option (R × Mem)} {x y : Int32} {off : Int} {tgt : Nat} (hd : decode mt.2.1 pc = .ok (.if_icmp .eq off, 3)) (ht : (pc : Int) + off = (tgt : Int)) (K : x = y → J mt wr tgt lv st M F) (L : ¬ (x = y) → J mt wr (pc + 3) lv st M G) : J mt wr pc lv (.int y :: .int x :: st) M (if x = y then F else G) := by
  intro r M' hF p l e s m args below meth c D ad dA A hp H locs ls hP hD hS hl
  obtain ⟨hx, hb, hr, hml, hown, hts, hlk, hC⟩ := id hp
  refine lv_icmp_eq hx hb hd ht (fun h => ?_) (fun h => ?_)
  · exact K h r M' ((if_pos h).symm.trans hF) p l e s m args below meth c D ad dA A hp H locs ls hP hD hS hl
  · exact L h r M' ((if_neg h).symm.trans hF) p l e s m args below meth c D ad dA A hp H locs ls hP hD hS hl
theorem j_if_eq {R : Type} {mt : Mt} {wr : R → Option Value} {pc : Nat} {lv : List (Nat × Value)} {st : List Value} {M : Mem} {F G : Option (R × Mem)} {x : Int32} {off : Int} {tgt : Nat} (hd : decode mt.2.1 pc = .ok (.ifCond .eq off, 3)) (ht : (pc : Int) + off = (tgt : Int)) (K : x = 0 → J mt wr tgt lv st M F) (L : ¬ (x = 0) → J mt wr (pc + 3) lv st M G) : J mt wr pc lv (.int x :: st) M (if x = 0 then F else G) := by
  intro r M' hF p l e s m args below meth c D ad dA A hp H locs ls hP hD hS hl
  obtain ⟨hx, hb, hr, hml, hown, hts, hlk, hC⟩ := id hp
  refine lv_if_eq hx hb hd ht (fun h => ?_) (fun h => ?_)
  · exact K h r M' ((if_pos h).symm.trans hF) p l e s m args below meth c D ad dA A hp H locs ls hP hD hS hl
  · exact L h r M' ((if_neg h).symm.trans hF) p l e s m args below meth c D ad dA A hp H locs ls hP hD hS hl
theorem j_icmp_lt {R : Type} {mt : Mt} {wr : R → Option Value} {pc : Nat} {lv : List (Nat × Value)} {st : List Value} {M : Mem} {F G : Option (R × Mem)} {x y : Int32} {off : Int} {tgt : Nat} (hd : decode mt.2.1 pc = .ok (.if_icmp .lt off, 3)) (ht : (pc : Int) + off = (tgt : Int)) (K : x < y → J mt wr tgt lv st M F) (L : ¬ (x < y) → J mt wr (pc + 3) lv st M G) : J mt wr pc lv (.int y :: .int x :: st) M (if x < y then F else G) := by
  intro r M' hF p l e s m args below meth c D ad dA A hp H locs ls hP hD hS hl
  obtain ⟨hx, hb, hr, hml, hown, hts, hlk, hC⟩ := id hp
  refine lv_icmp_lt hx hb hd ht (fun h => ?_) (fun h => ?_)
  · exact K h r M' ((if_pos h).symm.trans hF) p l e s m args below meth c D ad dA A hp H locs ls hP hD hS hl
  · exact L h r M' ((if_neg h).symm.trans hF) p l e s m args below meth c D ad dA A hp H locs ls hP hD hS hl
theorem j_if_lt {R : Type} {mt : Mt} {wr : R → Option Value} {pc : Nat} {lv : List (Nat × Value)} {st : List Value} {M : Mem} {F G : Option (R × Mem)} {x : Int32} {off : Int} {tgt : Nat} (hd : decode mt.2.1 pc = .ok (.ifCond .lt off, 3)) (ht : (pc : Int) + off = (tgt : Int)) (K : x < 0 → J mt wr tgt lv st M F) (L : ¬ (x < 0) → J mt wr (pc + 3) lv st M G) : J mt wr pc lv (.int x :: st) M (if x < 0 then F else G) := by
  intro r M' hF p l e s m args below meth c D ad dA A hp H locs ls hP hD hS hl
  obtain ⟨hx, hb, hr, hml, hown, hts, hlk, hC⟩ := id hp
  refine lv_if_lt hx hb hd ht (fun h => ?_) (fun h => ?_)
  · exact K h r M' ((if_pos h).symm.trans hF) p l e s m args below meth c D ad dA A hp H locs ls hP hD hS hl
  · exact L h r M' ((if_neg h).symm.trans hF) p l e s m args below meth c D ad dA A hp H locs ls hP hD hS hl
theorem j_icmp_ge {R : Type} {mt : Mt} {wr : R → Option Value} {pc : Nat} {lv : List (Nat × Value)} {st : List Value} {M : Mem} {F G : Option (R × Mem)} {x y : Int32} {off : Int} {tgt : Nat} (hd : decode mt.2.1 pc = .ok (.if_icmp .ge off, 3)) (ht : (pc : Int) + off = (tgt : Int)) (K : y ≤ x → J mt wr tgt lv st M F) (L : ¬ (y ≤ x) → J mt wr (pc + 3) lv st M G) : J mt wr pc lv (.int y :: .int x :: st) M (if y ≤ x then F else G) := by
  intro r M' hF p l e s m args below meth c D ad dA A hp H locs ls hP hD hS hl
  obtain ⟨hx, hb, hr, hml, hown, hts, hlk, hC⟩ := id hp
  refine lv_icmp_ge hx hb hd ht (fun h => ?_) (fun h => ?_)
  · exact K h r M' ((if_pos h).symm.trans hF) p l e s m args below meth c D ad dA A hp H locs ls hP hD hS hl
  · exact L h r M' ((if_neg h).symm.trans hF) p l e s m args below meth c D ad dA A hp H locs ls hP hD hS hl
theorem j_if_ge {R : Type} {mt : Mt} {wr : R → Option Value} {pc : Nat} {lv : List (Nat × Value)} {st : List Value} {M : Mem} {F G : Option (R × Mem)} {x : Int32} {off : Int} {tgt : Nat} (hd : decode mt.2.1 pc = .ok (.ifCond .ge off, 3)) (ht : (pc : Int) + off = (tgt : Int)) (K : 0 ≤ x → J mt wr tgt lv st M F) (L : ¬ (0 ≤ x) → J mt wr (pc + 3) lv st M G) : J mt wr pc lv (.int x :: st) M (if 0 ≤ x then F else G) := by
  intro r M' hF p l e s m args below meth c D ad dA A hp H locs ls hP hD hS hl
  obtain ⟨hx, hb, hr, hml, hown, hts, hlk, hC⟩ := id hp
  refine lv_if_ge hx hb hd ht (fun h => ?_) (fun h => ?_)
  · exact K h r M' ((if_pos h).symm.trans hF) p l e s m args below meth c D ad dA A hp H locs ls hP hD hS hl
  · exact L h r M' ((if_neg h).symm.trans hF) p l e s m args below meth c D ad dA A hp H locs ls hP hD hS hl
theorem j_icmp_gt {R : Type} {mt : Mt} {wr : R → Option Value} {pc : Nat} {lv : List (Nat × Value)} {st : List Value} {M : Mem} {F G : Option (R × Mem)} {x y : Int32} {off : Int} {tgt : Nat} (hd : decode mt.2.1 pc = .ok (.if_icmp .gt off, 3)) (ht : (pc : Int) + off = (tgt : Int)) (K : y < x → J mt wr tgt lv st M F) (L : ¬ (y < x) → J mt wr (pc + 3) lv st M G) : J mt wr pc lv (.int y :: .int x :: st) M (if y < x then F else G) := by
  intro r M' hF p l e s m args below meth c D ad dA A hp H locs ls hP hD hS hl
  obtain ⟨hx, hb, hr, hml, hown, hts, hlk, hC⟩ := id hp
  refine lv_icmp_gt hx hb hd ht (fun h => ?_) (fun h => ?_)
  · exact K h r M' ((if_pos h).symm.trans hF) p l e s m args below meth c D ad dA A hp H locs ls hP hD hS hl
  · exact L h r M' ((if_neg h).symm.trans hF) p l e s m args below meth c D ad dA A hp H locs ls hP hD hS hl
theorem j_if_gt {R : Type} {mt : Mt} {wr : R → Option Value} {pc : Nat} {lv : List (Nat × Value)} {st : List Value} {M : Mem} {F G : Option (R × Mem)} {x : Int32} {off : Int} {tgt : Nat} (hd : decode mt.2.1 pc = .ok (.ifCond .gt off, 3)) (ht : (pc : Int) + off = (tgt : Int)) (K : 0 < x → J mt wr tgt lv st M F) (L : ¬ (0 < x) → J mt wr (pc + 3) lv st M G) : J mt wr pc lv (.int x :: st) M (if 0 < x then F else G) := by
  intro r M' hF p l e s m args below meth c D ad dA A hp H locs ls hP hD hS hl
  obtain ⟨hx, hb, hr, hml, hown, hts, hlk, hC⟩ := id hp
  refine lv_if_gt hx hb hd ht (fun h => ?_) (fun h => ?_)
  · exact K h r M' ((if_pos h).symm.trans hF) p l e s m args below meth c D ad dA A hp H locs ls hP hD hS hl
  · exact L h r M' ((if_neg h).symm.trans hF) p l e s m args below meth c D ad dA A hp H locs ls hP hD hS hl
theorem j_icmp_le {R : Type} {mt : Mt} {wr : R → Option Value} {pc : Nat} {lv : List (Nat × Value)} {st : List Value} {M : Mem} {F G : Option (R × Mem)} {x y : Int32} {off : Int} {tgt : Nat} (hd : decode mt.2.1 pc = .ok (.if_icmp .le off, 3)) (ht : (pc : Int) + off = (tgt : Int)) (K : x ≤ y → J mt wr tgt lv st M F) (L : ¬ (x ≤ y) → J mt wr (pc + 3) lv st M G) : J mt wr pc lv (.int y :: .int x :: st) M (if x ≤ y then F else G) := by
  intro r M' hF p l e s m args below meth c D ad dA A hp H locs ls hP hD hS hl
  obtain ⟨hx, hb, hr, hml, hown, hts, hlk, hC⟩ := id hp
  refine lv_icmp_le hx hb hd ht (fun h => ?_) (fun h => ?_)
  · exact K h r M' ((if_pos h).symm.trans hF) p l e s m args below meth c D ad dA A hp H locs ls hP hD hS hl
  · exact L h r M' ((if_neg h).symm.trans hF) p l e s m args below meth c D ad dA A hp H locs ls hP hD hS hl
theorem j_if_le {R : Type} {mt : Mt} {wr : R → Option Value} {pc : Nat} {lv : List (Nat × Value)} {st : List Value} {M : Mem} {F G : Option (R × Mem)} {x : Int32} {off : Int} {tgt : Nat} (hd : decode mt.2.1 pc = .ok (.ifCond .le off, 3)) (ht : (pc : Int) + off = (tgt : Int)) (K : x ≤ 0 → J mt wr tgt lv st M F) (L : ¬ (x ≤ 0) → J mt wr (pc + 3) lv st M G) : J mt wr pc lv (.int x :: st) M (if x ≤ 0 then F else G) := by
  intro r M' hF p l e s m args below meth c D ad dA A hp H locs ls hP hD hS hl
  obtain ⟨hx, hb, hr, hml, hown, hts, hlk, hC⟩ := id hp
  refine lv_if_le hx hb hd ht (fun h => ?_) (fun h => ?_)
  · exact K h r M' ((if_pos h).symm.trans hF) p l e s m args below meth c D ad dA A hp H locs ls hP hD hS hl
  · exact L h r M' ((if_neg h).symm.trans hF) p l e s m args below meth c D ad dA A hp H locs ls hP hD hS hl
theorem j_icmp_ne {R : Type} {mt : Mt} {wr : R → Option Value} {pc : Nat} {lv : List (Nat × Value)} {st : List Value} {M : Mem} {F G : Option (R × Mem)} {x y : Int32} {off : Int} {tgt : Nat} (hd : decode mt.2.1 pc = .ok (.if_icmp .ne off, 3)) (ht : (pc : Int) + off = (tgt : Int)) (K : ¬ (x = y) → J mt wr tgt lv st M G) (L : x = y → J mt wr (pc + 3) lv st M F) : J mt wr pc lv (.int y :: .int x :: st) M (if x = y then F else G) := by
  intro r M' hF p l e s m args below meth c D ad dA A hp H locs ls hP hD hS hl
  obtain ⟨hx, hb, hr, hml, hown, hts, hlk, hC⟩ := id hp
  refine lv_icmp_ne hx hb hd ht (fun h => ?_) (fun h => ?_)
  · exact K h r M' ((if_neg h).symm.trans hF) p l e s m args below meth c D ad dA A hp H locs ls hP hD hS hl
  · exact L h r M' ((if_pos h).symm.trans hF) p l e s m args below meth c D ad dA A hp H locs ls hP hD hS hl
theorem j_if_ne {R : Type} {mt : Mt} {wr : R → Option Value} {pc : Nat} {lv : List (Nat × Value)} {st : List Value} {M : Mem} {F G : Option (R × Mem)} {x : Int32} {off : Int} {tgt : Nat} (hd : decode mt.2.1 pc = .ok (.ifCond .ne off, 3)) (ht : (pc : Int) + off = (tgt : Int)) (K : ¬ (x = 0) → J mt wr tgt lv st M G) (L : x = 0 → J mt wr (pc + 3) lv st M F) : J mt wr pc lv (.int x :: st) M (if x = 0 then F else G) := by
  intro r M' hF p l e s m args below meth c D ad dA A hp H locs ls hP hD hS hl
  obtain ⟨hx, hb, hr, hml, hown, hts, hlk, hC⟩ := id hp
  refine lv_if_ne hx hb hd ht (fun h => ?_) (fun h => ?_)
  · exact K h r M' ((if_neg h).symm.trans hF) p l e s m args below meth c D ad dA A hp H locs ls hP hD hS hl
  · exact L h r M' ((if_pos h).symm.trans hF) p l e s m args below meth c D ad dA A hp H locs ls hP hD hS hl
theorem j_goto {R : Type} {mt : Mt} {wr : R → Option Value} {pc : Nat} {lv : List (Nat × Value)} {st : List Value} {M : Mem} {F : Option (R × Mem)} {off : Int} {tgt : Nat} (hd : decode mt.2.1 pc = .ok (.goto off, 3)) (ht : (pc : Int) + off = (tgt : Int)) (K : J mt wr tgt lv st M F) : J mt wr pc lv st M F := by
  intro r M' hF p l e s m args below meth c D ad dA A hp H locs ls hP hD hS hl
  obtain ⟨hx, hb, hr, hml, hown, hts, hlk, hC⟩ := id hp
  exact lv_goto hx hb hd ht (K r M' hF p l e s m args below meth c D ad dA A hp H locs ls hP hD hS hl)
theorem j_tableIn {R : Type} {mt : Mt} {wr : R → Option Value} {pc : Nat} {lv : List (Nat × Value)} {st : List Value} {M : Mem} {F : Option (R × Mem)} {dflt lo hi : Int} {offs : Array Int} {len : Nat} {x : Int32} {off : Int} {tgt : Nat} (hd : decode mt.2.1 pc = .ok (.tableswitch dflt lo hi offs, len)) (v : Int32) (hv : x = v) (h1 : ¬ v.toInt < lo) (h2 : ¬ hi < v.toInt) (ho : offs[(v.toInt - lo).toNat]? = some off) (ht : (pc : Int) + off = (tgt : Int)) (K : J mt wr tgt lv st M F) : J mt wr pc lv (.int x :: st) M F := by
  subst hv
  intro r M' hF p l e s m args below meth c D ad dA A hp H locs ls hP hD hS hl
  obtain ⟨hx, hb, hr, hml, hown, hts, hlk, hC⟩ := id hp
  exact lv_tableIn hx hb hd h1 h2 ho ht (K r M' hF p l e s m args below meth c D ad dA A hp H locs ls hP hD hS hl)
theorem j_tableOut {R : Type} {mt : Mt} {wr : R → Option Value} {pc : Nat} {lv : List (Nat × Value)} {st : List Value} {M : Mem} {F : Option (R × Mem)} {dflt lo hi : Int} {offs : Array Int} {len : Nat} {x : Int32} {tgt : Nat} (hd : decode mt.2.1 pc = .ok (.tableswitch dflt lo hi offs, len)) (h : x.toInt < lo ∨ hi < x.toInt) (ht : (pc : Int) + dflt = (tgt : Int)) (K : J mt wr tgt lv st M F) : J mt wr pc lv (.int x :: st) M F := by
  intro r M' hF p l e s m args below meth c D ad dA A hp H locs ls hP hD hS hl
  obtain ⟨hx, hb, hr, hml, hown, hts, hlk, hC⟩ := id hp
  exact lv_tableOut hx hb hd h ht (K r M' hF p l e s m args below meth c D ad dA A hp H locs ls hP hD hS hl)
def nm {α β : Type} (e : α) (f : α → β) : β := f e
def gd {α : Type} (i : Int32) (n : Nat) (F : Option α) : Option α := if i < 0 ∨ n ≤ i.toNatClampNeg then none else F
def bd {α β : Type} (x : Option (α × Mem)) (f : α → Mem → Option β) : Option β := match x with
  | some q => f q.1 q.2
  | none => none
theorem j_none {R : Type} {mt : Mt} {wr : R → Option Value} {pc : Nat} {lv : List (Nat × Value)} {st : List Value} {M : Mem} : J mt wr pc lv st M none := fun r M' hF => by cases hF
theorem j_nm {R α : Type} {mt : Mt} {wr : R → Option Value} {pc : Nat} {lv : List (Nat × Value)} {st : List Value} {M : Mem} {e : α} {f : α → Option (R × Mem)} (K : J mt wr pc lv st M (f e)) : J mt wr pc lv st M (nm e f) := K
theorem j_nmi {R : Type} {mt : Mt} {wr : R → Option Value} {pc : Nat} {lv : List (Nat × Value)} {st : List Value} {M : Mem} {e : Int32} {f : Int32 → Option (R × Mem)} (K : ∀ x : Int32, J mt wr pc lv (.int x :: st) M (f x)) : J mt wr pc lv (.int e :: st) M (nm e f) := K e
theorem j_nml {R : Type} {mt : Mt} {wr : R → Option Value} {pc : Nat} {lv : List (Nat × Value)} {st : List Value} {M : Mem} {e : Int64} {f : Int64 → Option (R × Mem)} (K : ∀ x : Int64, J mt wr pc lv (.long x :: st) M (f x)) : J mt wr pc lv (.long e :: st) M (nm e f) := K e
theorem j_nmM {R : Type} {mt : Mt} {wr : R → Option Value} {pc : Nat} {lv : List (Nat × Value)} {st : List Value} {M : Mem} {f : Mem → Option (R × Mem)} (K : ∀ N : Mem, J mt wr pc lv st N (f N)) : J mt wr pc lv st M (nm M f) := K M
theorem j_lv {R : Type} {mt : Mt} {wr : R → Option Value} {pc : Nat} {lv lv' : List (Nat × Value)} {st : List Value} {M : Mem} {F : Option (R × Mem)} (ks : List Nat) (h : lv_pick lv ks = lv') (K : J mt wr pc lv' st M F) : J mt wr pc lv st M F := by
  intro r M' hF p l e s m args below meth c D ad dA A hp H locs ls hP hD hS hl
  refine K r M' hF p l e s m args below meth c D ad dA A hp H locs ls hP hD hS (lv_sub hl ks ?_)
  subst h
  unfold lv_pick
  rw [List.map_filterMap]
  congr 1
  funext k
  simp
theorem j_gd {R : Type} {mt : Mt} {wr : R → Option Value} {pc : Nat} {lv : List (Nat × Value)} {st : List Value} {M : Mem} {F : Option (R × Mem)} {i : Int32} {n : Nat} (K : vp_in i n → J mt wr pc lv st M F) : J mt wr pc lv st M (gd i n F) := by
  unfold gd
  by_cases h : i < 0 ∨ n ≤ i.toNatClampNeg
  · rw [if_pos h]; exact j_none
  · rw [if_neg h]; exact K h
def wI : Int32 → Option Value := fun x => some (.int x)
def wL : Int64 → Option Value := fun x => some (.long x)
def wU : Unit → Option Value := fun _ => none
theorem j_ireturn {mt : Mt} {pc : Nat} {lv : List (Nat × Value)} {M : Mem} {x : Int32} (hd : decode mt.2.1 pc = .ok (.ireturn, 1)) (hrt : mt.2.2.2.1 = some .int) : J mt wI pc lv [.int x] M (some (x, M)) := by
  intro r M' hF p l e s m args below meth c D ad dA A hp H locs ls hP hD hS hl
  obtain ⟨hx, hb, hr, hml, hown, hts, hlk, hC⟩ := id hp
  cases hF
  exact W.iret hx hb (hr.trans hrt) (fun t ht hW => ⟨rfl, by show Wd D ad dA A _ _ t.heap; rw [ht]; exact ⟨hP, hD⟩, hS.F ht⟩) hS.2.2 hd
theorem j_zreturn {mt : Mt} {pc : Nat} {lv : List (Nat × Value)} {M : Mem} {x : Int32} {ty : FieldType} (hd : decode mt.2.1 pc = .ok (.ireturn, 1)) (hrt : mt.2.2.2.1 = some ty) (hn : narrow ty (.int x) = .int x) : J mt wI pc lv [.int x] M (some (x, M)) := by
  intro r M' hF p l e s m args below meth c D ad dA A hp H locs ls hP hD hS hl
  obtain ⟨hx, hb, hr, hml, hown, hts, hlk, hC⟩ := id hp
  cases hF
  exact W.zret hx hb (hr.trans hrt) hn (fun t ht hW => ⟨rfl, by show Wd D ad dA A _ _ t.heap; rw [ht]; exact ⟨hP, hD⟩, hS.F ht⟩) hS.2.2 hd
theorem j_lreturn {mt : Mt} {pc : Nat} {lv : List (Nat × Value)} {M : Mem} {x : Int64} (hd : decode mt.2.1 pc = .ok (.lreturn, 1)) (hrt : mt.2.2.2.1 = some .long) : J mt wL pc lv [.long x] M (some (x, M)) := by
  intro r M' hF p l e s m args below meth c D ad dA A hp H locs ls hP hD hS hl
  obtain ⟨hx, hb, hr, hml, hown, hts, hlk, hC⟩ := id hp
  cases hF
  exact W.lret hx hb (hr.trans hrt) (fun t ht hW => ⟨rfl, by show Wd D ad dA A _ _ t.heap; rw [ht]; exact ⟨hP, hD⟩, hS.F ht⟩) hS.2.2 hd
theorem j_return {mt : Mt} {pc : Nat} {lv : List (Nat × Value)} {M : Mem}  (hd : decode mt.2.1 pc = .ok (.return_, 1)) (hrt : mt.2.2.2.1 = none) : J mt wU pc lv [] M (some ((), M)) := by
  intro r M' hF p l e s m args below meth c D ad dA A hp H locs ls hP hD hS hl
  obtain ⟨hx, hb, hr, hml, hown, hts, hlk, hC⟩ := id hp
  cases hF
  exact W.vret hx hb (hr.trans hrt) (fun t ht hW => ⟨rfl, by show Wd D ad dA A _ _ t.heap; rw [ht]; exact ⟨hP, hD⟩, hS.F ht⟩) hS.2.2 hd
end
section
/-! ROWS: memory and calls (written by wip/gen/mem.py) -/
def Fl (own : String) (idx ci k : Nat) (ty : FieldType) (fin : Bool) : Prop := ∃ (C : String) (T : u_T) (N : Nat) (ty0 : Nat → FieldType), cl[ci]? = some (C, T, N) ∧ k < N ∧ (∀ w ∈ u_ws C T N, w ∈ tbl) ∧ Cond.fieldLink own idx C (T k).2.1 (T k).2.2.1 ∈ tbl ∧ (T k).1 = C ∧ (∀ k, k < N → parseFieldDescriptor (T k).2.2.1 = some (ty0 k)) ∧ (∀ a, a < N → ∀ b, b < N → a ≠ b → (T a).2.1 ≠ (T b).2.1) ∧ parseFieldDescriptor (T k).2.2.1 = some ty ∧ (T k).2.2.2 = fin
theorem lay_obj {ad : Nat → Nat} {dA : Nat → ClassId} {sh : Shp} {M : Mem} {a ci : Nat} {ds : List Nat} (h : sh[a]? = some (ci, ds)) (hc : ci < 100) : (lay ad dA sh M)[a]? = some (ad a, .inr (ci, objOf ad M a ds)) := by
  rw [lay_get h, cell_obj hc]
theorem lay_int {ad : Nat → Nat} {dA : Nat → ClassId} {sh : Shp} {M : Mem} {a n t : Nat} (h : sh[a]? = some (100 + t, [n])) (ht : t < 3) : (lay ad dA sh M)[a]? = some (ad a, .inl (dA t, n, .inl (M.1 a))) := by
  rw [lay_get h]
  unfold cellOf
  rw [if_neg (by show ¬ 100 + t < 100; omega), if_pos (by show 100 + t < 103; omega), show 100 + t - 100 = t by omega]
  rfl
theorem lay_long {ad : Nat → Nat} {dA : Nat → ClassId} {sh : Shp} {M : Mem} {a n : Nat} (h : sh[a]? = some (103, [n])) : (lay ad dA sh M)[a]? = some (ad a, .inl (dA 3, n, .inr (.inl (M.2 a)))) := lay_get h
theorem lay_refs {ad : Nat → Nat} {dA : Nat → ClassId} {sh : Shp} {M : Mem} {a t : Nat} {ids : List Nat} (h : sh[a]? = some (104 + t, ids)) : (lay ad dA sh M)[a]? = some (ad a, .inl (dA (4 + t), ids.length, .inr (.inr (.inr (.inr (fun j => (ids[j]?).map ad)))))) := by
  rw [lay_get h]
  unfold cellOf
  rw [if_neg (by show ¬ 104 + t < 100; omega), if_neg (by show ¬ 104 + t < 103; omega), if_neg (by show ¬ 104 + t = 103; omega), show 104 + t - 100 = 4 + t by omega]
theorem j_getI {R : Type} {mt : Mt} {wr : R → Option Value} {pc : Nat} {lv : List (Nat × Value)} {st : List Value} {M : Mem} {F : Option (R × Mem)} {a ci k idx : Nat} {ds : List Nat} {ty : FieldType} {fin : Bool} (hd : decode mt.2.1 pc = .ok (.getfield idx, 3)) (hf : Fl mt.1 idx ci k ty fin) (hs : mt.2.2.2.2.2[a]? = some (ci, ds)) (hc : ci < 100) (hk : ds[k]? = some 0) (K : J mt wr (pc + 3) lv (.int (M.1 a k) :: st) M F) : J mt wr pc lv (.ref a :: st) M F := by
  intro r M' hF p l e s m args below meth c D ad dA A hp H locs ls hP hD hS hl
  obtain ⟨hx, hb, hr, hml, hown, hts, hlk, hC⟩ := id hp
  obtain ⟨C, T, N, ty0, e1, e2, e3, e4, e5, e6, e7, e8, e9⟩ := hf
  exact va_get (D := (D.1, D.2)) hx hb hts e3 hown hC.1 hP a (lay_obj hs hc) e1 k e2 (hts _ e4) (fun x h => by rw [e5] at h; exact h) (obj_get hk) hd (K r M' hF p l e s m args below meth c D ad dA A hp H locs ls hP hD hS hl)
theorem j_getL {R : Type} {mt : Mt} {wr : R → Option Value} {pc : Nat} {lv : List (Nat × Value)} {st : List Value} {M : Mem} {F : Option (R × Mem)} {a ci k idx : Nat} {ds : List Nat} {ty : FieldType} {fin : Bool} (hd : decode mt.2.1 pc = .ok (.getfield idx, 3)) (hf : Fl mt.1 idx ci k ty fin) (hs : mt.2.2.2.2.2[a]? = some (ci, ds)) (hc : ci < 100) (hk : ds[k]? = some 1) (K : J mt wr (pc + 3) lv (.long (M.2 a k) :: st) M F) : J mt wr pc lv (.ref a :: st) M F := by
  intro r M' hF p l e s m args below meth c D ad dA A hp H locs ls hP hD hS hl
  obtain ⟨hx, hb, hr, hml, hown, hts, hlk, hC⟩ := id hp
  obtain ⟨C, T, N, ty0, e1, e2, e3, e4, e5, e6, e7, e8, e9⟩ := hf
  exact va_get (D := (D.1, D.2)) hx hb hts e3 hown hC.1 hP a (lay_obj hs hc) e1 k e2 (hts _ e4) (fun x h => by rw [e5] at h; exact h) (obj_get hk) hd (K r M' hF p l e s m args below meth c D ad dA A hp H locs ls hP hD hS hl)
theorem j_getA {R : Type} {mt : Mt} {wr : R → Option Value} {pc : Nat} {lv : List (Nat × Value)} {st : List Value} {M : Mem} {F : Option (R × Mem)} {a ci k idx : Nat} {ds : List Nat} {ty : FieldType} {fin : Bool} {b : Nat} (hd : decode mt.2.1 pc = .ok (.getfield idx, 3)) (hf : Fl mt.1 idx ci k ty fin) (hs : mt.2.2.2.2.2[a]? = some (ci, ds)) (hc : ci < 100) (hk : ds[k]? = some (b + 2)) (K : J mt wr (pc + 3) lv (.ref b :: st) M F) : J mt wr pc lv (.ref a :: st) M F := by
  intro r M' hF p l e s m args below meth c D ad dA A hp H locs ls hP hD hS hl
  obtain ⟨hx, hb, hr, hml, hown, hts, hlk, hC⟩ := id hp
  obtain ⟨C, T, N, ty0, e1, e2, e3, e4, e5, e6, e7, e8, e9⟩ := hf
  exact va_get (D := (D.1, D.2)) hx hb hts e3 hown hC.1 hP a (lay_obj hs hc) e1 k e2 (hts _ e4) (fun x h => by rw [e5] at h; exact h) (obj_get hk) hd (K r M' hF p l e s m args below meth c D ad dA A hp H locs ls hP hD hS hl)
theorem j_putI {R : Type} {mt : Mt} {wr : R → Option Value} {pc : Nat} {lv : List (Nat × Value)} {st : List Value} {M : Mem} {F : Option (R × Mem)} {a ci k idx : Nat} {ds : List Nat} {ty : FieldType} {v : Int32} (hd : decode mt.2.1 pc = .ok (.putfield idx, 3)) (hf : Fl mt.1 idx ci k ty false) (ht : ty = .int) (hs : mt.2.2.2.2.2[a]? = some (ci, ds)) (hc : ci < 100) (hk : ds[k]? = some 0) (K : J mt wr (pc + 3) lv st (si M a k v) F) : J mt wr pc lv (.int v :: .ref a :: st) M F := by
  intro r M' hF p l e s m args below meth c D ad dA A hp H locs ls hP hD hS hl
  obtain ⟨hx, hb, hr, hml, hown, hts, hlk, hC⟩ := id hp
  obtain ⟨C, T, N, ty0, e1, e2, e3, e4, e5, e6, e7, e8, e9⟩ := hf
  have hset : (lay ad dA mt.2.2.2.2.2 M).set a (ad a, .inr (ci, (objOf ad M a ds).set k (.int v))) = lay ad dA mt.2.2.2.2.2 (si M a k v) := by
    refine lay_set hs ?_ (fun j hj => si_off hj)
    rw [cell_obj hc, obj_set hk (M' := si M a k v) (by simp [fldOf, si]) (fun j kd2 hj => by
      match kd2 with
      | 0 => simp [fldOf, si, hj]
      | 1 => simp [fldOf, si, hj]
      | r + 2 => rfl)]
  refine va_put (v := .int v) (D := (D.1, D.2)) hx hb hts e3 ty0 e6 e7 hown hC.1 hP hD hS a (lay_obj hs hc) e1 k e2 (hts _ e4) (fun x h => by rw [e5] at h; exact h) e9 e8 (by rw [ht]; rfl) (by rw [ht]; rfl) ((List.getElem?_eq_some_iff.mp (obj_get (ad := ad) (M := M) (a := a) hk)).1) hd (fun H1 locs1 hP1 hD1 hS1 => ?_)
  rw [hset] at hP1 hD1
  exact K r M' hF p l e s m args below meth c D ad dA A hp H1 locs1 ls hP1 hD1 hS1 hl
theorem j_putZ {R : Type} {mt : Mt} {wr : R → Option Value} {pc : Nat} {lv : List (Nat × Value)} {st : List Value} {M : Mem} {F : Option (R × Mem)} {a ci k idx : Nat} {ds : List Nat} {ty : FieldType} {v : Int32} (hd : decode mt.2.1 pc = .ok (.putfield idx, 3)) (hf : Fl mt.1 idx ci k ty false) (hn : narrow ty (.int v) = .int v) (hfi : fits ty (.int v) = true) (hs : mt.2.2.2.2.2[a]? = some (ci, ds)) (hc : ci < 100) (hk : ds[k]? = some 0) (K : J mt wr (pc + 3) lv st (si M a k v) F) : J mt wr pc lv (.int v :: .ref a :: st) M F := by
  intro r M' hF p l e s m args below meth c D ad dA A hp H locs ls hP hD hS hl
  obtain ⟨hx, hb, hr, hml, hown, hts, hlk, hC⟩ := id hp
  obtain ⟨C, T, N, ty0, e1, e2, e3, e4, e5, e6, e7, e8, e9⟩ := hf
  have hset : (lay ad dA mt.2.2.2.2.2 M).set a (ad a, .inr (ci, (objOf ad M a ds).set k (.int v))) = lay ad dA mt.2.2.2.2.2 (si M a k v) := by
    refine lay_set hs ?_ (fun j hj => si_off hj)
    rw [cell_obj hc, obj_set hk (M' := si M a k v) (by simp [fldOf, si]) (fun j kd2 hj => by
      match kd2 with
      | 0 => simp [fldOf, si, hj]
      | 1 => simp [fldOf, si, hj]
      | r + 2 => rfl)]
  refine va_put (v := .int v) (D := (D.1, D.2)) hx hb hts e3 ty0 e6 e7 hown hC.1 hP hD hS a (lay_obj hs hc) e1 k e2 (hts _ e4) (fun x h => by rw [e5] at h; exact h) e9 e8 hn hfi ((List.getElem?_eq_some_iff.mp (obj_get (ad := ad) (M := M) (a := a) hk)).1) hd (fun H1 locs1 hP1 hD1 hS1 => ?_)
  rw [hset] at hP1 hD1
  exact K r M' hF p l e s m args below meth c D ad dA A hp H1 locs1 ls hP1 hD1 hS1 hl
theorem j_putL {R : Type} {mt : Mt} {wr : R → Option Value} {pc : Nat} {lv : List (Nat × Value)} {st : List Value} {M : Mem} {F : Option (R × Mem)} {a ci k idx : Nat} {ds : List Nat} {ty : FieldType} {v : Int64} (hd : decode mt.2.1 pc = .ok (.putfield idx, 3)) (hf : Fl mt.1 idx ci k ty false) (ht : ty = .long) (hs : mt.2.2.2.2.2[a]? = some (ci, ds)) (hc : ci < 100) (hk : ds[k]? = some 1) (K : J mt wr (pc + 3) lv st (sl M a k v) F) : J mt wr pc lv (.long v :: .ref a :: st) M F := by
  intro r M' hF p l e s m args below meth c D ad dA A hp H locs ls hP hD hS hl
  obtain ⟨hx, hb, hr, hml, hown, hts, hlk, hC⟩ := id hp
  obtain ⟨C, T, N, ty0, e1, e2, e3, e4, e5, e6, e7, e8, e9⟩ := hf
  have hset : (lay ad dA mt.2.2.2.2.2 M).set a (ad a, .inr (ci, (objOf ad M a ds).set k (.long v))) = lay ad dA mt.2.2.2.2.2 (sl M a k v) := by
    refine lay_set hs ?_ (fun j hj => sl_off hj)
    rw [cell_obj hc, obj_set hk (M' := sl M a k v) (by simp [fldOf, sl]) (fun j kd2 hj => by
      match kd2 with
      | 0 => simp [fldOf, sl, hj]
      | 1 => simp [fldOf, sl, hj]
      | r + 2 => rfl)]
  refine va_put (v := .long v) (D := (D.1, D.2)) hx hb hts e3 ty0 e6 e7 hown hC.1 hP hD hS a (lay_obj hs hc) e1 k e2 (hts _ e4) (fun x h => by rw [e5] at h; exact h) e9 e8 (by rw [ht]; rfl) (by rw [ht]; rfl) ((List.getElem?_eq_some_iff.mp (obj_get (ad := ad) (M := M) (a := a) hk)).1) hd (fun H1 locs1 hP1 hD1 hS1 => ?_)
  rw [hset] at hP1 hD1
  exact K r M' hF p l e s m args below meth c D ad dA A hp H1 locs1 ls hP1 hD1 hS1 hl
theorem j_iald {R : Type} {mt : Mt} {wr : R → Option Value} {pc : Nat} {lv : List (Nat × Value)} {st : List Value} {M : Mem} {F : Option (R × Mem)} {a n : Nat} {i : Int32} (hd : decode mt.2.1 pc = .ok (.iaload, 1)) (hs : mt.2.2.2.2.2[a]? = some (100, [n])) (K : vp_in i n → J mt wr (pc + 1) lv (.int (M.1 a i.toNatClampNeg) :: st) M F) : J mt wr pc lv (.int i :: .ref a :: st) M (gd i n F) := by
  refine j_gd (fun hin => ?_)
  have K := K hin
  intro r M' hF p l e s m args below meth c D ad dA A hp H locs ls hP hD hS hl
  obtain ⟨hx, hb, hr, hml, hown, hts, hlk, hC⟩ := id hp
  exact va_iald (D := D) hx hb hC.1 hP a 0 (lay_int (t := 0) hs (by decide)) rfl hin hd (K r M' hF p l e s m args below meth c D ad dA A hp H locs ls hP hD hS hl)
theorem j_bald {R : Type} {mt : Mt} {wr : R → Option Value} {pc : Nat} {lv : List (Nat × Value)} {st : List Value} {M : Mem} {F : Option (R × Mem)} {a n : Nat} {i : Int32} (hd : decode mt.2.1 pc = .ok (.baload, 1)) (hs : mt.2.2.2.2.2[a]? = some (101, [n])) (K : vp_in i n → J mt wr (pc + 1) lv (.int (M.1 a i.toNatClampNeg) :: st) M F) : J mt wr pc lv (.int i :: .ref a :: st) M (gd i n F) := by
  refine j_gd (fun hin => ?_)
  have K := K hin
  intro r M' hF p l e s m args below meth c D ad dA A hp H locs ls hP hD hS hl
  obtain ⟨hx, hb, hr, hml, hown, hts, hlk, hC⟩ := id hp
  exact va_bald (D := D) hx hb hC.1 hP a 1 (lay_int (t := 1) hs (by decide)) rfl hin hd (K r M' hF p l e s m args below meth c D ad dA A hp H locs ls hP hD hS hl)
theorem j_zald {R : Type} {mt : Mt} {wr : R → Option Value} {pc : Nat} {lv : List (Nat × Value)} {st : List Value} {M : Mem} {F : Option (R × Mem)} {a n : Nat} {i : Int32} (hd : decode mt.2.1 pc = .ok (.baload, 1)) (hs : mt.2.2.2.2.2[a]? = some (102, [n])) (K : vp_in i n → J mt wr (pc + 1) lv (.int (M.1 a i.toNatClampNeg) :: st) M F) : J mt wr pc lv (.int i :: .ref a :: st) M (gd i n F) := by
  refine j_gd (fun hin => ?_)
  have K := K hin
  intro r M' hF p l e s m args below meth c D ad dA A hp H locs ls hP hD hS hl
  obtain ⟨hx, hb, hr, hml, hown, hts, hlk, hC⟩ := id hp
  exact va_zald (D := D) hx hb hC.1 hP a 2 (lay_int (t := 2) hs (by decide)) rfl hin hd (K r M' hF p l e s m args below meth c D ad dA A hp H locs ls hP hD hS hl)
theorem j_lald {R : Type} {mt : Mt} {wr : R → Option Value} {pc : Nat} {lv : List (Nat × Value)} {st : List Value} {M : Mem} {F : Option (R × Mem)} {a n : Nat} {i : Int32} (hd : decode mt.2.1 pc = .ok (.laload, 1)) (hs : mt.2.2.2.2.2[a]? = some (103, [n])) (K : vp_in i n → J mt wr (pc + 1) lv (.long (M.2 a i.toNatClampNeg) :: st) M F) : J mt wr pc lv (.int i :: .ref a :: st) M (gd i n F) := by
  refine j_gd (fun hin => ?_)
  have K := K hin
  intro r M' hF p l e s m args below meth c D ad dA A hp H locs ls hP hD hS hl
  obtain ⟨hx, hb, hr, hml, hown, hts, hlk, hC⟩ := id hp
  exact va_lald (D := D) hx hb hC.1 hP a 3 (lay_long hs) rfl hin hd (K r M' hF p l e s m args below meth c D ad dA A hp H locs ls hP hD hS hl)
theorem j_aald0 {R : Type} {mt : Mt} {wr : R → Option Value} {pc : Nat} {lv : List (Nat × Value)} {st : List Value} {M : Mem} {F : Option (R × Mem)} {a : Nat} {ids : List Nat} {i : Int32} (hd : decode mt.2.1 pc = .ok (.aaload, 1)) (hs : mt.2.2.2.2.2[a]? = some (104, ids)) (K : vp_in i ids.length → J mt wr (pc + 1) lv (.ref (ids.getD i.toNatClampNeg 0) :: st) M F) : J mt wr pc lv (.int i :: .ref a :: st) M (gd i ids.length F) := by
  refine j_gd (fun hin => ?_)
  have K := K hin
  intro r M' hF p l e s m args below meth c D ad dA A hp H locs ls hP hD hS hl
  obtain ⟨hx, hb, hr, hml, hown, hts, hlk, hC⟩ := id hp
  have hlt : i.toNatClampNeg < ids.length := Nat.not_le.mp fun q => hin (Or.inr q)
  have he : (ids[i.toNatClampNeg]?).map ad = some (ad (ids.getD i.toNatClampNeg 0)) := by
    rw [List.getD_eq_getElem?_getD, List.getElem?_eq_getElem hlt]; rfl
  refine W.aald (v := .ref (ad (ids.getD i.toNatClampNeg 0))) (ty := (.object "ShakeHands$Minds")) hx hb (hP a _ (lay_refs (t := 0) hs)) ((hC.1.2 4 _ rfl).1 ids.length (fun j => va_rf ((ids[j]?).map ad))) rfl (fun q => by cases q) (by show ¬ (i < 0 ∨ (arrV _ _ _).slots.size ≤ _); rw [arrV_size]; exact hin) (by show (arrV _ _ _).slots[_]? = _; rw [arrV_read _ _ hlt]; exact congrArg (fun o => some (va_rf o)) he) rfl rfl hd (K r M' hF p l e s m args below meth c D ad dA A hp H locs ls hP hD hS hl)
theorem j_aald1 {R : Type} {mt : Mt} {wr : R → Option Value} {pc : Nat} {lv : List (Nat × Value)} {st : List Value} {M : Mem} {F : Option (R × Mem)} {a : Nat} {ids : List Nat} {i : Int32} (hd : decode mt.2.1 pc = .ok (.aaload, 1)) (hs : mt.2.2.2.2.2[a]? = some (105, ids)) (K : vp_in i ids.length → J mt wr (pc + 1) lv (.ref (ids.getD i.toNatClampNeg 0) :: st) M F) : J mt wr pc lv (.int i :: .ref a :: st) M (gd i ids.length F) := by
  refine j_gd (fun hin => ?_)
  have K := K hin
  intro r M' hF p l e s m args below meth c D ad dA A hp H locs ls hP hD hS hl
  obtain ⟨hx, hb, hr, hml, hown, hts, hlk, hC⟩ := id hp
  have hlt : i.toNatClampNeg < ids.length := Nat.not_le.mp fun q => hin (Or.inr q)
  have he : (ids[i.toNatClampNeg]?).map ad = some (ad (ids.getD i.toNatClampNeg 0)) := by
    rw [List.getD_eq_getElem?_getD, List.getElem?_eq_getElem hlt]; rfl
  refine W.aald (v := .ref (ad (ids.getD i.toNatClampNeg 0))) (ty := (.object "ShakeHands$Sheet")) hx hb (hP a _ (lay_refs (t := 1) hs)) ((hC.1.2 5 _ rfl).1 ids.length (fun j => va_rf ((ids[j]?).map ad))) rfl (fun q => by cases q) (by show ¬ (i < 0 ∨ (arrV _ _ _).slots.size ≤ _); rw [arrV_size]; exact hin) (by show (arrV _ _ _).slots[_]? = _; rw [arrV_read _ _ hlt]; exact congrArg (fun o => some (va_rf o)) he) rfl rfl hd (K r M' hF p l e s m args below meth c D ad dA A hp H locs ls hP hD hS hl)
theorem j_aald2 {R : Type} {mt : Mt} {wr : R → Option Value} {pc : Nat} {lv : List (Nat × Value)} {st : List Value} {M : Mem} {F : Option (R × Mem)} {a : Nat} {ids : List Nat} {i : Int32} (hd : decode mt.2.1 pc = .ok (.aaload, 1)) (hs : mt.2.2.2.2.2[a]? = some (106, ids)) (K : vp_in i ids.length → J mt wr (pc + 1) lv (.ref (ids.getD i.toNatClampNeg 0) :: st) M F) : J mt wr pc lv (.int i :: .ref a :: st) M (gd i ids.length F) := by
  refine j_gd (fun hin => ?_)
  have K := K hin
  intro r M' hF p l e s m args below meth c D ad dA A hp H locs ls hP hD hS hl
  obtain ⟨hx, hb, hr, hml, hown, hts, hlk, hC⟩ := id hp
  have hlt : i.toNatClampNeg < ids.length := Nat.not_le.mp fun q => hin (Or.inr q)
  have he : (ids[i.toNatClampNeg]?).map ad = some (ad (ids.getD i.toNatClampNeg 0)) := by
    rw [List.getD_eq_getElem?_getD, List.getElem?_eq_getElem hlt]; rfl
  refine W.aald (v := .ref (ad (ids.getD i.toNatClampNeg 0))) (ty := (.array .long)) hx hb (hP a _ (lay_refs (t := 2) hs)) ((hC.1.2 6 _ rfl).1 ids.length (fun j => va_rf ((ids[j]?).map ad))) rfl (fun q => by cases q) (by show ¬ (i < 0 ∨ (arrV _ _ _).slots.size ≤ _); rw [arrV_size]; exact hin) (by show (arrV _ _ _).slots[_]? = _; rw [arrV_read _ _ hlt]; exact congrArg (fun o => some (va_rf o)) he) rfl rfl hd (K r M' hF p l e s m args below meth c D ad dA A hp H locs ls hP hD hS hl)
theorem j_iast {R : Type} {mt : Mt} {wr : R → Option Value} {pc : Nat} {lv : List (Nat × Value)} {st : List Value} {M : Mem} {F : Option (R × Mem)} {a n : Nat} {i x : Int32} (hd : decode mt.2.1 pc = .ok (.iastore, 1)) (hs : mt.2.2.2.2.2[a]? = some (100, [n])) (K : vp_in i n → J mt wr (pc + 1) lv st (si M a i.toNatClampNeg x) F) : J mt wr pc lv (.int x :: .int i :: .ref a :: st) M (gd i n F) := by
  refine j_gd (fun hin => ?_)
  have K := K hin
  intro r M' hF p l e s m args below meth c D ad dA A hp H locs ls hP hD hS hl
  obtain ⟨hx, hb, hr, hml, hown, hts, hlk, hC⟩ := id hp
  have hset : (lay ad dA mt.2.2.2.2.2 M).set a (ad a, .inl (dA 0, n, .inl (upd (M.1 a) i.toNatClampNeg x))) = lay ad dA mt.2.2.2.2.2 (si M a i.toNatClampNeg x) := by
    refine lay_set hs ?_ (fun j hj => si_off hj)
    have e : upd (M.1 a) i.toNatClampNeg x = (si M a i.toNatClampNeg x).1 a := by funext y; simp [upd, si]
    rw [e]
    rfl
  refine va_iast (D := D) hx hb hC.1 hP hD hS a 0 (lay_int (t := 0) hs (by decide)) rfl hin hd (fun H1 locs1 hP1 hD1 hS1 => ?_)
  rw [hset] at hP1 hD1
  exact K r M' hF p l e s m args below meth c D ad dA A hp H1 locs1 ls hP1 hD1 hS1 hl
theorem j_bast {R : Type} {mt : Mt} {wr : R → Option Value} {pc : Nat} {lv : List (Nat × Value)} {st : List Value} {M : Mem} {F : Option (R × Mem)} {a n : Nat} {i x : Int32} (hd : decode mt.2.1 pc = .ok (.bastore, 1)) (hs : mt.2.2.2.2.2[a]? = some (101, [n])) (K : vp_in i n → J mt wr (pc + 1) lv st (si M a i.toNatClampNeg (vp_nar .byte x)) F) : J mt wr pc lv (.int x :: .int i :: .ref a :: st) M (gd i n F) := by
  refine j_gd (fun hin => ?_)
  have K := K hin
  intro r M' hF p l e s m args below meth c D ad dA A hp H locs ls hP hD hS hl
  obtain ⟨hx, hb, hr, hml, hown, hts, hlk, hC⟩ := id hp
  have hset : (lay ad dA mt.2.2.2.2.2 M).set a (ad a, .inl (dA 1, n, .inl (upd (M.1 a) i.toNatClampNeg (vp_nar .byte x)))) = lay ad dA mt.2.2.2.2.2 (si M a i.toNatClampNeg (vp_nar .byte x)) := by
    refine lay_set hs ?_ (fun j hj => si_off hj)
    have e : upd (M.1 a) i.toNatClampNeg (vp_nar .byte x) = (si M a i.toNatClampNeg (vp_nar .byte x)).1 a := by funext y; simp [upd, si]
    rw [e]
    rfl
  refine va_bast (D := D) hx hb hC.1 hP hD hS a 1 (lay_int (t := 1) hs (by decide)) rfl hin hd (fun H1 locs1 hP1 hD1 hS1 => ?_)
  rw [hset] at hP1 hD1
  exact K r M' hF p l e s m args below meth c D ad dA A hp H1 locs1 ls hP1 hD1 hS1 hl
theorem j_zast {R : Type} {mt : Mt} {wr : R → Option Value} {pc : Nat} {lv : List (Nat × Value)} {st : List Value} {M : Mem} {F : Option (R × Mem)} {a n : Nat} {i x : Int32} (hd : decode mt.2.1 pc = .ok (.bastore, 1)) (hs : mt.2.2.2.2.2[a]? = some (102, [n])) (K : vp_in i n → J mt wr (pc + 1) lv st (si M a i.toNatClampNeg (vp_nar .boolean x)) F) : J mt wr pc lv (.int x :: .int i :: .ref a :: st) M (gd i n F) := by
  refine j_gd (fun hin => ?_)
  have K := K hin
  intro r M' hF p l e s m args below meth c D ad dA A hp H locs ls hP hD hS hl
  obtain ⟨hx, hb, hr, hml, hown, hts, hlk, hC⟩ := id hp
  have hset : (lay ad dA mt.2.2.2.2.2 M).set a (ad a, .inl (dA 2, n, .inl (upd (M.1 a) i.toNatClampNeg (vp_nar .boolean x)))) = lay ad dA mt.2.2.2.2.2 (si M a i.toNatClampNeg (vp_nar .boolean x)) := by
    refine lay_set hs ?_ (fun j hj => si_off hj)
    have e : upd (M.1 a) i.toNatClampNeg (vp_nar .boolean x) = (si M a i.toNatClampNeg (vp_nar .boolean x)).1 a := by funext y; simp [upd, si]
    rw [e]
    rfl
  refine va_zast (D := D) hx hb hC.1 hP hD hS a 2 (lay_int (t := 2) hs (by decide)) rfl hin hd (fun H1 locs1 hP1 hD1 hS1 => ?_)
  rw [hset] at hP1 hD1
  exact K r M' hF p l e s m args below meth c D ad dA A hp H1 locs1 ls hP1 hD1 hS1 hl
theorem j_last {R : Type} {mt : Mt} {wr : R → Option Value} {pc : Nat} {lv : List (Nat × Value)} {st : List Value} {M : Mem} {F : Option (R × Mem)} {a n : Nat} {i : Int32} {x : Int64} (hd : decode mt.2.1 pc = .ok (.lastore, 1)) (hs : mt.2.2.2.2.2[a]? = some (103, [n])) (K : vp_in i n → J mt wr (pc + 1) lv st (sl M a i.toNatClampNeg x) F) : J mt wr pc lv (.long x :: .int i :: .ref a :: st) M (gd i n F) := by
  refine j_gd (fun hin => ?_)
  have K := K hin
  intro r M' hF p l e s m args below meth c D ad dA A hp H locs ls hP hD hS hl
  obtain ⟨hx, hb, hr, hml, hown, hts, hlk, hC⟩ := id hp
  have hset : (lay ad dA mt.2.2.2.2.2 M).set a (ad a, .inl (dA 3, n, .inr (.inl (vp_updL (M.2 a) i.toNatClampNeg x)))) = lay ad dA mt.2.2.2.2.2 (sl M a i.toNatClampNeg x) := by
    refine lay_set hs ?_ (fun j hj => sl_off hj)
    have e : vp_updL (M.2 a) i.toNatClampNeg x = (sl M a i.toNatClampNeg x).2 a := by funext y; simp [vp_updL, sl]
    rw [e]
    rfl
  refine va_last (D := D) hx hb hC.1 hP hD hS a 3 (lay_long hs) rfl hin hd (fun H1 locs1 hP1 hD1 hS1 => ?_)
  rw [hset] at hP1 hD1
  exact K r M' hF p l e s m args below meth c D ad dA A hp H1 locs1 ls hP1 hD1 hS1 hl
theorem j_alen {R : Type} {mt : Mt} {wr : R → Option Value} {pc : Nat} {lv : List (Nat × Value)} {st : List Value} {M : Mem} {F : Option (R × Mem)} {a n t : Nat} (hd : decode mt.2.1 pc = .ok (.arraylength, 1)) (hs : mt.2.2.2.2.2[a]? = some (100 + t, [n])) (ht : t < 3) (K : J mt wr (pc + 1) lv (.int (nI n) :: st) M F) : J mt wr pc lv (.ref a :: st) M F := by
  intro r M' hF p l e s m args below meth c D ad dA A hp H locs ls hP hD hS hl
  obtain ⟨hx, hb, hr, hml, hown, hts, hlk, hC⟩ := id hp
  have ht2 : ∃ ty, (tysOf dA)[t]? = some (dA t, ty) := by
    match t, ht with
    | 0, _ => exact ⟨_, rfl⟩
    | 1, _ => exact ⟨_, rfl⟩
    | 2, _ => exact ⟨_, rfl⟩
  obtain ⟨ty, ht2⟩ := ht2
  exact va_alen (D := D) hx hb hC.1 hP a t (lay_int hs ht) ht2 rfl hd (K r M' hF p l e s m args below meth c D ad dA A hp H locs ls hP hD hS hl)
theorem j_gets200 {R : Type} {mt : Mt} {wr : R → Option Value} {pc : Nat} {lv : List (Nat × Value)} {st : List Value} {M : Mem} {F : Option (R × Mem)} {idx : Nat} (hd : decode mt.2.1 pc = .ok (.getstatic idx, 3)) (hw : (mt.1, idx, "LESSER") ∈ nestF) (K : J mt wr (pc + 3) lv (.ref 200 :: st) M F) : J mt wr pc lv st M F := by
  intro r M' hF p l e s m args below meth c D ad dA A hp H locs ls hP hD hS hl
  obtain ⟨hx, hb, hr, hml, hown, hts, hlk, hC⟩ := id hp
  exact va_getsN hx hb hC.2.1 hS hown ((hC.2.2.2.2.2.2.2.2.2.1 _ hw).use rfl) (fun x h => h) hd (K r M' hF p l e s m args below meth c D ad dA A hp H locs ls hP hD hS hl)
theorem j_ialdS200 {R : Type} {mt : Mt} {wr : R → Option Value} {pc : Nat} {lv : List (Nat × Value)} {st : List Value} {M : Mem} {F : Option (R × Mem)} {i : Int32} (hd : decode mt.2.1 pc = .ok (.iaload, 1)) (K : vp_in i 15 → J mt wr (pc + 1) lv (.int (lsr i.toNatClampNeg) :: st) M F) : J mt wr pc lv (.int i :: .ref 200 :: st) M (gd i 15 F) := by
  refine j_gd (fun hin => ?_)
  have K := K hin
  intro r M' hF p l e s m args below meth c D ad dA A hp H locs ls hP hD hS hl
  obtain ⟨hx, hb, hr, hml, hown, hts, hlk, hC⟩ := id hp
  exact va_ti hx hb hC.2.2.1 hS hin rfl hd (K r M' hF p l e s m args below meth c D ad dA A hp H locs ls hP hD hS hl)
theorem j_gets201 {R : Type} {mt : Mt} {wr : R → Option Value} {pc : Nat} {lv : List (Nat × Value)} {st : List Value} {M : Mem} {F : Option (R × Mem)} {idx : Nat} (hd : decode mt.2.1 pc = .ok (.getstatic idx, 3)) (hw : (mt.1, idx, "GREATER") ∈ nestF) (K : J mt wr (pc + 3) lv (.ref 201 :: st) M F) : J mt wr pc lv st M F := by
  intro r M' hF p l e s m args below meth c D ad dA A hp H locs ls hP hD hS hl
  obtain ⟨hx, hb, hr, hml, hown, hts, hlk, hC⟩ := id hp
  exact va_getsN hx hb hC.2.2.2.1 hS hown ((hC.2.2.2.2.2.2.2.2.2.1 _ hw).use rfl) (fun x h => h) hd (K r M' hF p l e s m args below meth c D ad dA A hp H locs ls hP hD hS hl)
theorem j_ialdS201 {R : Type} {mt : Mt} {wr : R → Option Value} {pc : Nat} {lv : List (Nat × Value)} {st : List Value} {M : Mem} {F : Option (R × Mem)} {i : Int32} (hd : decode mt.2.1 pc = .ok (.iaload, 1)) (K : vp_in i 15 → J mt wr (pc + 1) lv (.int (grt i.toNatClampNeg) :: st) M F) : J mt wr pc lv (.int i :: .ref 201 :: st) M (gd i 15 F) := by
  refine j_gd (fun hin => ?_)
  have K := K hin
  intro r M' hF p l e s m args below meth c D ad dA A hp H locs ls hP hD hS hl
  obtain ⟨hx, hb, hr, hml, hown, hts, hlk, hC⟩ := id hp
  exact va_ti hx hb hC.2.2.2.2.1 hS hin rfl hd (K r M' hF p l e s m args below meth c D ad dA A hp H locs ls hP hD hS hl)
def gc {α : Type} (sp dp n : Int32) (n0 n1 : Nat) (F : Option α) : Option α := if sp < 0 ∨ dp < 0 ∨ n < 0 ∨ n0 < sp.toNatClampNeg + n.toNatClampNeg ∨ n1 < dp.toNatClampNeg + n.toNatClampNeg then none else F
theorem st8 {ad : Nat → Nat} {st : List Value} {d : Nat} (h1 : 1 ≤ d) (hst : (st.map fun v => v.category).sum ≤ 8) : ((st.map (rv ad)).map fun v => v.category).sum + (nativeFrameWords "java/lang/System" "arraycopy" 5 + 11) ≤ 64 * d := by
  rw [rv_cats]
  have : nativeFrameWords "java/lang/System" "arraycopy" 5 ≤ 40 := by decide +kernel
  omega
theorem j_copyI {R : Type} {mt : Mt} {wr : R → Option Value} {pc : Nat} {lv : List (Nat × Value)} {st : List Value} {M : Mem} {F : Option (R × Mem)} {a0 a1 n0 n1 idx : Nat} {sp dp n : Int32} (hd : decode mt.2.1 pc = .ok (.invokestatic idx, 3)) (hw : Cond.methodLink mt.1 idx arraycopyName ∈ tbl) (hwn : Cond.native arraycopyName ∈ tbl) (hws : Cond.static arraycopyName ∈ tbl) (hs0 : mt.2.2.2.2.2[a0]? = some (100, [n0])) (hs1 : mt.2.2.2.2.2[a1]? = some (100, [n1])) (hdp : 1 ≤ mt.2.2.2.2.1) (hst : (st.map fun v => v.category).sum ≤ 8) (K : J mt wr (pc + 3) lv st (cpI M a0 sp.toNatClampNeg a1 dp.toNatClampNeg n.toNatClampNeg) F) : J mt wr pc lv (.int n :: .int dp :: .ref a1 :: .int sp :: .ref a0 :: st) M (gc sp dp n n0 n1 F) := by
  unfold gc
  by_cases hg : sp < 0 ∨ dp < 0 ∨ n < 0 ∨ n0 < sp.toNatClampNeg + n.toNatClampNeg ∨ n1 < dp.toNatClampNeg + n.toNatClampNeg
  · rw [if_pos hg]; exact j_none
  rw [if_neg hg]
  simp only [not_or] at hg
  obtain ⟨g1, g2, g3, g4, g5⟩ := hg
  intro r M' hF p l e s m args below meth c D ad dA A hp H locs ls hP hD hS hl
  obtain ⟨hx, hb, hr, hml, hown, hts, hlk, hC⟩ := id hp
  have hset : (lay ad dA mt.2.2.2.2.2 M).set a1 (ad a1, .inl (dA 0, n1, .inl (va_cpy (M.1 a0) (M.1 a1) sp.toNatClampNeg dp.toNatClampNeg n.toNatClampNeg))) = lay ad dA mt.2.2.2.2.2 (cpI M a0 sp.toNatClampNeg a1 dp.toNatClampNeg n.toNatClampNeg) := by
    refine lay_set hs1 ?_ (fun j hj => cpI_off hj)
    have e : va_cpy (M.1 a0) (M.1 a1) sp.toNatClampNeg dp.toNatClampNeg n.toNatClampNeg = (cpI M a0 sp.toNatClampNeg a1 dp.toNatClampNeg n.toNatClampNeg).1 a1 := by funext y; simp [va_cpy, cpI]
    rw [e]
    rfl
  refine va_copyi (D := D) hx hb (hml.trans hl.1.symm) hown (hts _ hw) (hts _ hwn) (hts _ hws) (hts _ ini_System) hC.1 hP hD hS a0 a1 0 0 (lay_int (t := 0) hs0 (by decide)) (lay_int (t := 0) hs1 (by decide)) rfl rfl rfl g1 g2 g3 (Nat.not_lt.mp g4) (Nat.not_lt.mp g5) (fun i _ => rfl) hdp (st8 hdp hst) hd (fun H1 locs1 hP1 hD1 hS1 => ?_)
  rw [hset] at hP1 hD1
  exact K r M' hF p l e s m args below meth c D ad dA A hp H1 locs1 ls hP1 hD1 hS1 hl
theorem j_copyL {R : Type} {mt : Mt} {wr : R → Option Value} {pc : Nat} {lv : List (Nat × Value)} {st : List Value} {M : Mem} {F : Option (R × Mem)} {a0 a1 n0 n1 idx : Nat} {sp dp n : Int32} (hd : decode mt.2.1 pc = .ok (.invokestatic idx, 3)) (hw : Cond.methodLink mt.1 idx arraycopyName ∈ tbl) (hwn : Cond.native arraycopyName ∈ tbl) (hws : Cond.static arraycopyName ∈ tbl) (hs0 : mt.2.2.2.2.2[a0]? = some (103, [n0])) (hs1 : mt.2.2.2.2.2[a1]? = some (103, [n1])) (hdp : 1 ≤ mt.2.2.2.2.1) (hst : (st.map fun v => v.category).sum ≤ 8) (K : J mt wr (pc + 3) lv st (cpL M a0 sp.toNatClampNeg a1 dp.toNatClampNeg n.toNatClampNeg) F) : J mt wr pc lv (.int n :: .int dp :: .ref a1 :: .int sp :: .ref a0 :: st) M (gc sp dp n n0 n1 F) := by
  unfold gc
  by_cases hg : sp < 0 ∨ dp < 0 ∨ n < 0 ∨ n0 < sp.toNatClampNeg + n.toNatClampNeg ∨ n1 < dp.toNatClampNeg + n.toNatClampNeg
  · rw [if_pos hg]; exact j_none
  rw [if_neg hg]
  simp only [not_or] at hg
  obtain ⟨g1, g2, g3, g4, g5⟩ := hg
  intro r M' hF p l e s m args below meth c D ad dA A hp H locs ls hP hD hS hl
  obtain ⟨hx, hb, hr, hml, hown, hts, hlk, hC⟩ := id hp
  have hset : (lay ad dA mt.2.2.2.2.2 M).set a1 (ad a1, .inl (dA 3, n1, .inr (.inl (va_cpy (M.2 a0) (M.2 a1) sp.toNatClampNeg dp.toNatClampNeg n.toNatClampNeg)))) = lay ad dA mt.2.2.2.2.2 (cpL M a0 sp.toNatClampNeg a1 dp.toNatClampNeg n.toNatClampNeg) := by
    refine lay_set hs1 ?_ (fun j hj => cpL_off hj)
    have e : va_cpy (M.2 a0) (M.2 a1) sp.toNatClampNeg dp.toNatClampNeg n.toNatClampNeg = (cpL M a0 sp.toNatClampNeg a1 dp.toNatClampNeg n.toNatClampNeg).2 a1 := by funext y; simp [va_cpy, cpL]
    rw [e]
    rfl
  refine va_copyl (D := D) hx hb (hml.trans hl.1.symm) hown (hts _ hw) (hts _ hwn) (hts _ hws) (hts _ ini_System) hC.1 hP hD hS a0 a1 3 3 (lay_long hs0) (lay_long hs1) rfl rfl rfl g1 g2 g3 (Nat.not_lt.mp g4) (Nat.not_lt.mp g5) (fun i _ => rfl) hdp (st8 hdp hst) hd (fun H1 locs1 hP1 hD1 hS1 => ?_)
  rw [hset] at hP1 hD1
  exact K r M' hF p l e s m args below meth c D ad dA A hp H1 locs1 ls hP1 hD1 hS1 hl
theorem j_mmax {R : Type} {mt : Mt} {wr : R → Option Value} {pc : Nat} {lv : List (Nat × Value)} {st : List Value} {M : Mem} {F : Option (R × Mem)} {x y : Int32} {idx : Nat} (hd : decode mt.2.1 pc = .ok (.invokestatic idx, 3)) (hw : Cond.methodLink mt.1 idx Lib.Math.max.name ∈ tbl) (hws : Cond.static Lib.Math.max.name ∈ tbl) (hwc : Cond.code Lib.Math.max.name Lib.Math.max.code 2 (some .int) ∈ tbl) (hdp : 1 ≤ mt.2.2.2.2.1) (hst : (st.map fun v => v.category).sum ≤ 8) (K : J mt wr (pc + 3) lv (.int (if x < y then y else x) :: st) M F) : J mt wr pc lv (.int y :: .int x :: st) M F := by
  intro r M' hF p l e s m args below meth c D ad dA A hp H locs ls hP hD hS hl
  obtain ⟨hx, hb, hr, hml, hown, hts, hlk, hC⟩ := id hp
  refine va_mmax hx hb (hml.trans hl.1.symm) hown (hts _ hw) (hts _ hws) (hts _ ini_Math) (hts _ hwc) hdp ?_ (Nat.zero_le _) (Nat.zero_le _) hd (K r M' hF p l e s m args below meth c D ad dA A hp H locs ls hP hD hS hl)
  show ((st.map (rv ad)).map fun v => v.category).sum + 13 ≤ 64 * mt.2.2.2.2.1
  rw [rv_cats]
  omega
theorem j_mmin {R : Type} {mt : Mt} {wr : R → Option Value} {pc : Nat} {lv : List (Nat × Value)} {st : List Value} {M : Mem} {F : Option (R × Mem)} {x y : Int32} {idx : Nat} (hd : decode mt.2.1 pc = .ok (.invokestatic idx, 3)) (hw : Cond.methodLink mt.1 idx Lib.Math.min.name ∈ tbl) (hws : Cond.static Lib.Math.min.name ∈ tbl) (hwc : Cond.code Lib.Math.min.name Lib.Math.min.code 2 (some .int) ∈ tbl) (hdp : 1 ≤ mt.2.2.2.2.1) (hst : (st.map fun v => v.category).sum ≤ 8) (K : J mt wr (pc + 3) lv (.int (if y < x then y else x) :: st) M F) : J mt wr pc lv (.int y :: .int x :: st) M F := by
  intro r M' hF p l e s m args below meth c D ad dA A hp H locs ls hP hD hS hl
  obtain ⟨hx, hb, hr, hml, hown, hts, hlk, hC⟩ := id hp
  refine va_mmin hx hb (hml.trans hl.1.symm) hown (hts _ hw) (hts _ hws) (hts _ ini_Math) (hts _ hwc) hdp ?_ (Nat.zero_le _) (Nat.zero_le _) hd (K r M' hF p l e s m args below meth c D ad dA A hp H locs ls hP hD hS hl)
  show ((st.map (rv ad)).map fun v => v.category).sum + 13 ≤ 64 * mt.2.2.2.2.1
  rw [rv_cats]
  omega
def CV (own : String) (idx : Nat) (y : MethodName) : Prop := Cond.methodLink own idx y ∈ tbl ∧ Cond.instanceMethod y ∈ tbl ∧ Cond.selects y.cls y y ∈ tbl ∧ Cond.initialized y.cls ∈ tbl
def CS (own : String) (idx : Nat) (y : MethodName) : Prop := Cond.methodLink own idx y ∈ tbl ∧ Cond.static y ∈ tbl ∧ Cond.initialized y.cls ∈ tbl
def CSN (own : String) (idx : Nat) (y : MethodName) : Prop := (own, idx, y) ∈ nestM ∧ Cond.static y ∈ tbl ∧ Cond.initialized y.cls ∈ tbl
def Dn (y : MethodName) (n : Nat) : Prop := y.cls ≠ "java/lang/invoke/MethodHandle" ∧ y.cls ≠ "java/lang/invoke/VarHandle" ∧ (parseMethodDescriptor y.desc).map (fun d => d.parameters.length) = some n
def nr {R : Type} (wr : R → Option Value) : Prop := ∀ (r : R) (ad : Nat → Nat), ((wr r).toList.map (rv ad)) = (wr r).toList
theorem nr_I : nr wI := fun _ _ => rfl
theorem nr_L : nr wL := fun _ _ => rfl
theorem nr_U : nr wU := fun _ _ => rfl
theorem good_cons {w : Cond} (h : w ∈ tbl) : GoodIn tbl (w :: tbl) := fun v hv => by
  rcases List.mem_cons.mp hv with rfl | hv
  · exact tbl_good _ h
  · exact tbl_good _ hv
section WC
variable {p : Program} {l : Launch} {e : Env} {R : Room} {s : State} {m : MethodId} {args : Array Value} {below : List Frame} {meth : Method} {c : Code} {H : Heap} {locs : List Loc} {cells slots : Nat} {Q : State → Prop} {pc : Nat} {ls : Array Slot} {rest st0 : List Value} {a : Array Value} {A : Nat → Prop}
theorem wr_call {wv : Option Value} {Post : State → Prop} (hr : va_Run p l e R s m args below meth c H locs cells slots 0 0 (F0 m pc ls st0) rest (Qr wv Post A a) A) (hS : va_S A s.heap H locs)
    (kk : ∀ (t : State) (H1 : Heap) (locs1 : List Loc), t.heap = H1 → Post t → va_S A s.heap H1 locs1 → W p l e R s m args below meth c H1 locs1 cells slots Q (F0 m (pc + 3) ls (wv.toList ++ rest))) : W p l e R s m args below meth c H locs cells slots Q (F0 m pc ls st0) := by
  intro T hT X
  obtain ⟨v, st₀, t, T', L, h0, X', hL, e1, e2, ⟨hv, hp, hz, hk⟩, st⟩ := hr T hT X
  cases hv
  rw [h0] at hz hk
  obtain ⟨t2, a1, b1⟩ := kk t T'.heap (locs ++ L) e1.symm hp
    ⟨Nat.le_trans hS.1 (by rw [e1]; exact hz), fun q h1 h2 => by rw [e1, hk q (Nat.lt_of_lt_of_le h1 hS.1) h2]; exact hS.2.1 q h1 h2, fun q hq => by
      rcases List.mem_append.mp hq with h | h
      · exact hS.2.2 q h
      · exact hL q h⟩ T' rfl X'
  exact ⟨t2, st t2 a1, b1⟩
end WC
theorem bd_some {α β : Type} {x : Option (α × Mem)} {f : α → Mem → Option β} {y : β} (h : bd x f = some y) : ∃ r N, x = some (r, N) ∧ f r N = some y := by
  match x, h with
  | some q, h => exact ⟨q.1, q.2, rfl, h⟩
theorem ct_blind {D : va_G} {ad : Nat → Nat} {dA : Nat → ClassId} {A : Nat → Prop} {sh : Shp} {M : Mem} {av : List Value} : FrameBlind (va_Pc av (fun U => Wd D ad dA A sh M U.heap ∧ Cx D ad dA A U U.heap)) := fun a U g mk q => ⟨q.1, q.2.1, q.2.2.blind⟩
theorem j_callV {R : Type} {mt : Mt} {wr : R → Option Value} {pc : Nat} {lv : List (Nat × Value)} {st : List Value} {M : Mem} {R2 : Type} {wr2 : R2 → Option Value} {mt2 : Mt} {F2 : Option (R2 × Mem)} {k : R2 → Mem → Option (R × Mem)} {y : MethodName} {idx n : Nat} {as : List Value} {a ci N : Nat} {ds : List Nat} {T : u_T} (hd : decode mt.2.1 pc = .ok (.invokevirtual idx, 3)) (hct : Ct y mt2 wr2 (.ref a :: as) M F2) (hw : CV mt.1 idx y) (hcd : Cond.code y mt2.2.1 mt2.2.2.1 mt2.2.2.2.1 ∈ tbl) (hdn : Dn y n) (hn : as.length = n) (hsh : mt2.2.2.2.2.2 = mt.2.2.2.2.2) (hdp : mt2.2.2.2.2.1 + 1 ≤ mt.2.2.2.2.1) (hmx : mt2.2.2.1 ≤ 40) (hst : (st.map fun v => v.category).sum ≤ 8) (hnr : nr wr2) (hs : mt.2.2.2.2.2[a]? = some (ci, ds)) (hc : ci < 100) (hcl : cl[ci]? = some (y.cls, T, N)) (K : ∀ (r : R2) (N : Mem), J mt wr (pc + 3) lv ((wr2 r).toList ++ st) N (k r N)) : J mt wr pc lv (as.reverse ++ .ref a :: st) M (bd F2 k) := by
  intro r M' hF p l e s m args below meth c D ad dA A hp H locs ls hP hD hS hl
  obtain ⟨hx, hb, hr, hml, hown, hts, hlk, hC⟩ := id hp
  obtain ⟨r1, M1, hF1, hF⟩ := bd_some hF
  have hM := hct r1 M1 hF1 l D ad dA A
  have hR : (rmd mt2.2.2.2.2.1).frames + 1 ≤ (rmd mt.2.2.2.2.1).frames ∧ 8 + (mt2.2.2.1 + 11) + (rmd mt2.2.2.2.2.1).locals ≤ (rmd mt.2.2.2.2.1).locals := by
    refine ⟨hdp, ?_⟩
    show 8 + (mt2.2.2.1 + 11) + 64 * mt2.2.2.2.2.1 ≤ 64 * mt.2.2.2.2.1
    omega
  refine wr_call (wv := wr2 r1) (rest := st.map (rv ad)) (va_runV (As := as.map (rv ad)) (b := ad a) (C := y.cls) (Ts := tbl) ⟨hx, hb, hml, hown, hts⟩ hM ⟨callB_of n hts (good_cons hcd) rfl rfl rfl (hts _ hw.2.2.2) (hts _ hw.1) hdn hR, hts _ hw.2.1, hts _ hw.2.2.1⟩ ⟨ct_blind, va_recv hC.1 hP hcl (lay_obj hs hc), fun U hU hW => ⟨rfl, by rw [hU, hsh]; exact ⟨hP, hD⟩, by rw [hU]; exact hC.next hS hW⟩⟩ rfl (by rw [List.length_map]; exact hn) hl.1 ?_ (lv_room (by rw [rv_cats]; exact hst)) hd ⟨Nat.le_refl _, Nat.le_refl _⟩) hS (fun t H1 locs1 ht hpost hS1 => ?_)
  · show (as.reverse ++ .ref a :: st).map (rv ad) = (as.map (rv ad)).reverse ++ .ref (ad a) :: st.map (rv ad)
    rw [List.map_append, List.map_reverse]
    rfl
  obtain ⟨hP1, hD1⟩ := hpost
  rw [ht] at hP1
  rw [hsh] at hP1 hD1
  have hk := K r1 M1 r M' hF p l e s m args below meth c D ad dA A hp H1 locs1 ls hP1 hD1 hS1 hl
  rw [List.map_append, hnr] at hk
  exact hk
theorem j_callS {R : Type} {mt : Mt} {wr : R → Option Value} {pc : Nat} {lv : List (Nat × Value)} {st : List Value} {M : Mem} {R2 : Type} {wr2 : R2 → Option Value} {mt2 : Mt} {F2 : Option (R2 × Mem)} {k : R2 → Mem → Option (R × Mem)} {y : MethodName} {idx n : Nat} {as : List Value} (hd : decode mt.2.1 pc = .ok (.invokestatic idx, 3)) (hct : Ct y mt2 wr2 as M F2) (hw : CS mt.1 idx y) (hcd : Cond.code y mt2.2.1 mt2.2.2.1 mt2.2.2.2.1 ∈ tbl) (hdn : Dn y n) (hn : as.length = n) (hsh : mt2.2.2.2.2.2 = mt.2.2.2.2.2) (hdp : mt2.2.2.2.2.1 + 1 ≤ mt.2.2.2.2.1) (hmx : mt2.2.2.1 ≤ 40) (hst : (st.map fun v => v.category).sum ≤ 8) (hnr : nr wr2) (K : ∀ (r : R2) (N : Mem), J mt wr (pc + 3) lv ((wr2 r).toList ++ st) N (k r N)) : J mt wr pc lv (as.reverse ++ st) M (bd F2 k) := by
  intro r M' hF p l e s m args below meth c D ad dA A hp H locs ls hP hD hS hl
  obtain ⟨hx, hb, hr, hml, hown, hts, hlk, hC⟩ := id hp
  obtain ⟨r1, M1, hF1, hF⟩ := bd_some hF
  have hM := hct r1 M1 hF1 l D ad dA A
  have hR : (rmd mt2.2.2.2.2.1).frames + 1 ≤ (rmd mt.2.2.2.2.1).frames ∧ 8 + (mt2.2.2.1 + 11) + (rmd mt2.2.2.2.2.1).locals ≤ (rmd mt.2.2.2.2.1).locals := by
    refine ⟨hdp, ?_⟩
    show 8 + (mt2.2.2.1 + 11) + 64 * mt2.2.2.2.2.1 ≤ 64 * mt.2.2.2.2.1
    omega
  refine wr_call (wv := wr2 r1) (rest := st.map (rv ad)) (va_runS (As := as.map (rv ad)) (Ts := tbl) ⟨hx, hb, hml, hown, hts⟩ hM ⟨callB_of n hts (good_cons hcd) rfl rfl rfl (hts _ hw.2.2) (hts _ hw.1) hdn hR, hts _ hw.2.1⟩ ⟨ct_blind, fun U hU hW => ⟨rfl, by rw [hU, hsh]; exact ⟨hP, hD⟩, by rw [hU]; exact hC.next hS hW⟩⟩ rfl (by rw [List.length_map]; exact hn) hl.1 ?_ (lv_room (by rw [rv_cats]; exact hst)) hd ⟨Nat.le_refl _, Nat.le_refl _⟩) hS (fun t H1 locs1 ht hpost hS1 => ?_)
  · show (as.reverse ++ st).map (rv ad) = (as.map (rv ad)).reverse ++ st.map (rv ad)
    rw [List.map_append, List.map_reverse]
  obtain ⟨hP1, hD1⟩ := hpost
  rw [ht] at hP1
  rw [hsh] at hP1 hD1
  have hk := K r1 M1 r M' hF p l e s m args below meth c D ad dA A hp H1 locs1 ls hP1 hD1 hS1 hl
  rw [List.map_append, hnr] at hk
  exact hk
theorem j_callSN {R : Type} {mt : Mt} {wr : R → Option Value} {pc : Nat} {lv : List (Nat × Value)} {st : List Value} {M : Mem} {R2 : Type} {wr2 : R2 → Option Value} {mt2 : Mt} {F2 : Option (R2 × Mem)} {k : R2 → Mem → Option (R × Mem)} {y : MethodName} {idx n : Nat} {as : List Value} (hd : decode mt.2.1 pc = .ok (.invokestatic idx, 3)) (hct : Ct y mt2 wr2 as M F2) (hw : CSN mt.1 idx y) (hcd : Cond.code y mt2.2.1 mt2.2.2.1 mt2.2.2.2.1 ∈ tbl) (hdn : Dn y n) (hn : as.length = n) (hsh : mt2.2.2.2.2.2 = mt.2.2.2.2.2) (hdp : mt2.2.2.2.2.1 + 1 ≤ mt.2.2.2.2.1) (hmx : mt2.2.2.1 ≤ 40) (hst : (st.map fun v => v.category).sum ≤ 8) (hnr : nr wr2) (K : ∀ (r : R2) (N : Mem), J mt wr (pc + 3) lv ((wr2 r).toList ++ st) N (k r N)) : J mt wr pc lv (as.reverse ++ st) M (bd F2 k) := by
  intro r M' hF p l e s m args below meth c D ad dA A hp H locs ls hP hD hS hl
  obtain ⟨hx, hb, hr, hml, hown, hts, hlk, hC⟩ := id hp
  obtain ⟨r1, M1, hF1, hF⟩ := bd_some hF
  have hM := hct r1 M1 hF1 l D ad dA A
  have hR : (rmd mt2.2.2.2.2.1).frames + 1 ≤ (rmd mt.2.2.2.2.1).frames ∧ 8 + (mt2.2.2.1 + 11) + (rmd mt2.2.2.2.2.1).locals ≤ (rmd mt.2.2.2.2.1).locals := by
    refine ⟨hdp, ?_⟩
    show 8 + (mt2.2.2.1 + 11) + 64 * mt2.2.2.2.2.1 ≤ 64 * mt.2.2.2.2.1
    omega
  refine wr_call (wv := wr2 r1) (rest := st.map (rv ad)) (va_runSN (As := as.map (rv ad)) (Ts := tbl) ⟨hx, hb, hml, hown, hts⟩ hM ⟨va_cnB n hts (good_cons hcd) rfl rfl rfl (hC.2.2.2.2.2.2.2.2.2.2 _ hw.1) (hts _ hw.2.2) hdn hR, hts _ hw.2.1, trivial⟩ ⟨ct_blind, fun U hU hW => ⟨rfl, by rw [hU, hsh]; exact ⟨hP, hD⟩, by rw [hU]; exact hC.next hS hW⟩⟩ rfl (by rw [List.length_map]; exact hn) hl.1 ?_ (lv_room (by rw [rv_cats]; exact hst)) hd ⟨Nat.le_refl _, Nat.le_refl _⟩) hS (fun t H1 locs1 ht hpost hS1 => ?_)
  · show (as.reverse ++ st).map (rv ad) = (as.map (rv ad)).reverse ++ st.map (rv ad)
    rw [List.map_append, List.map_reverse]
  obtain ⟨hP1, hD1⟩ := hpost
  rw [ht] at hP1
  rw [hsh] at hP1 hD1
  have hk := K r1 M1 r M' hF p l e s m args below meth c D ad dA A hp H1 locs1 ls hP1 hD1 hS1 hl
  rw [List.map_append, hnr] at hk
  exact hk
theorem j_callV0 {R : Type} {mt : Mt} {wr : R → Option Value} {pc : Nat} {lv : List (Nat × Value)} {st : List Value} {M : Mem} {R2 : Type} {wr2 : R2 → Option Value} {mt2 : Mt} {F2 : Option (R2 × Mem)} {k : R2 → Mem → Option (R × Mem)} {y : MethodName} {idx : Nat} {a ci N : Nat} {ds : List Nat} {T : u_T} (hd : decode mt.2.1 pc = .ok (.invokevirtual idx, 3)) (hct : Ct y mt2 wr2 (.ref a :: []) M F2) (hw : CV mt.1 idx y) (hcd : Cond.code y mt2.2.1 mt2.2.2.1 mt2.2.2.2.1 ∈ tbl) (hdn : Dn y 0) (hsh : mt2.2.2.2.2.2 = mt.2.2.2.2.2) (hdp : mt2.2.2.2.2.1 + 1 ≤ mt.2.2.2.2.1) (hmx : mt2.2.2.1 ≤ 40) (hst : (st.map fun v => v.category).sum ≤ 8) (hnr : nr wr2) (hs : mt.2.2.2.2.2[a]? = some (ci, ds)) (hc : ci < 100) (hcl : cl[ci]? = some (y.cls, T, N)) (K : ∀ (r : R2) (N : Mem), J mt wr (pc + 3) lv ((wr2 r).toList ++ st) N (k r N)) : J mt wr pc lv (.ref a :: st) M (bd F2 k) := j_callV (as := []) hd hct hw hcd hdn rfl hsh hdp hmx hst hnr hs hc hcl K
theorem j_callV1 {R : Type} {mt : Mt} {wr : R → Option Value} {pc : Nat} {lv : List (Nat × Value)} {st : List Value} {M : Mem} {R2 : Type} {wr2 : R2 → Option Value} {mt2 : Mt} {F2 : Option (R2 × Mem)} {k : R2 → Mem → Option (R × Mem)} {y : MethodName} {idx : Nat} {v0 : Value} {a ci N : Nat} {ds : List Nat} {T : u_T} (hd : decode mt.2.1 pc = .ok (.invokevirtual idx, 3)) (hct : Ct y mt2 wr2 (.ref a :: [v0]) M F2) (hw : CV mt.1 idx y) (hcd : Cond.code y mt2.2.1 mt2.2.2.1 mt2.2.2.2.1 ∈ tbl) (hdn : Dn y 1) (hsh : mt2.2.2.2.2.2 = mt.2.2.2.2.2) (hdp : mt2.2.2.2.2.1 + 1 ≤ mt.2.2.2.2.1) (hmx : mt2.2.2.1 ≤ 40) (hst : (st.map fun v => v.category).sum ≤ 8) (hnr : nr wr2) (hs : mt.2.2.2.2.2[a]? = some (ci, ds)) (hc : ci < 100) (hcl : cl[ci]? = some (y.cls, T, N)) (K : ∀ (r : R2) (N : Mem), J mt wr (pc + 3) lv ((wr2 r).toList ++ st) N (k r N)) : J mt wr pc lv (v0 :: .ref a :: st) M (bd F2 k) := j_callV (as := [v0]) hd hct hw hcd hdn rfl hsh hdp hmx hst hnr hs hc hcl K
theorem j_callS1 {R : Type} {mt : Mt} {wr : R → Option Value} {pc : Nat} {lv : List (Nat × Value)} {st : List Value} {M : Mem} {R2 : Type} {wr2 : R2 → Option Value} {mt2 : Mt} {F2 : Option (R2 × Mem)} {k : R2 → Mem → Option (R × Mem)} {y : MethodName} {idx : Nat} {v0 : Value} (hd : decode mt.2.1 pc = .ok (.invokestatic idx, 3)) (hct : Ct y mt2 wr2 [v0] M F2) (hw : CS mt.1 idx y) (hcd : Cond.code y mt2.2.1 mt2.2.2.1 mt2.2.2.2.1 ∈ tbl) (hdn : Dn y 1) (hsh : mt2.2.2.2.2.2 = mt.2.2.2.2.2) (hdp : mt2.2.2.2.2.1 + 1 ≤ mt.2.2.2.2.1) (hmx : mt2.2.2.1 ≤ 40) (hst : (st.map fun v => v.category).sum ≤ 8) (hnr : nr wr2) (K : ∀ (r : R2) (N : Mem), J mt wr (pc + 3) lv ((wr2 r).toList ++ st) N (k r N)) : J mt wr pc lv (v0 :: st) M (bd F2 k) := j_callS (as := [v0]) hd hct hw hcd hdn rfl hsh hdp hmx hst hnr K
theorem j_callSN1 {R : Type} {mt : Mt} {wr : R → Option Value} {pc : Nat} {lv : List (Nat × Value)} {st : List Value} {M : Mem} {R2 : Type} {wr2 : R2 → Option Value} {mt2 : Mt} {F2 : Option (R2 × Mem)} {k : R2 → Mem → Option (R × Mem)} {y : MethodName} {idx : Nat} {v0 : Value} (hd : decode mt.2.1 pc = .ok (.invokestatic idx, 3)) (hct : Ct y mt2 wr2 [v0] M F2) (hw : CSN mt.1 idx y) (hcd : Cond.code y mt2.2.1 mt2.2.2.1 mt2.2.2.2.1 ∈ tbl) (hdn : Dn y 1) (hsh : mt2.2.2.2.2.2 = mt.2.2.2.2.2) (hdp : mt2.2.2.2.2.1 + 1 ≤ mt.2.2.2.2.1) (hmx : mt2.2.2.1 ≤ 40) (hst : (st.map fun v => v.category).sum ≤ 8) (hnr : nr wr2) (K : ∀ (r : R2) (N : Mem), J mt wr (pc + 3) lv ((wr2 r).toList ++ st) N (k r N)) : J mt wr pc lv (v0 :: st) M (bd F2 k) := j_callSN (as := [v0]) hd hct hw hcd hdn rfl hsh hdp hmx hst hnr K
theorem j_callV2 {R : Type} {mt : Mt} {wr : R → Option Value} {pc : Nat} {lv : List (Nat × Value)} {st : List Value} {M : Mem} {R2 : Type} {wr2 : R2 → Option Value} {mt2 : Mt} {F2 : Option (R2 × Mem)} {k : R2 → Mem → Option (R × Mem)} {y : MethodName} {idx : Nat} {v0 v1 : Value} {a ci N : Nat} {ds : List Nat} {T : u_T} (hd : decode mt.2.1 pc = .ok (.invokevirtual idx, 3)) (hct : Ct y mt2 wr2 (.ref a :: [v0, v1]) M F2) (hw : CV mt.1 idx y) (hcd : Cond.code y mt2.2.1 mt2.2.2.1 mt2.2.2.2.1 ∈ tbl) (hdn : Dn y 2) (hsh : mt2.2.2.2.2.2 = mt.2.2.2.2.2) (hdp : mt2.2.2.2.2.1 + 1 ≤ mt.2.2.2.2.1) (hmx : mt2.2.2.1 ≤ 40) (hst : (st.map fun v => v.category).sum ≤ 8) (hnr : nr wr2) (hs : mt.2.2.2.2.2[a]? = some (ci, ds)) (hc : ci < 100) (hcl : cl[ci]? = some (y.cls, T, N)) (K : ∀ (r : R2) (N : Mem), J mt wr (pc + 3) lv ((wr2 r).toList ++ st) N (k r N)) : J mt wr pc lv (v1 :: v0 :: .ref a :: st) M (bd F2 k) := j_callV (as := [v0, v1]) hd hct hw hcd hdn rfl hsh hdp hmx hst hnr hs hc hcl K
theorem j_callS2 {R : Type} {mt : Mt} {wr : R → Option Value} {pc : Nat} {lv : List (Nat × Value)} {st : List Value} {M : Mem} {R2 : Type} {wr2 : R2 → Option Value} {mt2 : Mt} {F2 : Option (R2 × Mem)} {k : R2 → Mem → Option (R × Mem)} {y : MethodName} {idx : Nat} {v0 v1 : Value} (hd : decode mt.2.1 pc = .ok (.invokestatic idx, 3)) (hct : Ct y mt2 wr2 [v0, v1] M F2) (hw : CS mt.1 idx y) (hcd : Cond.code y mt2.2.1 mt2.2.2.1 mt2.2.2.2.1 ∈ tbl) (hdn : Dn y 2) (hsh : mt2.2.2.2.2.2 = mt.2.2.2.2.2) (hdp : mt2.2.2.2.2.1 + 1 ≤ mt.2.2.2.2.1) (hmx : mt2.2.2.1 ≤ 40) (hst : (st.map fun v => v.category).sum ≤ 8) (hnr : nr wr2) (K : ∀ (r : R2) (N : Mem), J mt wr (pc + 3) lv ((wr2 r).toList ++ st) N (k r N)) : J mt wr pc lv (v1 :: v0 :: st) M (bd F2 k) := j_callS (as := [v0, v1]) hd hct hw hcd hdn rfl hsh hdp hmx hst hnr K
theorem j_callSN2 {R : Type} {mt : Mt} {wr : R → Option Value} {pc : Nat} {lv : List (Nat × Value)} {st : List Value} {M : Mem} {R2 : Type} {wr2 : R2 → Option Value} {mt2 : Mt} {F2 : Option (R2 × Mem)} {k : R2 → Mem → Option (R × Mem)} {y : MethodName} {idx : Nat} {v0 v1 : Value} (hd : decode mt.2.1 pc = .ok (.invokestatic idx, 3)) (hct : Ct y mt2 wr2 [v0, v1] M F2) (hw : CSN mt.1 idx y) (hcd : Cond.code y mt2.2.1 mt2.2.2.1 mt2.2.2.2.1 ∈ tbl) (hdn : Dn y 2) (hsh : mt2.2.2.2.2.2 = mt.2.2.2.2.2) (hdp : mt2.2.2.2.2.1 + 1 ≤ mt.2.2.2.2.1) (hmx : mt2.2.2.1 ≤ 40) (hst : (st.map fun v => v.category).sum ≤ 8) (hnr : nr wr2) (K : ∀ (r : R2) (N : Mem), J mt wr (pc + 3) lv ((wr2 r).toList ++ st) N (k r N)) : J mt wr pc lv (v1 :: v0 :: st) M (bd F2 k) := j_callSN (as := [v0, v1]) hd hct hw hcd hdn rfl hsh hdp hmx hst hnr K
theorem j_callV3 {R : Type} {mt : Mt} {wr : R → Option Value} {pc : Nat} {lv : List (Nat × Value)} {st : List Value} {M : Mem} {R2 : Type} {wr2 : R2 → Option Value} {mt2 : Mt} {F2 : Option (R2 × Mem)} {k : R2 → Mem → Option (R × Mem)} {y : MethodName} {idx : Nat} {v0 v1 v2 : Value} {a ci N : Nat} {ds : List Nat} {T : u_T} (hd : decode mt.2.1 pc = .ok (.invokevirtual idx, 3)) (hct : Ct y mt2 wr2 (.ref a :: [v0, v1, v2]) M F2) (hw : CV mt.1 idx y) (hcd : Cond.code y mt2.2.1 mt2.2.2.1 mt2.2.2.2.1 ∈ tbl) (hdn : Dn y 3) (hsh : mt2.2.2.2.2.2 = mt.2.2.2.2.2) (hdp : mt2.2.2.2.2.1 + 1 ≤ mt.2.2.2.2.1) (hmx : mt2.2.2.1 ≤ 40) (hst : (st.map fun v => v.category).sum ≤ 8) (hnr : nr wr2) (hs : mt.2.2.2.2.2[a]? = some (ci, ds)) (hc : ci < 100) (hcl : cl[ci]? = some (y.cls, T, N)) (K : ∀ (r : R2) (N : Mem), J mt wr (pc + 3) lv ((wr2 r).toList ++ st) N (k r N)) : J mt wr pc lv (v2 :: v1 :: v0 :: .ref a :: st) M (bd F2 k) := j_callV (as := [v0, v1, v2]) hd hct hw hcd hdn rfl hsh hdp hmx hst hnr hs hc hcl K
theorem j_callS3 {R : Type} {mt : Mt} {wr : R → Option Value} {pc : Nat} {lv : List (Nat × Value)} {st : List Value} {M : Mem} {R2 : Type} {wr2 : R2 → Option Value} {mt2 : Mt} {F2 : Option (R2 × Mem)} {k : R2 → Mem → Option (R × Mem)} {y : MethodName} {idx : Nat} {v0 v1 v2 : Value} (hd : decode mt.2.1 pc = .ok (.invokestatic idx, 3)) (hct : Ct y mt2 wr2 [v0, v1, v2] M F2) (hw : CS mt.1 idx y) (hcd : Cond.code y mt2.2.1 mt2.2.2.1 mt2.2.2.2.1 ∈ tbl) (hdn : Dn y 3) (hsh : mt2.2.2.2.2.2 = mt.2.2.2.2.2) (hdp : mt2.2.2.2.2.1 + 1 ≤ mt.2.2.2.2.1) (hmx : mt2.2.2.1 ≤ 40) (hst : (st.map fun v => v.category).sum ≤ 8) (hnr : nr wr2) (K : ∀ (r : R2) (N : Mem), J mt wr (pc + 3) lv ((wr2 r).toList ++ st) N (k r N)) : J mt wr pc lv (v2 :: v1 :: v0 :: st) M (bd F2 k) := j_callS (as := [v0, v1, v2]) hd hct hw hcd hdn rfl hsh hdp hmx hst hnr K
theorem j_callSN3 {R : Type} {mt : Mt} {wr : R → Option Value} {pc : Nat} {lv : List (Nat × Value)} {st : List Value} {M : Mem} {R2 : Type} {wr2 : R2 → Option Value} {mt2 : Mt} {F2 : Option (R2 × Mem)} {k : R2 → Mem → Option (R × Mem)} {y : MethodName} {idx : Nat} {v0 v1 v2 : Value} (hd : decode mt.2.1 pc = .ok (.invokestatic idx, 3)) (hct : Ct y mt2 wr2 [v0, v1, v2] M F2) (hw : CSN mt.1 idx y) (hcd : Cond.code y mt2.2.1 mt2.2.2.1 mt2.2.2.2.1 ∈ tbl) (hdn : Dn y 3) (hsh : mt2.2.2.2.2.2 = mt.2.2.2.2.2) (hdp : mt2.2.2.2.2.1 + 1 ≤ mt.2.2.2.2.1) (hmx : mt2.2.2.1 ≤ 40) (hst : (st.map fun v => v.category).sum ≤ 8) (hnr : nr wr2) (K : ∀ (r : R2) (N : Mem), J mt wr (pc + 3) lv ((wr2 r).toList ++ st) N (k r N)) : J mt wr pc lv (v2 :: v1 :: v0 :: st) M (bd F2 k) := j_callSN (as := [v0, v1, v2]) hd hct hw hcd hdn rfl hsh hdp hmx hst hnr K
theorem j_callV4 {R : Type} {mt : Mt} {wr : R → Option Value} {pc : Nat} {lv : List (Nat × Value)} {st : List Value} {M : Mem} {R2 : Type} {wr2 : R2 → Option Value} {mt2 : Mt} {F2 : Option (R2 × Mem)} {k : R2 → Mem → Option (R × Mem)} {y : MethodName} {idx : Nat} {v0 v1 v2 v3 : Value} {a ci N : Nat} {ds : List Nat} {T : u_T} (hd : decode mt.2.1 pc = .ok (.invokevirtual idx, 3)) (hct : Ct y mt2 wr2 (.ref a :: [v0, v1, v2, v3]) M F2) (hw : CV mt.1 idx y) (hcd : Cond.code y mt2.2.1 mt2.2.2.1 mt2.2.2.2.1 ∈ tbl) (hdn : Dn y 4) (hsh : mt2.2.2.2.2.2 = mt.2.2.2.2.2) (hdp : mt2.2.2.2.2.1 + 1 ≤ mt.2.2.2.2.1) (hmx : mt2.2.2.1 ≤ 40) (hst : (st.map fun v => v.category).sum ≤ 8) (hnr : nr wr2) (hs : mt.2.2.2.2.2[a]? = some (ci, ds)) (hc : ci < 100) (hcl : cl[ci]? = some (y.cls, T, N)) (K : ∀ (r : R2) (N : Mem), J mt wr (pc + 3) lv ((wr2 r).toList ++ st) N (k r N)) : J mt wr pc lv (v3 :: v2 :: v1 :: v0 :: .ref a :: st) M (bd F2 k) := j_callV (as := [v0, v1, v2, v3]) hd hct hw hcd hdn rfl hsh hdp hmx hst hnr hs hc hcl K
theorem j_callS4 {R : Type} {mt : Mt} {wr : R → Option Value} {pc : Nat} {lv : List (Nat × Value)} {st : List Value} {M : Mem} {R2 : Type} {wr2 : R2 → Option Value} {mt2 : Mt} {F2 : Option (R2 × Mem)} {k : R2 → Mem → Option (R × Mem)} {y : MethodName} {idx : Nat} {v0 v1 v2 v3 : Value} (hd : decode mt.2.1 pc = .ok (.invokestatic idx, 3)) (hct : Ct y mt2 wr2 [v0, v1, v2, v3] M F2) (hw : CS mt.1 idx y) (hcd : Cond.code y mt2.2.1 mt2.2.2.1 mt2.2.2.2.1 ∈ tbl) (hdn : Dn y 4) (hsh : mt2.2.2.2.2.2 = mt.2.2.2.2.2) (hdp : mt2.2.2.2.2.1 + 1 ≤ mt.2.2.2.2.1) (hmx : mt2.2.2.1 ≤ 40) (hst : (st.map fun v => v.category).sum ≤ 8) (hnr : nr wr2) (K : ∀ (r : R2) (N : Mem), J mt wr (pc + 3) lv ((wr2 r).toList ++ st) N (k r N)) : J mt wr pc lv (v3 :: v2 :: v1 :: v0 :: st) M (bd F2 k) := j_callS (as := [v0, v1, v2, v3]) hd hct hw hcd hdn rfl hsh hdp hmx hst hnr K
theorem j_callSN4 {R : Type} {mt : Mt} {wr : R → Option Value} {pc : Nat} {lv : List (Nat × Value)} {st : List Value} {M : Mem} {R2 : Type} {wr2 : R2 → Option Value} {mt2 : Mt} {F2 : Option (R2 × Mem)} {k : R2 → Mem → Option (R × Mem)} {y : MethodName} {idx : Nat} {v0 v1 v2 v3 : Value} (hd : decode mt.2.1 pc = .ok (.invokestatic idx, 3)) (hct : Ct y mt2 wr2 [v0, v1, v2, v3] M F2) (hw : CSN mt.1 idx y) (hcd : Cond.code y mt2.2.1 mt2.2.2.1 mt2.2.2.2.1 ∈ tbl) (hdn : Dn y 4) (hsh : mt2.2.2.2.2.2 = mt.2.2.2.2.2) (hdp : mt2.2.2.2.2.1 + 1 ≤ mt.2.2.2.2.1) (hmx : mt2.2.2.1 ≤ 40) (hst : (st.map fun v => v.category).sum ≤ 8) (hnr : nr wr2) (K : ∀ (r : R2) (N : Mem), J mt wr (pc + 3) lv ((wr2 r).toList ++ st) N (k r N)) : J mt wr pc lv (v3 :: v2 :: v1 :: v0 :: st) M (bd F2 k) := j_callSN (as := [v0, v1, v2, v3]) hd hct hw hcd hdn rfl hsh hdp hmx hst hnr K
theorem j_callV5 {R : Type} {mt : Mt} {wr : R → Option Value} {pc : Nat} {lv : List (Nat × Value)} {st : List Value} {M : Mem} {R2 : Type} {wr2 : R2 → Option Value} {mt2 : Mt} {F2 : Option (R2 × Mem)} {k : R2 → Mem → Option (R × Mem)} {y : MethodName} {idx : Nat} {v0 v1 v2 v3 v4 : Value} {a ci N : Nat} {ds : List Nat} {T : u_T} (hd : decode mt.2.1 pc = .ok (.invokevirtual idx, 3)) (hct : Ct y mt2 wr2 (.ref a :: [v0, v1, v2, v3, v4]) M F2) (hw : CV mt.1 idx y) (hcd : Cond.code y mt2.2.1 mt2.2.2.1 mt2.2.2.2.1 ∈ tbl) (hdn : Dn y 5) (hsh : mt2.2.2.2.2.2 = mt.2.2.2.2.2) (hdp : mt2.2.2.2.2.1 + 1 ≤ mt.2.2.2.2.1) (hmx : mt2.2.2.1 ≤ 40) (hst : (st.map fun v => v.category).sum ≤ 8) (hnr : nr wr2) (hs : mt.2.2.2.2.2[a]? = some (ci, ds)) (hc : ci < 100) (hcl : cl[ci]? = some (y.cls, T, N)) (K : ∀ (r : R2) (N : Mem), J mt wr (pc + 3) lv ((wr2 r).toList ++ st) N (k r N)) : J mt wr pc lv (v4 :: v3 :: v2 :: v1 :: v0 :: .ref a :: st) M (bd F2 k) := j_callV (as := [v0, v1, v2, v3, v4]) hd hct hw hcd hdn rfl hsh hdp hmx hst hnr hs hc hcl K
theorem j_callS5 {R : Type} {mt : Mt} {wr : R → Option Value} {pc : Nat} {lv : List (Nat × Value)} {st : List Value} {M : Mem} {R2 : Type} {wr2 : R2 → Option Value} {mt2 : Mt} {F2 : Option (R2 × Mem)} {k : R2 → Mem → Option (R × Mem)} {y : MethodName} {idx : Nat} {v0 v1 v2 v3 v4 : Value} (hd : decode mt.2.1 pc = .ok (.invokestatic idx, 3)) (hct : Ct y mt2 wr2 [v0, v1, v2, v3, v4] M F2) (hw : CS mt.1 idx y) (hcd : Cond.code y mt2.2.1 mt2.2.2.1 mt2.2.2.2.1 ∈ tbl) (hdn : Dn y 5) (hsh : mt2.2.2.2.2.2 = mt.2.2.2.2.2) (hdp : mt2.2.2.2.2.1 + 1 ≤ mt.2.2.2.2.1) (hmx : mt2.2.2.1 ≤ 40) (hst : (st.map fun v => v.category).sum ≤ 8) (hnr : nr wr2) (K : ∀ (r : R2) (N : Mem), J mt wr (pc + 3) lv ((wr2 r).toList ++ st) N (k r N)) : J mt wr pc lv (v4 :: v3 :: v2 :: v1 :: v0 :: st) M (bd F2 k) := j_callS (as := [v0, v1, v2, v3, v4]) hd hct hw hcd hdn rfl hsh hdp hmx hst hnr K
theorem j_callSN5 {R : Type} {mt : Mt} {wr : R → Option Value} {pc : Nat} {lv : List (Nat × Value)} {st : List Value} {M : Mem} {R2 : Type} {wr2 : R2 → Option Value} {mt2 : Mt} {F2 : Option (R2 × Mem)} {k : R2 → Mem → Option (R × Mem)} {y : MethodName} {idx : Nat} {v0 v1 v2 v3 v4 : Value} (hd : decode mt.2.1 pc = .ok (.invokestatic idx, 3)) (hct : Ct y mt2 wr2 [v0, v1, v2, v3, v4] M F2) (hw : CSN mt.1 idx y) (hcd : Cond.code y mt2.2.1 mt2.2.2.1 mt2.2.2.2.1 ∈ tbl) (hdn : Dn y 5) (hsh : mt2.2.2.2.2.2 = mt.2.2.2.2.2) (hdp : mt2.2.2.2.2.1 + 1 ≤ mt.2.2.2.2.1) (hmx : mt2.2.2.1 ≤ 40) (hst : (st.map fun v => v.category).sum ≤ 8) (hnr : nr wr2) (K : ∀ (r : R2) (N : Mem), J mt wr (pc + 3) lv ((wr2 r).toList ++ st) N (k r N)) : J mt wr pc lv (v4 :: v3 :: v2 :: v1 :: v0 :: st) M (bd F2 k) := j_callSN (as := [v0, v1, v2, v3, v4]) hd hct hw hcd hdn rfl hsh hdp hmx hst hnr K
end
section
/-! CONSTANTS of the methods: shapes, links, numbers (written by wip/gen/emit.py) -/
def SHx : Shp := [(8, [3, 5, 13, 18, 21, 28, 39, 42, 51, 0, 0]), (6, [4, 0]), (101, [320]), (7, [6, 11, 0, 0, 3, 12, 0, 0, 0, 0, 0, 0, 0, 0, 0]), (0, [0, 0, 7, 0, 8, 0, 9, 0, 10]), (100, [12]), (100, [16]), (100, [8]), (3, [1, 0]), (103, [6]), (3, [1, 0]), (0, [0, 0, 14, 0, 15, 0, 16, 0, 17]), (100, [12]), (100, [16]), (100, [8]), (3, [1, 0]), (2, [19, 0, 0, 20]), (103, [6]), (100, [6]), (104, [20, 23]), (2, [23, 0, 0, 24]), (103, [6]), (100, [6]), (2, [26, 0, 0, 27]), (103, [6]), (100, [6]), (4, [29, 30, 0, 0, 0, 31, 13, 18, 0, 0, 0, 0, 0]), (100, [6]), (100, [6]), (106, [30, 31, 32, 33, 34, 35, 36]), (103, [6]), (103, [6]), (103, [6]), (103, [6]), (103, [6]), (103, [6]), (103, [6]), (1, [40, 41, 13, 18]), (103, [1206]), (103, [6]), (105, [41, 43, 45, 47]), (5, [0, 0, 0, 44]), (100, [40]), (5, [0, 0, 0, 46]), (100, [40]), (5, [0, 0, 0, 48]), (100, [40]), (5, [0, 0, 0, 50]), (100, [40]), (103, [6])]
theorem sx_0 : SHx[0]? = some (8, [3, 5, 13, 18, 21, 28, 39, 42, 51, 0, 0]) := rfl
theorem sx_1 : SHx[1]? = some (6, [4, 0]) := rfl
theorem sx_2 : SHx[2]? = some (101, [320]) := rfl
theorem sx_3 : SHx[3]? = some (7, [6, 11, 0, 0, 3, 12, 0, 0, 0, 0, 0, 0, 0, 0, 0]) := rfl
theorem sx_4 : SHx[4]? = some (0, [0, 0, 7, 0, 8, 0, 9, 0, 10]) := rfl
theorem sx_5 : SHx[5]? = some (100, [12]) := rfl
theorem sx_6 : SHx[6]? = some (100, [16]) := rfl
theorem sx_7 : SHx[7]? = some (100, [8]) := rfl
theorem sx_8 : SHx[8]? = some (3, [1, 0]) := rfl
theorem sx_9 : SHx[9]? = some (103, [6]) := rfl
theorem sx_10 : SHx[10]? = some (3, [1, 0]) := rfl
theorem sx_11 : SHx[11]? = some (0, [0, 0, 14, 0, 15, 0, 16, 0, 17]) := rfl
theorem sx_12 : SHx[12]? = some (100, [12]) := rfl
theorem sx_13 : SHx[13]? = some (100, [16]) := rfl
theorem sx_14 : SHx[14]? = some (100, [8]) := rfl
theorem sx_15 : SHx[15]? = some (3, [1, 0]) := rfl
theorem sx_16 : SHx[16]? = some (2, [19, 0, 0, 20]) := rfl
theorem sx_17 : SHx[17]? = some (103, [6]) := rfl
theorem sx_18 : SHx[18]? = some (100, [6]) := rfl
theorem sx_19 : SHx[19]? = some (104, [20, 23]) := rfl
theorem sx_20 : SHx[20]? = some (2, [23, 0, 0, 24]) := rfl
theorem sx_21 : SHx[21]? = some (103, [6]) := rfl
theorem sx_22 : SHx[22]? = some (100, [6]) := rfl
theorem sx_23 : SHx[23]? = some (2, [26, 0, 0, 27]) := rfl
theorem sx_24 : SHx[24]? = some (103, [6]) := rfl
theorem sx_25 : SHx[25]? = some (100, [6]) := rfl
theorem sx_26 : SHx[26]? = some (4, [29, 30, 0, 0, 0, 31, 13, 18, 0, 0, 0, 0, 0]) := rfl
theorem sx_27 : SHx[27]? = some (100, [6]) := rfl
theorem sx_28 : SHx[28]? = some (100, [6]) := rfl
theorem sx_29 : SHx[29]? = some (106, [30, 31, 32, 33, 34, 35, 36]) := rfl
theorem sx_30 : SHx[30]? = some (103, [6]) := rfl
theorem sx_31 : SHx[31]? = some (103, [6]) := rfl
theorem sx_32 : SHx[32]? = some (103, [6]) := rfl
theorem sx_33 : SHx[33]? = some (103, [6]) := rfl
theorem sx_34 : SHx[34]? = some (103, [6]) := rfl
theorem sx_35 : SHx[35]? = some (103, [6]) := rfl
theorem sx_36 : SHx[36]? = some (103, [6]) := rfl
theorem sx_37 : SHx[37]? = some (1, [40, 41, 13, 18]) := rfl
theorem sx_38 : SHx[38]? = some (103, [1206]) := rfl
theorem sx_39 : SHx[39]? = some (103, [6]) := rfl
theorem sx_40 : SHx[40]? = some (105, [41, 43, 45, 47]) := rfl
theorem sx_41 : SHx[41]? = some (5, [0, 0, 0, 44]) := rfl
theorem sx_42 : SHx[42]? = some (100, [40]) := rfl
theorem sx_43 : SHx[43]? = some (5, [0, 0, 0, 46]) := rfl
theorem sx_44 : SHx[44]? = some (100, [40]) := rfl
theorem sx_45 : SHx[45]? = some (5, [0, 0, 0, 48]) := rfl
theorem sx_46 : SHx[46]? = some (100, [40]) := rfl
theorem sx_47 : SHx[47]? = some (5, [0, 0, 0, 50]) := rfl
theorem sx_48 : SHx[48]? = some (100, [40]) := rfl
theorem sx_49 : SHx[49]? = some (103, [6]) := rfl
def SHm : Shp := [(9, [3, 4, 0, 0, 0, 0, 0, 5, 6, 7, 8, 9, 0, 0, 0, 0, 0, 0, 10, 11, 12, 13, 14, 15, 0, 16, 0, 0, 0, 0, 0, 0, 0, 17, 18, 0, 19, 20, 0, 0, 0, 0, 0, 0, 0, 0, 21, 0, 22, 23, 24, 25, 26, 27, 0]), (100, [234]), (102, [2]), (100, [12]), (100, [16]), (100, [8]), (100, [15]), (100, [15]), (100, [12]), (100, [16]), (100, [8]), (100, [60]), (102, [6]), (102, [6]), (100, [320]), (100, [600]), (100, [18]), (100, [4]), (100, [4]), (100, [80]), (103, [1206]), (100, [6]), (100, [6]), (100, [4]), (100, [4]), (100, [160])]
theorem sm_0 : SHm[0]? = some (9, [3, 4, 0, 0, 0, 0, 0, 5, 6, 7, 8, 9, 0, 0, 0, 0, 0, 0, 10, 11, 12, 13, 14, 15, 0, 16, 0, 0, 0, 0, 0, 0, 0, 17, 18, 0, 19, 20, 0, 0, 0, 0, 0, 0, 0, 0, 21, 0, 22, 23, 24, 25, 26, 27, 0]) := rfl
theorem sm_1 : SHm[1]? = some (100, [234]) := rfl
theorem sm_2 : SHm[2]? = some (102, [2]) := rfl
theorem sm_3 : SHm[3]? = some (100, [12]) := rfl
theorem sm_4 : SHm[4]? = some (100, [16]) := rfl
theorem sm_5 : SHm[5]? = some (100, [8]) := rfl
theorem sm_6 : SHm[6]? = some (100, [15]) := rfl
theorem sm_7 : SHm[7]? = some (100, [15]) := rfl
theorem sm_8 : SHm[8]? = some (100, [12]) := rfl
theorem sm_9 : SHm[9]? = some (100, [16]) := rfl
theorem sm_10 : SHm[10]? = some (100, [8]) := rfl
theorem sm_11 : SHm[11]? = some (100, [60]) := rfl
theorem sm_12 : SHm[12]? = some (102, [6]) := rfl
theorem sm_13 : SHm[13]? = some (102, [6]) := rfl
theorem sm_14 : SHm[14]? = some (100, [320]) := rfl
theorem sm_15 : SHm[15]? = some (100, [600]) := rfl
theorem sm_16 : SHm[16]? = some (100, [18]) := rfl
theorem sm_17 : SHm[17]? = some (100, [4]) := rfl
theorem sm_18 : SHm[18]? = some (100, [4]) := rfl
theorem sm_19 : SHm[19]? = some (100, [80]) := rfl
theorem sm_20 : SHm[20]? = some (103, [1206]) := rfl
theorem sm_21 : SHm[21]? = some (100, [6]) := rfl
theorem sm_22 : SHm[22]? = some (100, [6]) := rfl
theorem sm_23 : SHm[23]? = some (100, [4]) := rfl
theorem sm_24 : SHm[24]? = some (100, [4]) := rfl
theorem sm_25 : SHm[25]? = some (100, [160]) := rfl
theorem k_i_m8 : Int32.ofInt (-8) = (-8) := by decide
theorem k_i_m1 : Int32.ofInt (-1) = (-1) := by decide
theorem k_i_0 : Int32.ofInt 0 = 0 := by decide
theorem k_i_1 : Int32.ofInt 1 = 1 := by decide
theorem k_i_2 : Int32.ofInt 2 = 2 := by decide
theorem k_i_3 : Int32.ofInt 3 = 3 := by decide
theorem k_i_4 : Int32.ofInt 4 = 4 := by decide
theorem k_i_5 : Int32.ofInt 5 = 5 := by decide
theorem k_b_m20 : (Int8.ofInt (-20)).toInt32 = (-20) := by decide
theorem k_b_m14 : (Int8.ofInt (-14)).toInt32 = (-14) := by decide
theorem k_b_m12 : (Int8.ofInt (-12)).toInt32 = (-12) := by decide
theorem k_b_m11 : (Int8.ofInt (-11)).toInt32 = (-11) := by decide
theorem k_b_m10 : (Int8.ofInt (-10)).toInt32 = (-10) := by decide
theorem k_b_m4 : (Int8.ofInt (-4)).toInt32 = (-4) := by decide
theorem k_b_m3 : (Int8.ofInt (-3)).toInt32 = (-3) := by decide
theorem k_b_m2 : (Int8.ofInt (-2)).toInt32 = (-2) := by decide
theorem k_b_6 : (Int8.ofInt 6).toInt32 = 6 := by decide
theorem k_b_7 : (Int8.ofInt 7).toInt32 = 7 := by decide
theorem k_b_8 : (Int8.ofInt 8).toInt32 = 8 := by decide
theorem k_b_9 : (Int8.ofInt 9).toInt32 = 9 := by decide
theorem k_b_10 : (Int8.ofInt 10).toInt32 = 10 := by decide
theorem k_b_12 : (Int8.ofInt 12).toInt32 = 12 := by decide
theorem k_b_14 : (Int8.ofInt 14).toInt32 = 14 := by decide
theorem k_b_15 : (Int8.ofInt 15).toInt32 = 15 := by decide
theorem k_b_16 : (Int8.ofInt 16).toInt32 = 16 := by decide
theorem k_b_20 : (Int8.ofInt 20).toInt32 = 20 := by decide
theorem k_b_32 : (Int8.ofInt 32).toInt32 = 32 := by decide
theorem k_b_36 : (Int8.ofInt 36).toInt32 = 36 := by decide
theorem k_b_40 : (Int8.ofInt 40).toInt32 = 40 := by decide
theorem k_b_48 : (Int8.ofInt 48).toInt32 = 48 := by decide
theorem k_b_56 : (Int8.ofInt 56).toInt32 = 56 := by decide
theorem k_b_57 : (Int8.ofInt 57).toInt32 = 57 := by decide
theorem k_b_59 : (Int8.ofInt 59).toInt32 = 59 := by decide
theorem k_b_60 : (Int8.ofInt 60).toInt32 = 60 := by decide
theorem k_b_63 : (Int8.ofInt 63).toInt32 = 63 := by decide
theorem k_b_66 : (Int8.ofInt 66).toInt32 = 66 := by decide
theorem k_b_72 : (Int8.ofInt 72).toInt32 = 72 := by decide
theorem k_b_78 : (Int8.ofInt 78).toInt32 = 78 := by decide
theorem k_b_97 : (Int8.ofInt 97).toInt32 = 97 := by decide
theorem k_b_99 : (Int8.ofInt 99).toInt32 = 99 := by decide
theorem k_b_100 : (Int8.ofInt 100).toInt32 = 100 := by decide
theorem k_b_101 : (Int8.ofInt 101).toInt32 = 101 := by decide
theorem k_b_103 : (Int8.ofInt 103).toInt32 = 103 := by decide
theorem k_b_104 : (Int8.ofInt 104).toInt32 = 104 := by decide
theorem k_b_105 : (Int8.ofInt 105).toInt32 = 105 := by decide
theorem k_b_106 : (Int8.ofInt 106).toInt32 = 106 := by decide
theorem k_b_107 : (Int8.ofInt 107).toInt32 = 107 := by decide
theorem k_b_108 : (Int8.ofInt 108).toInt32 = 108 := by decide
theorem k_b_110 : (Int8.ofInt 110).toInt32 = 110 := by decide
theorem k_b_111 : (Int8.ofInt 111).toInt32 = 111 := by decide
theorem k_b_112 : (Int8.ofInt 112).toInt32 = 112 := by decide
theorem k_b_115 : (Int8.ofInt 115).toInt32 = 115 := by decide
theorem k_b_118 : (Int8.ofInt 118).toInt32 = 118 := by decide
theorem k_b_119 : (Int8.ofInt 119).toInt32 = 119 := by decide
theorem k_b_121 : (Int8.ofInt 121).toInt32 = 121 := by decide
theorem k_b_122 : (Int8.ofInt 122).toInt32 = 122 := by decide
theorem k_s_200 : (Int16.ofInt 200).toInt32 = 200 := by decide
theorem k_s_312 : (Int16.ofInt 312).toInt32 = 312 := by decide
theorem k_s_320 : (Int16.ofInt 320).toInt32 = 320 := by decide
theorem k_s_32767 : (Int16.ofInt 32767).toInt32 = 32767 := by decide
theorem k_l_0 : Int64.ofNat ((0 : Fin 2) : Nat) = 0 := by decide
theorem k_l_1 : Int64.ofNat ((1 : Fin 2) : Nat) = 1 := by decide
theorem fl_ShakeHands_10 : Fl "ShakeHands" 10 8 0 (.object "ShakeHands$Tape") true := ⟨R_ShakeHands, F_ShakeHands, 11, t_ShakeHands, rfl, by decide, i_ShakeHands, tbl_in 295 (by decide +kernel) rfl, rfl, t_ShakeHands_ok, n_ShakeHands, by decide +kernel, rfl⟩
theorem fl_ShakeHands_21 : Fl "ShakeHands" 21 8 1 (.object "ShakeHands$Teller") true := ⟨R_ShakeHands, F_ShakeHands, 11, t_ShakeHands, rfl, by decide, i_ShakeHands, tbl_in 296 (by decide +kernel) rfl, rfl, t_ShakeHands_ok, n_ShakeHands, by decide +kernel, rfl⟩
theorem fl_ShakeHands_28 : Fl "ShakeHands" 28 8 2 (.object "ShakeHands$Circle") true := ⟨R_ShakeHands, F_ShakeHands, 11, t_ShakeHands, rfl, by decide, i_ShakeHands, tbl_in 297 (by decide +kernel) rfl, rfl, t_ShakeHands_ok, n_ShakeHands, by decide +kernel, rfl⟩
theorem fl_ShakeHands_35 : Fl "ShakeHands" 35 8 3 (.object "ShakeHands$Minds") true := ⟨R_ShakeHands, F_ShakeHands, 11, t_ShakeHands, rfl, by decide, i_ShakeHands, tbl_in 298 (by decide +kernel) rfl, rfl, t_ShakeHands_ok, n_ShakeHands, by decide +kernel, rfl⟩
theorem fl_ShakeHands_39 : Fl "ShakeHands" 39 8 4 (.array (.object "ShakeHands$Minds")) true := ⟨R_ShakeHands, F_ShakeHands, 11, t_ShakeHands, rfl, by decide, i_ShakeHands, tbl_in 299 (by decide +kernel) rfl, rfl, t_ShakeHands_ok, n_ShakeHands, by decide +kernel, rfl⟩
theorem fl_ShakeHands_48 : Fl "ShakeHands" 48 8 5 (.object "ShakeHands$Search") true := ⟨R_ShakeHands, F_ShakeHands, 11, t_ShakeHands, rfl, by decide, i_ShakeHands, tbl_in 300 (by decide +kernel) rfl, rfl, t_ShakeHands_ok, n_ShakeHands, by decide +kernel, rfl⟩
theorem fl_ShakeHands_55 : Fl "ShakeHands" 55 8 6 (.object "ShakeHands$Habit") true := ⟨R_ShakeHands, F_ShakeHands, 11, t_ShakeHands, rfl, by decide, i_ShakeHands, tbl_in 301 (by decide +kernel) rfl, rfl, t_ShakeHands_ok, n_ShakeHands, by decide +kernel, rfl⟩
theorem fl_ShakeHands_61 : Fl "ShakeHands" 61 8 7 (.array (.object "ShakeHands$Sheet")) true := ⟨R_ShakeHands, F_ShakeHands, 11, t_ShakeHands, rfl, by decide, i_ShakeHands, tbl_in 302 (by decide +kernel) rfl, rfl, t_ShakeHands_ok, n_ShakeHands, by decide +kernel, rfl⟩
theorem fl_ShakeHands_66 : Fl "ShakeHands" 66 8 8 (.array .long) true := ⟨R_ShakeHands, F_ShakeHands, 11, t_ShakeHands, rfl, by decide, i_ShakeHands, tbl_in 303 (by decide +kernel) rfl, rfl, t_ShakeHands_ok, n_ShakeHands, by decide +kernel, rfl⟩
theorem fl_ShakeHands_74 : Fl "ShakeHands" 74 6 1 (.int) false := ⟨R_Tape, F_Tape, 2, t_Tape, rfl, by decide, i_Tape, tbl_in 36 (by decide +kernel) rfl, rfl, t_Tape_ok, n_Tape, by decide +kernel, rfl⟩
theorem fl_ShakeHands_82 : Fl "ShakeHands" 82 7 3 (.int) false := ⟨R_Teller, F_Teller, 15, t_Teller, rfl, by decide, i_Teller, tbl_in 125 (by decide +kernel) rfl, rfl, t_Teller_ok, n_Teller, by decide +kernel, rfl⟩
theorem fl_ShakeHands_85 : Fl "ShakeHands" 85 7 0 (.object "ShakeHands$Circle") true := ⟨R_Teller, F_Teller, 15, t_Teller, rfl, by decide, i_Teller, tbl_in 119 (by decide +kernel) rfl, rfl, t_Teller_ok, n_Teller, by decide +kernel, rfl⟩
theorem fl_ShakeHands_90 : Fl "ShakeHands" 90 7 1 (.array .long) true := ⟨R_Teller, F_Teller, 15, t_Teller, rfl, by decide, i_Teller, tbl_in 121 (by decide +kernel) rfl, rfl, t_Teller_ok, n_Teller, by decide +kernel, rfl⟩
theorem fl_ShakeHands_93 : Fl "ShakeHands" 93 2 0 (.array .long) true := ⟨R_Minds, F_Minds, 4, t_Minds, rfl, by decide, i_Minds, tbl_in 180 (by decide +kernel) rfl, rfl, t_Minds_ok, n_Minds, by decide +kernel, rfl⟩
theorem fl_ShakeHands_100 : Fl "ShakeHands" 100 7 2 (.int) false := ⟨R_Teller, F_Teller, 15, t_Teller, rfl, by decide, i_Teller, tbl_in 123 (by decide +kernel) rfl, rfl, t_Teller_ok, n_Teller, by decide +kernel, rfl⟩
theorem fl_ShakeHands_103 : Fl "ShakeHands" 103 2 1 (.int) false := ⟨R_Minds, F_Minds, 4, t_Minds, rfl, by decide, i_Minds, tbl_in 183 (by decide +kernel) rfl, rfl, t_Minds_ok, n_Minds, by decide +kernel, rfl⟩
theorem fl_ShakeHands_104 : Fl "ShakeHands" 104 2 2 (.int) false := ⟨R_Minds, F_Minds, 4, t_Minds, rfl, by decide, i_Minds, tbl_in 186 (by decide +kernel) rfl, rfl, t_Minds_ok, n_Minds, by decide +kernel, rfl⟩
theorem fl_ShakeHands_107 : Fl "ShakeHands" 107 8 9 (.int) false := ⟨R_ShakeHands, F_ShakeHands, 11, t_ShakeHands, rfl, by decide, i_ShakeHands, tbl_in 304 (by decide +kernel) rfl, rfl, t_ShakeHands_ok, n_ShakeHands, by decide +kernel, rfl⟩
theorem fl_ShakeHands_110 : Fl "ShakeHands" 110 0 0 (.int) false := ⟨R_Circle, F_Circle, 9, t_Circle, rfl, by decide, i_Circle, tbl_in 74 (by decide +kernel) rfl, rfl, t_Circle_ok, n_Circle, by decide +kernel, rfl⟩
theorem fl_ShakeHands_113 : Fl "ShakeHands" 113 0 1 (.int) false := ⟨R_Circle, F_Circle, 9, t_Circle, rfl, by decide, i_Circle, tbl_in 77 (by decide +kernel) rfl, rfl, t_Circle_ok, n_Circle, by decide +kernel, rfl⟩
theorem fl_ShakeHands_116 : Fl "ShakeHands" 116 0 3 (.int) false := ⟨R_Circle, F_Circle, 9, t_Circle, rfl, by decide, i_Circle, tbl_in 82 (by decide +kernel) rfl, rfl, t_Circle_ok, n_Circle, by decide +kernel, rfl⟩
theorem fl_ShakeHands_119 : Fl "ShakeHands" 119 0 5 (.int) false := ⟨R_Circle, F_Circle, 9, t_Circle, rfl, by decide, i_Circle, tbl_in 88 (by decide +kernel) rfl, rfl, t_Circle_ok, n_Circle, by decide +kernel, rfl⟩
theorem fl_ShakeHands_122 : Fl "ShakeHands" 122 0 7 (.int) false := ⟨R_Circle, F_Circle, 9, t_Circle, rfl, by decide, i_Circle, tbl_in 94 (by decide +kernel) rfl, rfl, t_Circle_ok, n_Circle, by decide +kernel, rfl⟩
theorem fl_ShakeHands_131 : Fl "ShakeHands" 131 0 6 (.array .int) true := ⟨R_Circle, F_Circle, 9, t_Circle, rfl, by decide, i_Circle, tbl_in 91 (by decide +kernel) rfl, rfl, t_Circle_ok, n_Circle, by decide +kernel, rfl⟩
theorem fl_ShakeHands_135 : Fl "ShakeHands" 135 0 4 (.array .int) true := ⟨R_Circle, F_Circle, 9, t_Circle, rfl, by decide, i_Circle, tbl_in 85 (by decide +kernel) rfl, rfl, t_Circle_ok, n_Circle, by decide +kernel, rfl⟩
theorem fl_ShakeHands_138 : Fl "ShakeHands" 138 0 2 (.array .int) true := ⟨R_Circle, F_Circle, 9, t_Circle, rfl, by decide, i_Circle, tbl_in 79 (by decide +kernel) rfl, rfl, t_Circle_ok, n_Circle, by decide +kernel, rfl⟩
theorem fl_ShakeHands_218 : Fl "ShakeHands" 218 4 0 (.array .int) true := ⟨R_Search, F_Search, 13, t_Search, rfl, by decide, i_Search, tbl_in 210 (by decide +kernel) rfl, rfl, t_Search_ok, n_Search, by decide +kernel, rfl⟩
theorem fl_ShakeHands_239 : Fl "ShakeHands" 239 2 3 (.array .int) true := ⟨R_Minds, F_Minds, 4, t_Minds, rfl, by decide, i_Minds, tbl_in 190 (by decide +kernel) rfl, rfl, t_Minds_ok, n_Minds, by decide +kernel, rfl⟩
theorem fl_ShakeHands_246 : Fl "ShakeHands" 246 4 2 (.int) false := ⟨R_Search, F_Search, 13, t_Search, rfl, by decide, i_Search, tbl_in 214 (by decide +kernel) rfl, rfl, t_Search_ok, n_Search, by decide +kernel, rfl⟩
theorem fl_ShakeHands_249 : Fl "ShakeHands" 249 4 3 (.int) false := ⟨R_Search, F_Search, 13, t_Search, rfl, by decide, i_Search, tbl_in 216 (by decide +kernel) rfl, rfl, t_Search_ok, n_Search, by decide +kernel, rfl⟩
theorem fl_ShakeHands_252 : Fl "ShakeHands" 252 4 4 (.int) false := ⟨R_Search, F_Search, 13, t_Search, rfl, by decide, i_Search, tbl_in 218 (by decide +kernel) rfl, rfl, t_Search_ok, n_Search, by decide +kernel, rfl⟩
theorem fl_ShakeHands_258 : Fl "ShakeHands" 258 4 1 (.array .int) true := ⟨R_Search, F_Search, 13, t_Search, rfl, by decide, i_Search, tbl_in 212 (by decide +kernel) rfl, rfl, t_Search_ok, n_Search, by decide +kernel, rfl⟩
theorem fl_ShakeHands_292 : Fl "ShakeHands" 292 8 10 (.int) false := ⟨R_ShakeHands, F_ShakeHands, 11, t_ShakeHands, rfl, by decide, i_ShakeHands, tbl_in 305 (by decide +kernel) rfl, rfl, t_ShakeHands_ok, n_ShakeHands, by decide +kernel, rfl⟩
theorem fl_ShakeHands_298 : Fl "ShakeHands" 298 5 0 (.boolean) false := ⟨R_Sheet, F_Sheet, 4, t_Sheet, rfl, by decide, i_Sheet, tbl_in 281 (by decide +kernel) rfl, rfl, t_Sheet_ok, n_Sheet, by decide +kernel, rfl⟩
theorem fl_ShakeHands_302 : Fl "ShakeHands" 302 5 1 (.int) false := ⟨R_Sheet, F_Sheet, 4, t_Sheet, rfl, by decide, i_Sheet, tbl_in 283 (by decide +kernel) rfl, rfl, t_Sheet_ok, n_Sheet, by decide +kernel, rfl⟩
theorem fl_Circle_13 : Fl "ShakeHands$Circle" 13 0 0 (.int) false := ⟨R_Circle, F_Circle, 9, t_Circle, rfl, by decide, i_Circle, tbl_in 71 (by decide +kernel) rfl, rfl, t_Circle_ok, n_Circle, by decide +kernel, rfl⟩
theorem fl_Circle_17 : Fl "ShakeHands$Circle" 17 0 1 (.int) false := ⟨R_Circle, F_Circle, 9, t_Circle, rfl, by decide, i_Circle, tbl_in 75 (by decide +kernel) rfl, rfl, t_Circle_ok, n_Circle, by decide +kernel, rfl⟩
theorem fl_Circle_20 : Fl "ShakeHands$Circle" 20 0 2 (.array .int) true := ⟨R_Circle, F_Circle, 9, t_Circle, rfl, by decide, i_Circle, tbl_in 78 (by decide +kernel) rfl, rfl, t_Circle_ok, n_Circle, by decide +kernel, rfl⟩
theorem fl_Circle_24 : Fl "ShakeHands$Circle" 24 0 4 (.array .int) true := ⟨R_Circle, F_Circle, 9, t_Circle, rfl, by decide, i_Circle, tbl_in 84 (by decide +kernel) rfl, rfl, t_Circle_ok, n_Circle, by decide +kernel, rfl⟩
theorem fl_Circle_27 : Fl "ShakeHands$Circle" 27 0 6 (.array .int) true := ⟨R_Circle, F_Circle, 9, t_Circle, rfl, by decide, i_Circle, tbl_in 90 (by decide +kernel) rfl, rfl, t_Circle_ok, n_Circle, by decide +kernel, rfl⟩
theorem fl_Circle_31 : Fl "ShakeHands$Circle" 31 0 8 (.object "ShakeHands$Row") true := ⟨R_Circle, F_Circle, 9, t_Circle, rfl, by decide, i_Circle, tbl_in 96 (by decide +kernel) rfl, rfl, t_Circle_ok, n_Circle, by decide +kernel, rfl⟩
theorem fl_Circle_35 : Fl "ShakeHands$Circle" 35 0 3 (.int) false := ⟨R_Circle, F_Circle, 9, t_Circle, rfl, by decide, i_Circle, tbl_in 81 (by decide +kernel) rfl, rfl, t_Circle_ok, n_Circle, by decide +kernel, rfl⟩
theorem fl_Circle_38 : Fl "ShakeHands$Circle" 38 0 5 (.int) false := ⟨R_Circle, F_Circle, 9, t_Circle, rfl, by decide, i_Circle, tbl_in 87 (by decide +kernel) rfl, rfl, t_Circle_ok, n_Circle, by decide +kernel, rfl⟩
theorem fl_Circle_41 : Fl "ShakeHands$Circle" 41 0 7 (.int) false := ⟨R_Circle, F_Circle, 9, t_Circle, rfl, by decide, i_Circle, tbl_in 93 (by decide +kernel) rfl, rfl, t_Circle_ok, n_Circle, by decide +kernel, rfl⟩
theorem fl_Circle_88 : Fl "ShakeHands$Circle" 88 3 1 (.int) false := ⟨R_Row, F_Row, 2, t_Row, rfl, by decide, i_Row, tbl_in 63 (by decide +kernel) rfl, rfl, t_Row_ok, n_Row, by decide +kernel, rfl⟩
theorem fl_Habit_11 : Fl "ShakeHands$Habit" 11 1 0 (.array .long) true := ⟨R_Habit, F_Habit, 4, t_Habit, rfl, by decide, i_Habit, tbl_in 260 (by decide +kernel) rfl, rfl, t_Habit_ok, n_Habit, by decide +kernel, rfl⟩
theorem fl_Habit_15 : Fl "ShakeHands$Habit" 15 1 1 (.array .long) true := ⟨R_Habit, F_Habit, 4, t_Habit, rfl, by decide, i_Habit, tbl_in 261 (by decide +kernel) rfl, rfl, t_Habit_ok, n_Habit, by decide +kernel, rfl⟩
theorem fl_Habit_18 : Fl "ShakeHands$Habit" 18 1 2 (.object "ShakeHands$Circle") true := ⟨R_Habit, F_Habit, 4, t_Habit, rfl, by decide, i_Habit, tbl_in 262 (by decide +kernel) rfl, rfl, t_Habit_ok, n_Habit, by decide +kernel, rfl⟩
theorem fl_Habit_22 : Fl "ShakeHands$Habit" 22 1 3 (.object "ShakeHands$Minds") true := ⟨R_Habit, F_Habit, 4, t_Habit, rfl, by decide, i_Habit, tbl_in 263 (by decide +kernel) rfl, rfl, t_Habit_ok, n_Habit, by decide +kernel, rfl⟩
theorem fl_Habit_26 : Fl "ShakeHands$Habit" 26 2 0 (.array .long) true := ⟨R_Minds, F_Minds, 4, t_Minds, rfl, by decide, i_Minds, tbl_in 178 (by decide +kernel) rfl, rfl, t_Minds_ok, n_Minds, by decide +kernel, rfl⟩
theorem fl_Habit_39 : Fl "ShakeHands$Habit" 39 2 1 (.int) false := ⟨R_Minds, F_Minds, 4, t_Minds, rfl, by decide, i_Minds, tbl_in 182 (by decide +kernel) rfl, rfl, t_Minds_ok, n_Minds, by decide +kernel, rfl⟩
theorem fl_Minds_9 : Fl "ShakeHands$Minds" 9 2 0 (.array .long) true := ⟨R_Minds, F_Minds, 4, t_Minds, rfl, by decide, i_Minds, tbl_in 177 (by decide +kernel) rfl, rfl, t_Minds_ok, n_Minds, by decide +kernel, rfl⟩
theorem fl_Minds_15 : Fl "ShakeHands$Minds" 15 2 3 (.array .int) true := ⟨R_Minds, F_Minds, 4, t_Minds, rfl, by decide, i_Minds, tbl_in 188 (by decide +kernel) rfl, rfl, t_Minds_ok, n_Minds, by decide +kernel, rfl⟩
theorem fl_Minds_25 : Fl "ShakeHands$Minds" 25 2 1 (.int) false := ⟨R_Minds, F_Minds, 4, t_Minds, rfl, by decide, i_Minds, tbl_in 181 (by decide +kernel) rfl, rfl, t_Minds_ok, n_Minds, by decide +kernel, rfl⟩
theorem fl_Minds_29 : Fl "ShakeHands$Minds" 29 2 2 (.int) false := ⟨R_Minds, F_Minds, 4, t_Minds, rfl, by decide, i_Minds, tbl_in 185 (by decide +kernel) rfl, rfl, t_Minds_ok, n_Minds, by decide +kernel, rfl⟩
theorem fl_Row_17 : Fl "ShakeHands$Row" 17 3 0 (.long) false := ⟨R_Row, F_Row, 2, t_Row, rfl, by decide, i_Row, tbl_in 61 (by decide +kernel) rfl, rfl, t_Row_ok, n_Row, by decide +kernel, rfl⟩
theorem fl_Row_21 : Fl "ShakeHands$Row" 21 3 1 (.int) false := ⟨R_Row, F_Row, 2, t_Row, rfl, by decide, i_Row, tbl_in 62 (by decide +kernel) rfl, rfl, t_Row_ok, n_Row, by decide +kernel, rfl⟩
theorem fl_Search_11 : Fl "ShakeHands$Search" 11 4 0 (.array .int) true := ⟨R_Search, F_Search, 13, t_Search, rfl, by decide, i_Search, tbl_in 209 (by decide +kernel) rfl, rfl, t_Search_ok, n_Search, by decide +kernel, rfl⟩
theorem fl_Search_15 : Fl "ShakeHands$Search" 15 4 1 (.array .int) true := ⟨R_Search, F_Search, 13, t_Search, rfl, by decide, i_Search, tbl_in 211 (by decide +kernel) rfl, rfl, t_Search_ok, n_Search, by decide +kernel, rfl⟩
theorem fl_Search_20 : Fl "ShakeHands$Search" 20 4 5 (.array (.array .long)) true := ⟨R_Search, F_Search, 13, t_Search, rfl, by decide, i_Search, tbl_in 219 (by decide +kernel) rfl, rfl, t_Search_ok, n_Search, by decide +kernel, rfl⟩
theorem fl_Search_23 : Fl "ShakeHands$Search" 23 4 6 (.object "ShakeHands$Circle") true := ⟨R_Search, F_Search, 13, t_Search, rfl, by decide, i_Search, tbl_in 220 (by decide +kernel) rfl, rfl, t_Search_ok, n_Search, by decide +kernel, rfl⟩
theorem fl_Search_27 : Fl "ShakeHands$Search" 27 4 7 (.object "ShakeHands$Minds") true := ⟨R_Search, F_Search, 13, t_Search, rfl, by decide, i_Search, tbl_in 221 (by decide +kernel) rfl, rfl, t_Search_ok, n_Search, by decide +kernel, rfl⟩
theorem fl_Search_31 : Fl "ShakeHands$Search" 31 0 0 (.int) false := ⟨R_Circle, F_Circle, 9, t_Circle, rfl, by decide, i_Circle, tbl_in 72 (by decide +kernel) rfl, rfl, t_Circle_ok, n_Circle, by decide +kernel, rfl⟩
theorem fl_Search_37 : Fl "ShakeHands$Search" 37 4 8 (.int) false := ⟨R_Search, F_Search, 13, t_Search, rfl, by decide, i_Search, tbl_in 222 (by decide +kernel) rfl, rfl, t_Search_ok, n_Search, by decide +kernel, rfl⟩
theorem fl_Search_40 : Fl "ShakeHands$Search" 40 2 0 (.array .long) true := ⟨R_Minds, F_Minds, 4, t_Minds, rfl, by decide, i_Minds, tbl_in 179 (by decide +kernel) rfl, rfl, t_Minds_ok, n_Minds, by decide +kernel, rfl⟩
theorem fl_Search_52 : Fl "ShakeHands$Search" 52 4 9 (.int) false := ⟨R_Search, F_Search, 13, t_Search, rfl, by decide, i_Search, tbl_in 223 (by decide +kernel) rfl, rfl, t_Search_ok, n_Search, by decide +kernel, rfl⟩
theorem fl_Search_55 : Fl "ShakeHands$Search" 55 4 10 (.int) false := ⟨R_Search, F_Search, 13, t_Search, rfl, by decide, i_Search, tbl_in 224 (by decide +kernel) rfl, rfl, t_Search_ok, n_Search, by decide +kernel, rfl⟩
theorem fl_Search_58 : Fl "ShakeHands$Search" 58 4 11 (.int) false := ⟨R_Search, F_Search, 13, t_Search, rfl, by decide, i_Search, tbl_in 225 (by decide +kernel) rfl, rfl, t_Search_ok, n_Search, by decide +kernel, rfl⟩
theorem fl_Search_61 : Fl "ShakeHands$Search" 61 4 12 (.int) false := ⟨R_Search, F_Search, 13, t_Search, rfl, by decide, i_Search, tbl_in 226 (by decide +kernel) rfl, rfl, t_Search_ok, n_Search, by decide +kernel, rfl⟩
theorem fl_Search_80 : Fl "ShakeHands$Search" 80 4 2 (.int) false := ⟨R_Search, F_Search, 13, t_Search, rfl, by decide, i_Search, tbl_in 213 (by decide +kernel) rfl, rfl, t_Search_ok, n_Search, by decide +kernel, rfl⟩
theorem fl_Search_83 : Fl "ShakeHands$Search" 83 4 3 (.int) false := ⟨R_Search, F_Search, 13, t_Search, rfl, by decide, i_Search, tbl_in 215 (by decide +kernel) rfl, rfl, t_Search_ok, n_Search, by decide +kernel, rfl⟩
theorem fl_Search_86 : Fl "ShakeHands$Search" 86 4 4 (.int) false := ⟨R_Search, F_Search, 13, t_Search, rfl, by decide, i_Search, tbl_in 217 (by decide +kernel) rfl, rfl, t_Search_ok, n_Search, by decide +kernel, rfl⟩
theorem fl_Search_101 : Fl "ShakeHands$Search" 101 2 2 (.int) false := ⟨R_Minds, F_Minds, 4, t_Minds, rfl, by decide, i_Minds, tbl_in 187 (by decide +kernel) rfl, rfl, t_Minds_ok, n_Minds, by decide +kernel, rfl⟩
theorem fl_Search_110 : Fl "ShakeHands$Search" 110 2 3 (.array .int) true := ⟨R_Minds, F_Minds, 4, t_Minds, rfl, by decide, i_Minds, tbl_in 189 (by decide +kernel) rfl, rfl, t_Minds_ok, n_Minds, by decide +kernel, rfl⟩
theorem fl_Search_125 : Fl "ShakeHands$Search" 125 2 1 (.int) false := ⟨R_Minds, F_Minds, 4, t_Minds, rfl, by decide, i_Minds, tbl_in 184 (by decide +kernel) rfl, rfl, t_Minds_ok, n_Minds, by decide +kernel, rfl⟩
theorem fl_Sheet_9 : Fl "ShakeHands$Sheet" 9 5 3 (.array .int) true := ⟨R_Sheet, F_Sheet, 4, t_Sheet, rfl, by decide, i_Sheet, tbl_in 285 (by decide +kernel) rfl, rfl, t_Sheet_ok, n_Sheet, by decide +kernel, rfl⟩
theorem fl_Sheet_13 : Fl "ShakeHands$Sheet" 13 5 0 (.boolean) false := ⟨R_Sheet, F_Sheet, 4, t_Sheet, rfl, by decide, i_Sheet, tbl_in 280 (by decide +kernel) rfl, rfl, t_Sheet_ok, n_Sheet, by decide +kernel, rfl⟩
theorem fl_Sheet_17 : Fl "ShakeHands$Sheet" 17 5 2 (.int) false := ⟨R_Sheet, F_Sheet, 4, t_Sheet, rfl, by decide, i_Sheet, tbl_in 284 (by decide +kernel) rfl, rfl, t_Sheet_ok, n_Sheet, by decide +kernel, rfl⟩
theorem fl_Sheet_21 : Fl "ShakeHands$Sheet" 21 5 1 (.int) false := ⟨R_Sheet, F_Sheet, 4, t_Sheet, rfl, by decide, i_Sheet, tbl_in 282 (by decide +kernel) rfl, rfl, t_Sheet_ok, n_Sheet, by decide +kernel, rfl⟩
theorem fl_Tape_9 : Fl "ShakeHands$Tape" 9 6 0 (.array .byte) true := ⟨R_Tape, F_Tape, 2, t_Tape, rfl, by decide, i_Tape, tbl_in 32 (by decide +kernel) rfl, rfl, t_Tape_ok, n_Tape, by decide +kernel, rfl⟩
theorem fl_Tape_13 : Fl "ShakeHands$Tape" 13 6 1 (.int) false := ⟨R_Tape, F_Tape, 2, t_Tape, rfl, by decide, i_Tape, tbl_in 34 (by decide +kernel) rfl, rfl, t_Tape_ok, n_Tape, by decide +kernel, rfl⟩
theorem fl_Teller_12 : Fl "ShakeHands$Teller" 12 7 0 (.object "ShakeHands$Circle") true := ⟨R_Teller, F_Teller, 15, t_Teller, rfl, by decide, i_Teller, tbl_in 118 (by decide +kernel) rfl, rfl, t_Teller_ok, n_Teller, by decide +kernel, rfl⟩
theorem fl_Teller_18 : Fl "ShakeHands$Teller" 18 7 1 (.array .long) true := ⟨R_Teller, F_Teller, 15, t_Teller, rfl, by decide, i_Teller, tbl_in 120 (by decide +kernel) rfl, rfl, t_Teller_ok, n_Teller, by decide +kernel, rfl⟩
theorem fl_Teller_25 : Fl "ShakeHands$Teller" 25 7 5 (.object "ShakeHands$Row") true := ⟨R_Teller, F_Teller, 15, t_Teller, rfl, by decide, i_Teller, tbl_in 127 (by decide +kernel) rfl, rfl, t_Teller_ok, n_Teller, by decide +kernel, rfl⟩
theorem fl_Teller_29 : Fl "ShakeHands$Teller" 29 7 4 (.object "ShakeHands$Tape") true := ⟨R_Teller, F_Teller, 15, t_Teller, rfl, by decide, i_Teller, tbl_in 126 (by decide +kernel) rfl, rfl, t_Teller_ok, n_Teller, by decide +kernel, rfl⟩
theorem fl_Teller_36 : Fl "ShakeHands$Teller" 36 6 1 (.int) false := ⟨R_Tape, F_Tape, 2, t_Tape, rfl, by decide, i_Tape, tbl_in 35 (by decide +kernel) rfl, rfl, t_Tape_ok, n_Tape, by decide +kernel, rfl⟩
theorem fl_Teller_45 : Fl "ShakeHands$Teller" 45 7 3 (.int) false := ⟨R_Teller, F_Teller, 15, t_Teller, rfl, by decide, i_Teller, tbl_in 124 (by decide +kernel) rfl, rfl, t_Teller_ok, n_Teller, by decide +kernel, rfl⟩
theorem fl_Teller_48 : Fl "ShakeHands$Teller" 48 7 7 (.int) false := ⟨R_Teller, F_Teller, 15, t_Teller, rfl, by decide, i_Teller, tbl_in 129 (by decide +kernel) rfl, rfl, t_Teller_ok, n_Teller, by decide +kernel, rfl⟩
theorem fl_Teller_57 : Fl "ShakeHands$Teller" 57 7 8 (.int) false := ⟨R_Teller, F_Teller, 15, t_Teller, rfl, by decide, i_Teller, tbl_in 130 (by decide +kernel) rfl, rfl, t_Teller_ok, n_Teller, by decide +kernel, rfl⟩
theorem fl_Teller_63 : Fl "ShakeHands$Teller" 63 7 2 (.int) false := ⟨R_Teller, F_Teller, 15, t_Teller, rfl, by decide, i_Teller, tbl_in 122 (by decide +kernel) rfl, rfl, t_Teller_ok, n_Teller, by decide +kernel, rfl⟩
theorem fl_Teller_66 : Fl "ShakeHands$Teller" 66 7 6 (.int) false := ⟨R_Teller, F_Teller, 15, t_Teller, rfl, by decide, i_Teller, tbl_in 128 (by decide +kernel) rfl, rfl, t_Teller_ok, n_Teller, by decide +kernel, rfl⟩
theorem fl_Teller_69 : Fl "ShakeHands$Teller" 69 7 10 (.boolean) false := ⟨R_Teller, F_Teller, 15, t_Teller, rfl, by decide, i_Teller, tbl_in 132 (by decide +kernel) rfl, rfl, t_Teller_ok, n_Teller, by decide +kernel, rfl⟩
theorem fl_Teller_73 : Fl "ShakeHands$Teller" 73 7 11 (.boolean) false := ⟨R_Teller, F_Teller, 15, t_Teller, rfl, by decide, i_Teller, tbl_in 133 (by decide +kernel) rfl, rfl, t_Teller_ok, n_Teller, by decide +kernel, rfl⟩
theorem fl_Teller_76 : Fl "ShakeHands$Teller" 76 7 12 (.int) false := ⟨R_Teller, F_Teller, 15, t_Teller, rfl, by decide, i_Teller, tbl_in 134 (by decide +kernel) rfl, rfl, t_Teller_ok, n_Teller, by decide +kernel, rfl⟩
theorem fl_Teller_79 : Fl "ShakeHands$Teller" 79 7 13 (.int) false := ⟨R_Teller, F_Teller, 15, t_Teller, rfl, by decide, i_Teller, tbl_in 135 (by decide +kernel) rfl, rfl, t_Teller_ok, n_Teller, by decide +kernel, rfl⟩
theorem fl_Teller_82 : Fl "ShakeHands$Teller" 82 7 14 (.int) false := ⟨R_Teller, F_Teller, 15, t_Teller, rfl, by decide, i_Teller, tbl_in 136 (by decide +kernel) rfl, rfl, t_Teller_ok, n_Teller, by decide +kernel, rfl⟩
theorem fl_Teller_85 : Fl "ShakeHands$Teller" 85 0 0 (.int) false := ⟨R_Circle, F_Circle, 9, t_Circle, rfl, by decide, i_Circle, tbl_in 73 (by decide +kernel) rfl, rfl, t_Circle_ok, n_Circle, by decide +kernel, rfl⟩
theorem fl_Teller_92 : Fl "ShakeHands$Teller" 92 0 1 (.int) false := ⟨R_Circle, F_Circle, 9, t_Circle, rfl, by decide, i_Circle, tbl_in 76 (by decide +kernel) rfl, rfl, t_Circle_ok, n_Circle, by decide +kernel, rfl⟩
theorem fl_Teller_95 : Fl "ShakeHands$Teller" 95 6 0 (.array .byte) true := ⟨R_Tape, F_Tape, 2, t_Tape, rfl, by decide, i_Tape, tbl_in 33 (by decide +kernel) rfl, rfl, t_Tape_ok, n_Tape, by decide +kernel, rfl⟩
theorem fl_Teller_103 : Fl "ShakeHands$Teller" 103 7 9 (.int) false := ⟨R_Teller, F_Teller, 15, t_Teller, rfl, by decide, i_Teller, tbl_in 131 (by decide +kernel) rfl, rfl, t_Teller_ok, n_Teller, by decide +kernel, rfl⟩
theorem fl_Teller_139 : Fl "ShakeHands$Teller" 139 0 4 (.array .int) true := ⟨R_Circle, F_Circle, 9, t_Circle, rfl, by decide, i_Circle, tbl_in 86 (by decide +kernel) rfl, rfl, t_Circle_ok, n_Circle, by decide +kernel, rfl⟩
theorem fl_Teller_143 : Fl "ShakeHands$Teller" 143 0 5 (.int) false := ⟨R_Circle, F_Circle, 9, t_Circle, rfl, by decide, i_Circle, tbl_in 89 (by decide +kernel) rfl, rfl, t_Circle_ok, n_Circle, by decide +kernel, rfl⟩
theorem fl_Teller_152 : Fl "ShakeHands$Teller" 152 0 6 (.array .int) true := ⟨R_Circle, F_Circle, 9, t_Circle, rfl, by decide, i_Circle, tbl_in 92 (by decide +kernel) rfl, rfl, t_Circle_ok, n_Circle, by decide +kernel, rfl⟩
theorem fl_Teller_154 : Fl "ShakeHands$Teller" 154 0 7 (.int) false := ⟨R_Circle, F_Circle, 9, t_Circle, rfl, by decide, i_Circle, tbl_in 95 (by decide +kernel) rfl, rfl, t_Circle_ok, n_Circle, by decide +kernel, rfl⟩
theorem fl_Teller_184 : Fl "ShakeHands$Teller" 184 3 1 (.int) false := ⟨R_Row, F_Row, 2, t_Row, rfl, by decide, i_Row, tbl_in 64 (by decide +kernel) rfl, rfl, t_Row_ok, n_Row, by decide +kernel, rfl⟩
theorem fl_Teller_200 : Fl "ShakeHands$Teller" 200 0 3 (.int) false := ⟨R_Circle, F_Circle, 9, t_Circle, rfl, by decide, i_Circle, tbl_in 83 (by decide +kernel) rfl, rfl, t_Circle_ok, n_Circle, by decide +kernel, rfl⟩
theorem fl_Teller_203 : Fl "ShakeHands$Teller" 203 0 2 (.array .int) true := ⟨R_Circle, F_Circle, 9, t_Circle, rfl, by decide, i_Circle, tbl_in 80 (by decide +kernel) rfl, rfl, t_Circle_ok, n_Circle, by decide +kernel, rfl⟩
theorem fl_Model_7 : Fl "ShakeHandsModel" 7 9 0 (.array .int) true := ⟨R_Model, F_Model, 55, t_Model, rfl, by decide, i_Model, tbl_in 897 (by decide +kernel) rfl, rfl, t_Model_ok, n_Model, by decide +kernel, rfl⟩
theorem fl_Model_13 : Fl "ShakeHandsModel" 13 9 1 (.array .boolean) true := ⟨R_Model, F_Model, 55, t_Model, rfl, by decide, i_Model, tbl_in 898 (by decide +kernel) rfl, rfl, t_Model_ok, n_Model, by decide +kernel, rfl⟩
theorem fl_Model_17 : Fl "ShakeHandsModel" 17 9 7 (.array .int) true := ⟨R_Model, F_Model, 55, t_Model, rfl, by decide, i_Model, tbl_in 904 (by decide +kernel) rfl, rfl, t_Model_ok, n_Model, by decide +kernel, rfl⟩
theorem fl_Model_20 : Fl "ShakeHandsModel" 20 9 8 (.array .int) true := ⟨R_Model, F_Model, 55, t_Model, rfl, by decide, i_Model, tbl_in 905 (by decide +kernel) rfl, rfl, t_Model_ok, n_Model, by decide +kernel, rfl⟩
theorem fl_Model_23 : Fl "ShakeHandsModel" 23 9 9 (.array .int) true := ⟨R_Model, F_Model, 55, t_Model, rfl, by decide, i_Model, tbl_in 906 (by decide +kernel) rfl, rfl, t_Model_ok, n_Model, by decide +kernel, rfl⟩
theorem fl_Model_26 : Fl "ShakeHandsModel" 26 9 10 (.array .int) true := ⟨R_Model, F_Model, 55, t_Model, rfl, by decide, i_Model, tbl_in 907 (by decide +kernel) rfl, rfl, t_Model_ok, n_Model, by decide +kernel, rfl⟩
theorem fl_Model_29 : Fl "ShakeHandsModel" 29 9 11 (.array .int) true := ⟨R_Model, F_Model, 55, t_Model, rfl, by decide, i_Model, tbl_in 908 (by decide +kernel) rfl, rfl, t_Model_ok, n_Model, by decide +kernel, rfl⟩
theorem fl_Model_32 : Fl "ShakeHandsModel" 32 9 18 (.array .int) true := ⟨R_Model, F_Model, 55, t_Model, rfl, by decide, i_Model, tbl_in 915 (by decide +kernel) rfl, rfl, t_Model_ok, n_Model, by decide +kernel, rfl⟩
theorem fl_Model_35 : Fl "ShakeHandsModel" 35 9 19 (.array .int) true := ⟨R_Model, F_Model, 55, t_Model, rfl, by decide, i_Model, tbl_in 916 (by decide +kernel) rfl, rfl, t_Model_ok, n_Model, by decide +kernel, rfl⟩
theorem fl_Model_38 : Fl "ShakeHandsModel" 38 9 20 (.array .int) true := ⟨R_Model, F_Model, 55, t_Model, rfl, by decide, i_Model, tbl_in 917 (by decide +kernel) rfl, rfl, t_Model_ok, n_Model, by decide +kernel, rfl⟩
theorem fl_Model_41 : Fl "ShakeHandsModel" 41 9 21 (.array .int) true := ⟨R_Model, F_Model, 55, t_Model, rfl, by decide, i_Model, tbl_in 918 (by decide +kernel) rfl, rfl, t_Model_ok, n_Model, by decide +kernel, rfl⟩
theorem fl_Model_44 : Fl "ShakeHandsModel" 44 9 22 (.array .boolean) true := ⟨R_Model, F_Model, 55, t_Model, rfl, by decide, i_Model, tbl_in 919 (by decide +kernel) rfl, rfl, t_Model_ok, n_Model, by decide +kernel, rfl⟩
theorem fl_Model_47 : Fl "ShakeHandsModel" 47 9 23 (.array .boolean) true := ⟨R_Model, F_Model, 55, t_Model, rfl, by decide, i_Model, tbl_in 920 (by decide +kernel) rfl, rfl, t_Model_ok, n_Model, by decide +kernel, rfl⟩
theorem fl_Model_50 : Fl "ShakeHandsModel" 50 9 25 (.array .int) true := ⟨R_Model, F_Model, 55, t_Model, rfl, by decide, i_Model, tbl_in 922 (by decide +kernel) rfl, rfl, t_Model_ok, n_Model, by decide +kernel, rfl⟩
theorem fl_Model_53 : Fl "ShakeHandsModel" 53 9 33 (.array .int) true := ⟨R_Model, F_Model, 55, t_Model, rfl, by decide, i_Model, tbl_in 930 (by decide +kernel) rfl, rfl, t_Model_ok, n_Model, by decide +kernel, rfl⟩
theorem fl_Model_56 : Fl "ShakeHandsModel" 56 9 34 (.array .int) true := ⟨R_Model, F_Model, 55, t_Model, rfl, by decide, i_Model, tbl_in 931 (by decide +kernel) rfl, rfl, t_Model_ok, n_Model, by decide +kernel, rfl⟩
theorem fl_Model_59 : Fl "ShakeHandsModel" 59 9 36 (.array .int) true := ⟨R_Model, F_Model, 55, t_Model, rfl, by decide, i_Model, tbl_in 933 (by decide +kernel) rfl, rfl, t_Model_ok, n_Model, by decide +kernel, rfl⟩
theorem fl_Model_62 : Fl "ShakeHandsModel" 62 9 37 (.array .int) true := ⟨R_Model, F_Model, 55, t_Model, rfl, by decide, i_Model, tbl_in 934 (by decide +kernel) rfl, rfl, t_Model_ok, n_Model, by decide +kernel, rfl⟩
theorem fl_Model_65 : Fl "ShakeHandsModel" 65 9 46 (.array .int) true := ⟨R_Model, F_Model, 55, t_Model, rfl, by decide, i_Model, tbl_in 943 (by decide +kernel) rfl, rfl, t_Model_ok, n_Model, by decide +kernel, rfl⟩
theorem fl_Model_68 : Fl "ShakeHandsModel" 68 9 48 (.array .long) true := ⟨R_Model, F_Model, 55, t_Model, rfl, by decide, i_Model, tbl_in 945 (by decide +kernel) rfl, rfl, t_Model_ok, n_Model, by decide +kernel, rfl⟩
theorem fl_Model_72 : Fl "ShakeHandsModel" 72 9 49 (.array .int) true := ⟨R_Model, F_Model, 55, t_Model, rfl, by decide, i_Model, tbl_in 946 (by decide +kernel) rfl, rfl, t_Model_ok, n_Model, by decide +kernel, rfl⟩
theorem fl_Model_75 : Fl "ShakeHandsModel" 75 9 50 (.array .int) true := ⟨R_Model, F_Model, 55, t_Model, rfl, by decide, i_Model, tbl_in 947 (by decide +kernel) rfl, rfl, t_Model_ok, n_Model, by decide +kernel, rfl⟩
theorem fl_Model_78 : Fl "ShakeHandsModel" 78 9 51 (.array .int) true := ⟨R_Model, F_Model, 55, t_Model, rfl, by decide, i_Model, tbl_in 948 (by decide +kernel) rfl, rfl, t_Model_ok, n_Model, by decide +kernel, rfl⟩
theorem fl_Model_81 : Fl "ShakeHandsModel" 81 9 52 (.array .int) true := ⟨R_Model, F_Model, 55, t_Model, rfl, by decide, i_Model, tbl_in 949 (by decide +kernel) rfl, rfl, t_Model_ok, n_Model, by decide +kernel, rfl⟩
theorem fl_Model_84 : Fl "ShakeHandsModel" 84 9 53 (.array .int) true := ⟨R_Model, F_Model, 55, t_Model, rfl, by decide, i_Model, tbl_in 950 (by decide +kernel) rfl, rfl, t_Model_ok, n_Model, by decide +kernel, rfl⟩
theorem fl_Model_97 : Fl "ShakeHandsModel" 97 9 12 (.int) false := ⟨R_Model, F_Model, 55, t_Model, rfl, by decide, i_Model, tbl_in 909 (by decide +kernel) rfl, rfl, t_Model_ok, n_Model, by decide +kernel, rfl⟩
theorem fl_Model_101 : Fl "ShakeHandsModel" 101 9 13 (.int) false := ⟨R_Model, F_Model, 55, t_Model, rfl, by decide, i_Model, tbl_in 910 (by decide +kernel) rfl, rfl, t_Model_ok, n_Model, by decide +kernel, rfl⟩
theorem fl_Model_104 : Fl "ShakeHandsModel" 104 9 14 (.int) false := ⟨R_Model, F_Model, 55, t_Model, rfl, by decide, i_Model, tbl_in 911 (by decide +kernel) rfl, rfl, t_Model_ok, n_Model, by decide +kernel, rfl⟩
theorem fl_Model_107 : Fl "ShakeHandsModel" 107 9 15 (.int) false := ⟨R_Model, F_Model, 55, t_Model, rfl, by decide, i_Model, tbl_in 912 (by decide +kernel) rfl, rfl, t_Model_ok, n_Model, by decide +kernel, rfl⟩
theorem fl_Model_110 : Fl "ShakeHandsModel" 110 9 16 (.int) false := ⟨R_Model, F_Model, 55, t_Model, rfl, by decide, i_Model, tbl_in 913 (by decide +kernel) rfl, rfl, t_Model_ok, n_Model, by decide +kernel, rfl⟩
theorem fl_Model_113 : Fl "ShakeHandsModel" 113 9 17 (.int) false := ⟨R_Model, F_Model, 55, t_Model, rfl, by decide, i_Model, tbl_in 914 (by decide +kernel) rfl, rfl, t_Model_ok, n_Model, by decide +kernel, rfl⟩
theorem fl_Model_116 : Fl "ShakeHandsModel" 116 9 24 (.int) false := ⟨R_Model, F_Model, 55, t_Model, rfl, by decide, i_Model, tbl_in 921 (by decide +kernel) rfl, rfl, t_Model_ok, n_Model, by decide +kernel, rfl⟩
theorem fl_Model_119 : Fl "ShakeHandsModel" 119 9 2 (.int) false := ⟨R_Model, F_Model, 55, t_Model, rfl, by decide, i_Model, tbl_in 899 (by decide +kernel) rfl, rfl, t_Model_ok, n_Model, by decide +kernel, rfl⟩
theorem fl_Model_122 : Fl "ShakeHandsModel" 122 9 3 (.int) false := ⟨R_Model, F_Model, 55, t_Model, rfl, by decide, i_Model, tbl_in 900 (by decide +kernel) rfl, rfl, t_Model_ok, n_Model, by decide +kernel, rfl⟩
theorem fl_Model_125 : Fl "ShakeHandsModel" 125 9 4 (.int) false := ⟨R_Model, F_Model, 55, t_Model, rfl, by decide, i_Model, tbl_in 901 (by decide +kernel) rfl, rfl, t_Model_ok, n_Model, by decide +kernel, rfl⟩
theorem fl_Model_128 : Fl "ShakeHandsModel" 128 9 5 (.int) false := ⟨R_Model, F_Model, 55, t_Model, rfl, by decide, i_Model, tbl_in 902 (by decide +kernel) rfl, rfl, t_Model_ok, n_Model, by decide +kernel, rfl⟩
theorem fl_Model_131 : Fl "ShakeHandsModel" 131 9 6 (.int) false := ⟨R_Model, F_Model, 55, t_Model, rfl, by decide, i_Model, tbl_in 903 (by decide +kernel) rfl, rfl, t_Model_ok, n_Model, by decide +kernel, rfl⟩
theorem fl_Model_138 : Fl "ShakeHandsModel" 138 9 26 (.int) false := ⟨R_Model, F_Model, 55, t_Model, rfl, by decide, i_Model, tbl_in 923 (by decide +kernel) rfl, rfl, t_Model_ok, n_Model, by decide +kernel, rfl⟩
theorem fl_Model_147 : Fl "ShakeHandsModel" 147 9 31 (.int) false := ⟨R_Model, F_Model, 55, t_Model, rfl, by decide, i_Model, tbl_in 928 (by decide +kernel) rfl, rfl, t_Model_ok, n_Model, by decide +kernel, rfl⟩
theorem fl_Model_150 : Fl "ShakeHandsModel" 150 9 28 (.int) false := ⟨R_Model, F_Model, 55, t_Model, rfl, by decide, i_Model, tbl_in 925 (by decide +kernel) rfl, rfl, t_Model_ok, n_Model, by decide +kernel, rfl⟩
theorem fl_Model_153 : Fl "ShakeHandsModel" 153 9 32 (.int) false := ⟨R_Model, F_Model, 55, t_Model, rfl, by decide, i_Model, tbl_in 929 (by decide +kernel) rfl, rfl, t_Model_ok, n_Model, by decide +kernel, rfl⟩
theorem fl_Model_156 : Fl "ShakeHandsModel" 156 9 27 (.int) false := ⟨R_Model, F_Model, 55, t_Model, rfl, by decide, i_Model, tbl_in 924 (by decide +kernel) rfl, rfl, t_Model_ok, n_Model, by decide +kernel, rfl⟩
theorem fl_Model_167 : Fl "ShakeHandsModel" 167 9 29 (.int) false := ⟨R_Model, F_Model, 55, t_Model, rfl, by decide, i_Model, tbl_in 926 (by decide +kernel) rfl, rfl, t_Model_ok, n_Model, by decide +kernel, rfl⟩
theorem fl_Model_178 : Fl "ShakeHandsModel" 178 9 30 (.int) false := ⟨R_Model, F_Model, 55, t_Model, rfl, by decide, i_Model, tbl_in 927 (by decide +kernel) rfl, rfl, t_Model_ok, n_Model, by decide +kernel, rfl⟩
theorem fl_Model_229 : Fl "ShakeHandsModel" 229 9 35 (.int) false := ⟨R_Model, F_Model, 55, t_Model, rfl, by decide, i_Model, tbl_in 932 (by decide +kernel) rfl, rfl, t_Model_ok, n_Model, by decide +kernel, rfl⟩
theorem fl_Model_302 : Fl "ShakeHandsModel" 302 9 38 (.int) false := ⟨R_Model, F_Model, 55, t_Model, rfl, by decide, i_Model, tbl_in 935 (by decide +kernel) rfl, rfl, t_Model_ok, n_Model, by decide +kernel, rfl⟩
theorem fl_Model_308 : Fl "ShakeHandsModel" 308 9 39 (.int) false := ⟨R_Model, F_Model, 55, t_Model, rfl, by decide, i_Model, tbl_in 936 (by decide +kernel) rfl, rfl, t_Model_ok, n_Model, by decide +kernel, rfl⟩
theorem fl_Model_311 : Fl "ShakeHandsModel" 311 9 40 (.int) false := ⟨R_Model, F_Model, 55, t_Model, rfl, by decide, i_Model, tbl_in 937 (by decide +kernel) rfl, rfl, t_Model_ok, n_Model, by decide +kernel, rfl⟩
theorem fl_Model_314 : Fl "ShakeHandsModel" 314 9 42 (.int) false := ⟨R_Model, F_Model, 55, t_Model, rfl, by decide, i_Model, tbl_in 939 (by decide +kernel) rfl, rfl, t_Model_ok, n_Model, by decide +kernel, rfl⟩
theorem fl_Model_320 : Fl "ShakeHandsModel" 320 9 41 (.int) false := ⟨R_Model, F_Model, 55, t_Model, rfl, by decide, i_Model, tbl_in 938 (by decide +kernel) rfl, rfl, t_Model_ok, n_Model, by decide +kernel, rfl⟩
theorem fl_Model_323 : Fl "ShakeHandsModel" 323 9 43 (.int) false := ⟨R_Model, F_Model, 55, t_Model, rfl, by decide, i_Model, tbl_in 940 (by decide +kernel) rfl, rfl, t_Model_ok, n_Model, by decide +kernel, rfl⟩
theorem fl_Model_326 : Fl "ShakeHandsModel" 326 9 44 (.int) false := ⟨R_Model, F_Model, 55, t_Model, rfl, by decide, i_Model, tbl_in 941 (by decide +kernel) rfl, rfl, t_Model_ok, n_Model, by decide +kernel, rfl⟩
theorem fl_Model_329 : Fl "ShakeHandsModel" 329 9 45 (.int) false := ⟨R_Model, F_Model, 55, t_Model, rfl, by decide, i_Model, tbl_in 942 (by decide +kernel) rfl, rfl, t_Model_ok, n_Model, by decide +kernel, rfl⟩
theorem fl_Model_365 : Fl "ShakeHandsModel" 365 9 47 (.int) false := ⟨R_Model, F_Model, 55, t_Model, rfl, by decide, i_Model, tbl_in 944 (by decide +kernel) rfl, rfl, t_Model_ok, n_Model, by decide +kernel, rfl⟩
theorem fl_Model_408 : Fl "ShakeHandsModel" 408 9 54 (.int) false := ⟨R_Model, F_Model, 55, t_Model, rfl, by decide, i_Model, tbl_in 951 (by decide +kernel) rfl, rfl, t_Model_ok, n_Model, by decide +kernel, rfl⟩
theorem gs_Circle_50 : ("ShakeHands$Circle", 50, "LESSER") ∈ nestF := by decide +kernel
theorem gs_Circle_53 : ("ShakeHands$Circle", 53, "GREATER") ∈ nestF := by decide +kernel
theorem gs_Search_113 : ("ShakeHands$Search", 113, "LESSER") ∈ nestF := by decide +kernel
theorem gs_Search_116 : ("ShakeHands$Search", 116, "GREATER") ∈ nestF := by decide +kernel
theorem ct_ShakeHands_238 : Cond.constant "ShakeHands" 238 65536 ∈ tbl := tbl_in 764 (by decide +kernel) rfl
theorem ct_ShakeHands_313 : Cond.constant "ShakeHands" 313 65535 ∈ tbl := tbl_in 876 (by decide +kernel) rfl
theorem ct_Model_368 : Cond.constant "ShakeHandsModel" 368 32768 ∈ tbl := tbl_in 1350 (by decide +kernel) rfl
theorem ct_Model_411 : Cond.constant "ShakeHandsModel" 411 65535 ∈ tbl := tbl_in 1456 (by decide +kernel) rfl
theorem ct_Integer_265 : Cond.constant "java/lang/Integer" 265 1431655765 ∈ tbl := tbl_in 467 (by decide +kernel) rfl
theorem ct_Integer_266 : Cond.constant "java/lang/Integer" 266 858993459 ∈ tbl := tbl_in 468 (by decide +kernel) rfl
theorem ct_Integer_267 : Cond.constant "java/lang/Integer" 267 252645135 ∈ tbl := tbl_in 469 (by decide +kernel) rfl
theorem cl_Row_15 : Cond.constantLong "ShakeHands$Row" 15 68719476735 ∈ tbl := tbl_in 459 (by decide +kernel) rfl
theorem cl_Row_29 : Cond.constantLong "ShakeHands$Row" 29 15 ∈ tbl := tbl_in 591 (by decide +kernel) rfl
theorem cl_Model_141 : Cond.constantLong "ShakeHandsModel" 141 255 ∈ tbl := tbl_in 1068 (by decide +kernel) rfl
theorem cl_Model_170 : Cond.constantLong "ShakeHandsModel" 170 97 ∈ tbl := tbl_in 1088 (by decide +kernel) rfl
theorem cl_Model_172 : Cond.constantLong "ShakeHandsModel" 172 122 ∈ tbl := tbl_in 1089 (by decide +kernel) rfl
theorem cl_Model_174 : Cond.constantLong "ShakeHandsModel" 174 48 ∈ tbl := tbl_in 1090 (by decide +kernel) rfl
theorem cl_Model_176 : Cond.constantLong "ShakeHandsModel" 176 57 ∈ tbl := tbl_in 1091 (by decide +kernel) rfl
theorem cl_Model_227 : Cond.constantLong "ShakeHandsModel" 227 2 ∈ tbl := tbl_in 1163 (by decide +kernel) rfl
theorem cl_Model_254 : Cond.constantLong "ShakeHandsModel" 254 15 ∈ tbl := tbl_in 1195 (by decide +kernel) rfl
theorem cl_Model_354 : Cond.constantLong "ShakeHandsModel" 354 10 ∈ tbl := tbl_in 1300 (by decide +kernel) rfl
theorem cl_Model_356 : Cond.constantLong "ShakeHandsModel" 356 13 ∈ tbl := tbl_in 1301 (by decide +kernel) rfl
theorem cl_Model_381 : Cond.constantLong "ShakeHandsModel" 381 17 ∈ tbl := tbl_in 1379 (by decide +kernel) rfl
theorem cl_Model_389 : Cond.constantLong "ShakeHandsModel" 389 99 ∈ tbl := tbl_in 1388 (by decide +kernel) rfl
theorem cl_Model_391 : Cond.constantLong "ShakeHandsModel" 391 65535 ∈ tbl := tbl_in 1393 (by decide +kernel) rfl
theorem cl_Model_396 : Cond.constantLong "ShakeHandsModel" 396 4 ∈ tbl := tbl_in 1406 (by decide +kernel) rfl
theorem cl_Model_401 : Cond.constantLong "ShakeHandsModel" 401 3 ∈ tbl := tbl_in 1438 (by decide +kernel) rfl
theorem cl_Model_406 : Cond.constantLong "ShakeHandsModel" 406 20 ∈ tbl := tbl_in 1447 (by decide +kernel) rfl
theorem cw_nat : Cond.native arraycopyName ∈ tbl := tbl_in 512 (by decide +kernel) rfl
theorem cw_st : Cond.static arraycopyName ∈ tbl := tbl_in 511 (by decide +kernel) rfl
theorem cw_ShakeHands_94 : Cond.methodLink "ShakeHands" 94 arraycopyName ∈ tbl := tbl_in 513 (by decide +kernel) rfl
theorem cw_Circle_44 : Cond.methodLink "ShakeHands$Circle" 44 arraycopyName ∈ tbl := tbl_in 510 (by decide +kernel) rfl
theorem cw_Habit_29 : Cond.methodLink "ShakeHands$Habit" 29 arraycopyName ∈ tbl := tbl_in 737 (by decide +kernel) rfl
theorem cw_Minds_19 : Cond.methodLink "ShakeHands$Minds" 19 arraycopyName ∈ tbl := tbl_in 820 (by decide +kernel) rfl
theorem cw_Search_46 : Cond.methodLink "ShakeHands$Search" 46 arraycopyName ∈ tbl := tbl_in 679 (by decide +kernel) rfl
theorem mw_ShakeHands_305 : Cond.methodLink "ShakeHands" 305 Lib.Math.max.name ∈ tbl := tbl_in 492 (by decide +kernel) rfl
theorem mw_ShakeHands_310 : Cond.methodLink "ShakeHands" 310 Lib.Math.min.name ∈ tbl := tbl_in 493 (by decide +kernel) rfl
theorem mw_Teller_169 : Cond.methodLink "ShakeHands$Teller" 169 Lib.Math.max.name ∈ tbl := tbl_in 452 (by decide +kernel) rfl
theorem ms_max : Cond.static Lib.Math.max.name ∈ tbl := tbl_in 453 (by decide +kernel) rfl
theorem mc_max : Cond.code Lib.Math.max.name Lib.Math.max.code 2 (some .int) ∈ tbl := tbl_in 454 (by decide +kernel) rfl
theorem ms_min : Cond.static Lib.Math.min.name ∈ tbl := tbl_in 494 (by decide +kernel) rfl
theorem mc_min : Cond.code Lib.Math.min.name Lib.Math.min.code 2 (some .int) ∈ tbl := tbl_in 495 (by decide +kernel) rfl
theorem cV_ShakeHands_70 : CV "ShakeHands" 70 y_Tape_append := ⟨tbl_in 333 (by decide +kernel) rfl, im_Tape_append, se_Tape_append, ini_Tape⟩
theorem cV_ShakeHands_78 : CV "ShakeHands" 78 y_Teller_tell := ⟨tbl_in 345 (by decide +kernel) rfl, im_Teller_tell, se_Teller_tell, ini_Teller⟩
theorem cV_ShakeHands_86 : CV "ShakeHands" 86 y_Circle_copy := ⟨tbl_in 506 (by decide +kernel) rfl, im_Circle_copy, se_Circle_copy, ini_Circle⟩
theorem cV_ShakeHands_141 : CV "ShakeHands" 141 y_ShakeHands_isOne := ⟨tbl_in 535 (by decide +kernel) rfl, im_ShakeHands_isOne, se_ShakeHands_isOne, ini_ShakeHands⟩
theorem cV_ShakeHands_165 : CV "ShakeHands" 165 y_ShakeHands_knowsNow := ⟨tbl_in 566 (by decide +kernel) rfl, im_ShakeHands_knowsNow, se_ShakeHands_knowsNow, ini_ShakeHands⟩
theorem cV_ShakeHands_169 : CV "ShakeHands" 169 y_Circle_taught := ⟨tbl_in 573 (by decide +kernel) rfl, im_Circle_taught, se_Circle_taught, ini_Circle⟩
theorem cV_ShakeHands_173 : CV "ShakeHands" 173 y_Circle_without := ⟨tbl_in 601 (by decide +kernel) rfl, im_Circle_without, se_Circle_without, ini_Circle⟩
theorem cV_ShakeHands_176 : CV "ShakeHands" 176 y_ShakeHands_areTwo := ⟨tbl_in 613 (by decide +kernel) rfl, im_ShakeHands_areTwo, se_ShakeHands_areTwo, ini_ShakeHands⟩
theorem cV_ShakeHands_183 : CV "ShakeHands" 183 y_Circle_meet := ⟨tbl_in 618 (by decide +kernel) rfl, im_Circle_meet, se_Circle_meet, ini_Circle⟩
theorem cV_ShakeHands_187 : CV "ShakeHands" 187 y_ShakeHands_isFeastPart := ⟨tbl_in 635 (by decide +kernel) rfl, im_ShakeHands_isFeastPart, se_ShakeHands_isFeastPart, ini_ShakeHands⟩
theorem cV_ShakeHands_194 : CV "ShakeHands" 194 y_Circle_celebrate := ⟨tbl_in 642 (by decide +kernel) rfl, im_Circle_celebrate, se_Circle_celebrate, ini_Circle⟩
theorem cV_ShakeHands_198 : CV "ShakeHands" 198 y_ShakeHands_takeTrial := ⟨tbl_in 651 (by decide +kernel) rfl, im_ShakeHands_takeTrial, se_ShakeHands_takeTrial, ini_ShakeHands⟩
theorem cV_ShakeHands_205 : CV "ShakeHands" 205 y_ShakeHands_arePeople := ⟨tbl_in 667 (by decide +kernel) rfl, im_ShakeHands_arePeople, se_ShakeHands_arePeople, ini_ShakeHands⟩
theorem cV_ShakeHands_208 : CV "ShakeHands" 208 y_Search_begin := ⟨tbl_in 675 (by decide +kernel) rfl, im_Search_begin, se_Search_begin, ini_Search⟩
theorem cV_ShakeHands_211 : CV "ShakeHands" 211 y_Search_aim := ⟨tbl_in 680 (by decide +kernel) rfl, im_Search_aim, se_Search_aim, ini_Search⟩
theorem cV_ShakeHands_215 : CV "ShakeHands" 215 y_Search_fewestHands := ⟨tbl_in 684 (by decide +kernel) rfl, im_Search_fewestHands, se_Search_fewestHands, ini_Search⟩
theorem cV_ShakeHands_221 : CV "ShakeHands" 221 y_Search_fewestRounds := ⟨tbl_in 718 (by decide +kernel) rfl, im_Search_fewestRounds, se_Search_fewestRounds, ini_Search⟩
theorem cV_ShakeHands_224 : CV "ShakeHands" 224 y_ShakeHands_everybody := ⟨tbl_in 671 (by decide +kernel) rfl, im_ShakeHands_everybody, se_ShakeHands_everybody, ini_ShakeHands⟩
theorem cV_ShakeHands_227 : CV "ShakeHands" 227 y_Habit_lastDay := ⟨tbl_in 733 (by decide +kernel) rfl, im_Habit_lastDay, se_Habit_lastDay, ini_Habit⟩
theorem cV_ShakeHands_230 : CV "ShakeHands" 230 y_Habit_comesBack := ⟨tbl_in 747 (by decide +kernel) rfl, im_Habit_comesBack, se_Habit_comesBack, ini_Habit⟩
theorem cV_ShakeHands_234 : CV "ShakeHands" 234 y_Circle_liveDay := ⟨tbl_in 759 (by decide +kernel) rfl, im_Circle_liveDay, se_Circle_liveDay, ini_Circle⟩
theorem cV_ShakeHands_242 : CV "ShakeHands" 242 y_Search_countFits := ⟨tbl_in 773 (by decide +kernel) rfl, im_Search_countFits, se_Search_countFits, ini_Search⟩
theorem cV_ShakeHands_255 : CV "ShakeHands" 255 y_Search_countSeats := ⟨tbl_in 793 (by decide +kernel) rfl, im_Search_countSeats, se_Search_countSeats, ini_Search⟩
theorem cV_ShakeHands_261 : CV "ShakeHands" 261 y_ShakeHands_fewestGloves := ⟨tbl_in 805 (by decide +kernel) rfl, im_ShakeHands_fewestGloves, se_ShakeHands_fewestGloves, ini_ShakeHands⟩
theorem cV_ShakeHands_267 : CV "ShakeHands" 267 y_Minds_copy := ⟨tbl_in 816 (by decide +kernel) rfl, im_Minds_copy, se_Minds_copy, ini_Minds⟩
theorem cV_ShakeHands_276 : CV "ShakeHands" 276 y_Sheet_renew := ⟨tbl_in 835 (by decide +kernel) rfl, im_Sheet_renew, se_Sheet_renew, ini_Sheet⟩
theorem cV_ShakeHands_280 : CV "ShakeHands" 280 y_Sheet_faultAt := ⟨tbl_in 843 (by decide +kernel) rfl, im_Sheet_faultAt, se_Sheet_faultAt, ini_Sheet⟩
theorem cV_ShakeHands_283 : CV "ShakeHands" 283 y_Sheet_put := ⟨tbl_in 847 (by decide +kernel) rfl, im_Sheet_put, se_Sheet_put, ini_Sheet⟩
theorem cV_ShakeHands_286 : CV "ShakeHands" 286 y_Sheet_faultOfTwo := ⟨tbl_in 856 (by decide +kernel) rfl, im_Sheet_faultOfTwo, se_Sheet_faultOfTwo, ini_Sheet⟩
theorem cV_ShakeHands_289 : CV "ShakeHands" 289 y_Sheet_cellAt := ⟨tbl_in 860 (by decide +kernel) rfl, im_Sheet_cellAt, se_Sheet_cellAt, ini_Sheet⟩
theorem cV_ShakeHands_295 : CV "ShakeHands" 295 y_ShakeHands_knownToAll := ⟨tbl_in 872 (by decide +kernel) rfl, im_ShakeHands_knownToAll, se_ShakeHands_knownToAll, ini_ShakeHands⟩
theorem cV_Circle_56 : CV "ShakeHands$Circle" 56 y_Row_take := ⟨tbl_in 577 (by decide +kernel) rfl, im_Row_take, se_Row_take, ini_Row⟩
theorem cV_Circle_60 : CV "ShakeHands$Circle" 60 y_Row_addAll := ⟨tbl_in 626 (by decide +kernel) rfl, im_Row_addAll, se_Row_addAll, ini_Row⟩
theorem cV_Circle_63 : CV "ShakeHands$Circle" 63 y_Circle_settle := ⟨tbl_in 579 (by decide +kernel) rfl, im_Circle_settle, se_Circle_settle, ini_Circle⟩
theorem cV_Circle_66 : CV "ShakeHands$Circle" 66 y_Row_atRest := ⟨tbl_in 596 (by decide +kernel) rfl, im_Row_atRest, se_Row_atRest, ini_Row⟩
theorem cV_Circle_70 : CV "ShakeHands$Circle" 70 y_Row_add := ⟨tbl_in 578 (by decide +kernel) rfl, im_Row_add, se_Row_add, ini_Row⟩
theorem cV_Circle_74 : CV "ShakeHands$Circle" 74 y_Row_drop := ⟨tbl_in 587 (by decide +kernel) rfl, im_Row_drop, se_Row_drop, ini_Row⟩
theorem cV_Circle_77 : CV "ShakeHands$Circle" 77 y_Circle_meet := ⟨tbl_in 646 (by decide +kernel) rfl, im_Circle_meet, se_Circle_meet, ini_Circle⟩
theorem cV_Circle_81 : CV "ShakeHands$Circle" 81 y_Circle_firstJoin := ⟨tbl_in 583 (by decide +kernel) rfl, im_Circle_firstJoin, se_Circle_firstJoin, ini_Circle⟩
theorem cV_Circle_85 : CV "ShakeHands$Circle" 85 y_Row_shorten := ⟨tbl_in 592 (by decide +kernel) rfl, im_Row_shorten, se_Row_shorten, ini_Row⟩
theorem cV_Habit_43 : CV "ShakeHands$Habit" 43 y_Circle_liveDay := ⟨tbl_in 739 (by decide +kernel) rfl, im_Circle_liveDay, se_Circle_liveDay, ini_Circle⟩
theorem cV_Habit_49 : CV "ShakeHands$Habit" 49 y_Habit_sameDay := ⟨tbl_in 751 (by decide +kernel) rfl, im_Habit_sameDay, se_Habit_sameDay, ini_Habit⟩
theorem cV_Row_25 : CV "ShakeHands$Row" 25 y_Row_add := ⟨tbl_in 630 (by decide +kernel) rfl, im_Row_add, se_Row_add, ini_Row⟩
theorem cV_Search_64 : CV "ShakeHands$Search" 64 y_Search_isBarred := ⟨tbl_in 688 (by decide +kernel) rfl, im_Search_isBarred, se_Search_isBarred, ini_Search⟩
theorem cV_Search_72 : CV "ShakeHands$Search" 72 y_Search_amiss := ⟨tbl_in 696 (by decide +kernel) rfl, im_Search_amiss, se_Search_amiss, ini_Search⟩
theorem cV_Search_128 : CV "ShakeHands$Search" 128 y_Circle_meet := ⟨tbl_in 713 (by decide +kernel) rfl, im_Circle_meet, se_Circle_meet, ini_Circle⟩
theorem cV_Search_139 : CV "ShakeHands$Search" 139 y_Search_step := ⟨tbl_in 709 (by decide +kernel) rfl, im_Search_step, se_Search_step, ini_Search⟩
theorem cV_Search_143 : CV "ShakeHands$Search" 143 y_Search_unlikeSeen := ⟨tbl_in 780 (by decide +kernel) rfl, im_Search_unlikeSeen, se_Search_unlikeSeen, ini_Search⟩
theorem cV_Sheet_24 : CV "ShakeHands$Sheet" 24 y_Sheet_faultAt := ⟨tbl_in 851 (by decide +kernel) rfl, im_Sheet_faultAt, se_Sheet_faultAt, ini_Sheet⟩
theorem cV_Teller_33 : CV "ShakeHands$Teller" 33 y_Teller_begin := ⟨tbl_in 349 (by decide +kernel) rfl, im_Teller_begin, se_Teller_begin, ini_Teller⟩
theorem cV_Teller_42 : CV "ShakeHands$Teller" 42 y_Teller_readToken := ⟨tbl_in 357 (by decide +kernel) rfl, im_Teller_readToken, se_Teller_readToken, ini_Teller⟩
theorem cV_Teller_51 : CV "ShakeHands$Teller" 51 y_Teller_tellLine := ⟨tbl_in 369 (by decide +kernel) rfl, im_Teller_tellLine, se_Teller_tellLine, ini_Teller⟩
theorem cV_Teller_54 : CV "ShakeHands$Teller" 54 y_Teller_lookBack := ⟨tbl_in 502 (by decide +kernel) rfl, im_Teller_lookBack, se_Teller_lookBack, ini_Teller⟩
theorem cV_Teller_60 : CV "ShakeHands$Teller" 60 y_Circle_beAsAtFirst := ⟨tbl_in 353 (by decide +kernel) rfl, im_Circle_beAsAtFirst, se_Circle_beAsAtFirst, ini_Circle⟩
theorem cV_Teller_88 : CV "ShakeHands$Teller" 88 y_Teller_refuse := ⟨tbl_in 365 (by decide +kernel) rfl, im_Teller_refuse, se_Teller_refuse, ini_Teller⟩
theorem cV_Teller_99 : CV "ShakeHands$Teller" 99 y_Teller_isWithin := ⟨tbl_in 361 (by decide +kernel) rfl, im_Teller_isWithin, se_Teller_isWithin, ini_Teller⟩
theorem cV_Teller_106 : CV "ShakeHands$Teller" 106 y_String_length := ⟨tbl_in 378 (by decide +kernel) rfl, im_String_length, se_String_length, ini_String⟩
theorem cV_Teller_111 : CV "ShakeHands$Teller" 111 y_String_charAt := ⟨tbl_in 388 (by decide +kernel) rfl, im_String_charAt, se_String_charAt, ini_String⟩
theorem cV_Teller_116 : CV "ShakeHands$Teller" 116 y_Teller_isCalled := ⟨tbl_in 374 (by decide +kernel) rfl, im_Teller_isCalled, se_Teller_isCalled, ini_Teller⟩
theorem cV_Teller_120 : CV "ShakeHands$Teller" 120 y_Teller_tellPeople := ⟨tbl_in 426 (by decide +kernel) rfl, im_Teller_tellPeople, se_Teller_tellPeople, ini_Teller⟩
theorem cV_Teller_124 : CV "ShakeHands$Teller" 124 y_Teller_tellHold := ⟨tbl_in 443 (by decide +kernel) rfl, im_Teller_tellHold, se_Teller_tellHold, ini_Teller⟩
theorem cV_Teller_129 : CV "ShakeHands$Teller" 129 y_Teller_tellRow := ⟨tbl_in 448 (by decide +kernel) rfl, im_Teller_tellRow, se_Teller_tellRow, ini_Teller⟩
theorem cV_Teller_134 : CV "ShakeHands$Teller" 134 y_Teller_tellJoin := ⟨tbl_in 480 (by decide +kernel) rfl, im_Teller_tellJoin, se_Teller_tellJoin, ini_Teller⟩
theorem cV_Teller_146 : CV "ShakeHands$Teller" 146 y_Teller_tellPair := ⟨tbl_in 485 (by decide +kernel) rfl, im_Teller_tellPair, se_Teller_tellPair, ini_Teller⟩
theorem cV_Teller_159 : CV "ShakeHands$Teller" 159 y_Teller_tellGlove := ⟨tbl_in 498 (by decide +kernel) rfl, im_Teller_tellGlove, se_Teller_tellGlove, ini_Teller⟩
theorem cV_Teller_162 : CV "ShakeHands$Teller" 162 y_Teller_takeNumber := ⟨tbl_in 430 (by decide +kernel) rfl, im_Teller_takeNumber, se_Teller_takeNumber, ini_Teller⟩
theorem cV_Teller_166 : CV "ShakeHands$Teller" 166 y_Teller_takeSign := ⟨tbl_in 438 (by decide +kernel) rfl, im_Teller_takeSign, se_Teller_takeSign, ini_Teller⟩
theorem cV_Teller_174 : CV "ShakeHands$Teller" 174 y_Row_take := ⟨tbl_in 455 (by decide +kernel) rfl, im_Row_take, se_Row_take, ini_Row⟩
theorem cV_Teller_178 : CV "ShakeHands$Teller" 178 y_Teller_tellThing := ⟨tbl_in 460 (by decide +kernel) rfl, im_Teller_tellThing, se_Teller_tellThing, ini_Teller⟩
theorem cV_Teller_181 : CV "ShakeHands$Teller" 181 y_Teller_boundedValue := ⟨tbl_in 434 (by decide +kernel) rfl, im_Teller_boundedValue, se_Teller_boundedValue, ini_Teller⟩
theorem cV_Teller_193 : CV "ShakeHands$Teller" 193 y_Row_atRest := ⟨tbl_in 475 (by decide +kernel) rfl, im_Row_atRest, se_Row_atRest, ini_Row⟩
theorem cV_Teller_197 : CV "ShakeHands$Teller" 197 y_Row_add := ⟨tbl_in 470 (by decide +kernel) rfl, im_Row_add, se_Row_add, ini_Row⟩
theorem cV_Model_91 : CV "ShakeHandsModel" 91 y_Model_firstDraft := ⟨tbl_in 886 (by decide +kernel) rfl, im_Model_firstDraft, se_Model_firstDraft, ini_Model⟩
theorem cV_Model_94 : CV "ShakeHandsModel" 94 y_Model_keepDraft := ⟨tbl_in 890 (by decide +kernel) rfl, im_Model_keepDraft, se_Model_keepDraft, ini_Model⟩
theorem cV_Model_159 : CV "ShakeHandsModel" 159 y_Model_look := ⟨tbl_in 1084 (by decide +kernel) rfl, im_Model_look, se_Model_look, ini_Model⟩
theorem cV_Model_163 : CV "ShakeHandsModel" 163 y_Model_is := ⟨tbl_in 1104 (by decide +kernel) rfl, im_Model_is, se_Model_is, ini_Model⟩
theorem cV_Model_181 : CV "ShakeHandsModel" 181 y_Model_needs := ⟨tbl_in 1092 (by decide +kernel) rfl, im_Model_needs, se_Model_needs, ini_Model⟩
theorem cV_Model_185 : CV "ShakeHandsModel" 185 y_Model_looked := ⟨tbl_in 1112 (by decide +kernel) rfl, im_Model_looked, se_Model_looked, ini_Model⟩
theorem cV_Model_188 : CV "ShakeHandsModel" 188 y_Model_next := ⟨tbl_in 1080 (by decide +kernel) rfl, im_Model_next, se_Model_next, ini_Model⟩
theorem cV_Model_191 : CV "ShakeHandsModel" 191 y_Model_tells := ⟨tbl_in 1120 (by decide +kernel) rfl, im_Model_tells, se_Model_tells, ini_Model⟩
theorem cV_Model_195 : CV "ShakeHandsModel" 195 y_Model_readNumber := ⟨tbl_in 1108 (by decide +kernel) rfl, im_Model_readNumber, se_Model_readNumber, ini_Model⟩
theorem cV_Model_198 : CV "ShakeHandsModel" 198 y_Model_nameNow := ⟨tbl_in 1100 (by decide +kernel) rfl, im_Model_nameNow, se_Model_nameNow, ini_Model⟩
theorem cV_Model_202 : CV "ShakeHandsModel" 202 y_Model_readKnows := ⟨tbl_in 1116 (by decide +kernel) rfl, im_Model_readKnows, se_Model_readKnows, ini_Model⟩
theorem cV_Model_205 : CV "ShakeHandsModel" 205 y_Model_readJoin := ⟨tbl_in 1124 (by decide +kernel) rfl, im_Model_readJoin, se_Model_readJoin, ini_Model⟩
theorem cV_Model_208 : CV "ShakeHandsModel" 208 y_Model_readHand := ⟨tbl_in 1128 (by decide +kernel) rfl, im_Model_readHand, se_Model_readHand, ini_Model⟩
theorem cV_Model_211 : CV "ShakeHandsModel" 211 y_Model_readGlove := ⟨tbl_in 1132 (by decide +kernel) rfl, im_Model_readGlove, se_Model_readGlove, ini_Model⟩
theorem cV_Model_214 : CV "ShakeHandsModel" 214 y_Model_readLine := ⟨tbl_in 1096 (by decide +kernel) rfl, im_Model_readLine, se_Model_readLine, ini_Model⟩
theorem cV_Model_217 : CV "ShakeHandsModel" 217 y_Model_isHeld := ⟨tbl_in 1136 (by decide +kernel) rfl, im_Model_isHeld, se_Model_isHeld, ini_Model⟩
theorem cV_Model_221 : CV "ShakeHandsModel" 221 y_Model_worn := ⟨tbl_in 1148 (by decide +kernel) rfl, im_Model_worn, se_Model_worn, ini_Model⟩
theorem cV_Model_232 : CV "ShakeHandsModel" 232 y_Model_place := ⟨tbl_in 1220 (by decide +kernel) rfl, im_Model_place, se_Model_place, ini_Model⟩
theorem cV_Model_235 : CV "ShakeHandsModel" 235 y_Model_drops := ⟨tbl_in 1228 (by decide +kernel) rfl, im_Model_drops, se_Model_drops, ini_Model⟩
theorem cV_Model_238 : CV "ShakeHandsModel" 238 y_Model_adds := ⟨tbl_in 1216 (by decide +kernel) rfl, im_Model_adds, se_Model_adds, ini_Model⟩
theorem cV_Model_241 : CV "ShakeHandsModel" 241 y_Model_takes := ⟨tbl_in 1212 (by decide +kernel) rfl, im_Model_takes, se_Model_takes, ini_Model⟩
theorem cV_Model_245 : CV "ShakeHandsModel" 245 y_Model_settles := ⟨tbl_in 1224 (by decide +kernel) rfl, im_Model_settles, se_Model_settles, ini_Model⟩
theorem cV_Model_248 : CV "ShakeHandsModel" 248 y_Model_puts := ⟨tbl_in 1232 (by decide +kernel) rfl, im_Model_puts, se_Model_puts, ini_Model⟩
theorem cV_Model_251 : CV "ShakeHandsModel" 251 y_Model_knowsIn := ⟨tbl_in 1180 (by decide +kernel) rfl, im_Model_knowsIn, se_Model_knowsIn, ini_Model⟩
theorem cV_Model_256 : CV "ShakeHandsModel" 256 y_Model_begins := ⟨tbl_in 1176 (by decide +kernel) rfl, im_Model_begins, se_Model_begins, ini_Model⟩
theorem cV_Model_259 : CV "ShakeHandsModel" 259 y_Model_anyIn := ⟨tbl_in 1272 (by decide +kernel) rfl, im_Model_anyIn, se_Model_anyIn, ini_Model⟩
theorem cV_Model_262 : CV "ShakeHandsModel" 262 y_Model_whoIn := ⟨tbl_in 1200 (by decide +kernel) rfl, im_Model_whoIn, se_Model_whoIn, ini_Model⟩
theorem cV_Model_265 : CV "ShakeHandsModel" 265 y_Model_knowsNow := ⟨tbl_in 1172 (by decide +kernel) rfl, im_Model_knowsNow, se_Model_knowsNow, ini_Model⟩
theorem cV_Model_268 : CV "ShakeHandsModel" 268 y_Model_isOne := ⟨tbl_in 1168 (by decide +kernel) rfl, im_Model_isOne, se_Model_isOne, ini_Model⟩
theorem cV_Model_275 : CV "ShakeHandsModel" 275 y_Model_whoNow := ⟨tbl_in 1196 (by decide +kernel) rfl, im_Model_whoNow, se_Model_whoNow, ini_Model⟩
theorem cV_Model_278 : CV "ShakeHandsModel" 278 y_Model_knowsIt := ⟨tbl_in 1208 (by decide +kernel) rfl, im_Model_knowsIt, se_Model_knowsIt, ini_Model⟩
theorem cV_Model_282 : CV "ShakeHandsModel" 282 y_Model_shakes := ⟨tbl_in 1256 (by decide +kernel) rfl, im_Model_shakes, se_Model_shakes, ini_Model⟩
theorem cV_Model_286 : CV "ShakeHandsModel" 286 y_Model_becomes := ⟨tbl_in 1260 (by decide +kernel) rfl, im_Model_becomes, se_Model_becomes, ini_Model⟩
theorem cV_Model_289 : CV "ShakeHandsModel" 289 y_Model_areTwo := ⟨tbl_in 1248 (by decide +kernel) rfl, im_Model_areTwo, se_Model_areTwo, ini_Model⟩
theorem cV_Model_292 : CV "ShakeHandsModel" 292 y_Model_shakesNow := ⟨tbl_in 1252 (by decide +kernel) rfl, im_Model_shakesNow, se_Model_shakesNow, ini_Model⟩
theorem cV_Model_295 : CV "ShakeHandsModel" 295 y_Model_anyNow := ⟨tbl_in 1268 (by decide +kernel) rfl, im_Model_anyNow, se_Model_anyNow, ini_Model⟩
theorem cV_Model_298 : CV "ShakeHandsModel" 298 y_Model_feasts := ⟨tbl_in 1276 (by decide +kernel) rfl, im_Model_feasts, se_Model_feasts, ini_Model⟩
theorem cV_Model_305 : CV "ShakeHandsModel" 305 y_Model_isFreePair := ⟨tbl_in 1334 (by decide +kernel) rfl, im_Model_isFreePair, se_Model_isFreePair, ini_Model⟩
theorem cV_Model_317 : CV "ShakeHandsModel" 317 y_Model_isSeen := ⟨tbl_in 1322 (by decide +kernel) rfl, im_Model_isSeen, se_Model_isSeen, ini_Model⟩
theorem cV_Model_332 : CV "ShakeHandsModel" 332 y_Model_isStill := ⟨tbl_in 1314 (by decide +kernel) rfl, im_Model_isStill, se_Model_isStill, ini_Model⟩
theorem cV_Model_335 : CV "ShakeHandsModel" 335 y_Model_isGood := ⟨tbl_in 1318 (by decide +kernel) rfl, im_Model_isGood, se_Model_isGood, ini_Model⟩
theorem cV_Model_338 : CV "ShakeHandsModel" 338 y_Model_aRow := ⟨tbl_in 1326 (by decide +kernel) rfl, im_Model_aRow, se_Model_aRow, ini_Model⟩
theorem cV_Model_341 : CV "ShakeHandsModel" 341 y_Model_freeFrom := ⟨tbl_in 1330 (by decide +kernel) rfl, im_Model_freeFrom, se_Model_freeFrom, ini_Model⟩
theorem cV_Model_344 : CV "ShakeHandsModel" 344 y_Model_copies := ⟨tbl_in 1338 (by decide +kernel) rfl, im_Model_copies, se_Model_copies, ini_Model⟩
theorem cV_Model_347 : CV "ShakeHandsModel" 347 y_Model_layRows := ⟨tbl_in 1310 (by decide +kernel) rfl, im_Model_layRows, se_Model_layRows, ini_Model⟩
theorem cV_Model_351 : CV "ShakeHandsModel" 351 y_Model_areOnes := ⟨tbl_in 1296 (by decide +kernel) rfl, im_Model_areOnes, se_Model_areOnes, ini_Model⟩
theorem cV_Model_358 : CV "ShakeHandsModel" 358 y_Model_asks := ⟨tbl_in 1302 (by decide +kernel) rfl, im_Model_asks, se_Model_asks, ini_Model⟩
theorem cV_Model_362 : CV "ShakeHandsModel" 362 y_Model_fewestHands := ⟨tbl_in 1306 (by decide +kernel) rfl, im_Model_fewestHands, se_Model_fewestHands, ini_Model⟩
theorem cV_Model_369 : CV "ShakeHandsModel" 369 y_Model_isRound := ⟨tbl_in 1351 (by decide +kernel) rfl, im_Model_isRound, se_Model_isRound, ini_Model⟩
theorem cV_Model_372 : CV "ShakeHandsModel" 372 y_Model_layRounds := ⟨tbl_in 1346 (by decide +kernel) rfl, im_Model_layRounds, se_Model_layRounds, ini_Model⟩
theorem cV_Model_375 : CV "ShakeHandsModel" 375 y_Model_goesRound := ⟨tbl_in 1355 (by decide +kernel) rfl, im_Model_goesRound, se_Model_goesRound, ini_Model⟩
theorem cV_Model_378 : CV "ShakeHandsModel" 378 y_Model_aDay := ⟨tbl_in 1367 (by decide +kernel) rfl, im_Model_aDay, se_Model_aDay, ini_Model⟩
theorem cV_Model_383 : CV "ShakeHandsModel" 383 y_Model_notes := ⟨tbl_in 1375 (by decide +kernel) rfl, im_Model_notes, se_Model_notes, ini_Model⟩
theorem cV_Model_386 : CV "ShakeHandsModel" 386 y_Model_isAs := ⟨tbl_in 1380 (by decide +kernel) rfl, im_Model_isAs, se_Model_isAs, ini_Model⟩
theorem cV_Model_393 : CV "ShakeHandsModel" 393 y_Model_seen := ⟨tbl_in 1394 (by decide +kernel) rfl, im_Model_seen, se_Model_seen, ini_Model⟩
theorem cV_Model_398 : CV "ShakeHandsModel" 398 y_Model_sits := ⟨tbl_in 1415 (by decide +kernel) rfl, im_Model_sits, se_Model_sits, ini_Model⟩
theorem cS_ShakeHands_125 : CS "ShakeHands" 125 y_Integer_bitCount := ⟨tbl_in 522 (by decide +kernel) rfl, st_Integer_bitCount, ini_Integer⟩
theorem cS_ShakeHands_145 : CS "ShakeHands" 145 y_Row_knownOf := ⟨tbl_in 539 (by decide +kernel) rfl, st_Row_knownOf, ini_Row⟩
theorem cS_ShakeHands_151 : CS "ShakeHands" 151 y_Row_sizeOf := ⟨tbl_in 546 (by decide +kernel) rfl, st_Row_sizeOf, ini_Row⟩
theorem cS_ShakeHands_154 : CS "ShakeHands" 154 y_Row_thingOf := ⟨tbl_in 549 (by decide +kernel) rfl, st_Row_thingOf, ini_Row⟩
theorem cS_ShakeHands_158 : CS "ShakeHands" 158 y_ShakeHands_isThing := ⟨tbl_in 556 (by decide +kernel) rfl, st_ShakeHands_isThing, ini_ShakeHands⟩
theorem cS_ShakeHands_161 : CS "ShakeHands" 161 y_Minds_knowers := ⟨tbl_in 559 (by decide +kernel) rfl, st_Minds_knowers, ini_Minds⟩
theorem cS_ShakeHands_179 : CS "ShakeHands" 179 y_ShakeHands_pairOf := ⟨tbl_in 617 (by decide +kernel) rfl, st_ShakeHands_pairOf, ini_ShakeHands⟩
theorem cS_ShakeHands_190 : CS "ShakeHands" 190 y_Minds_known := ⟨tbl_in 639 (by decide +kernel) rfl, st_Minds_known, ini_Minds⟩
theorem cS_ShakeHands_201 : CS "ShakeHands" 201 y_Row_knowsIt := ⟨tbl_in 570 (by decide +kernel) rfl, st_Row_knowsIt, ini_Row⟩
theorem cS_ShakeHands_264 : CS "ShakeHands" 264 y_ShakeHands_isImage := ⟨tbl_in 813 (by decide +kernel) rfl, st_ShakeHands_isImage, ini_ShakeHands⟩
theorem cS_ShakeHands_270 : CS "ShakeHands" 270 y_ShakeHands_isSheet := ⟨tbl_in 829 (by decide +kernel) rfl, st_ShakeHands_isSheet, ini_ShakeHands⟩
theorem cS_ShakeHands_273 : CS "ShakeHands" 273 y_ShakeHands_isLane := ⟨tbl_in 832 (by decide +kernel) rfl, st_ShakeHands_isLane, ini_ShakeHands⟩
theorem cS_Habit_35 : CS "ShakeHands$Habit" 35 y_Minds_knowers := ⟨tbl_in 738 (by decide +kernel) rfl, st_Minds_knowers, ini_Minds⟩
theorem cS_Row_9 : CS "ShakeHands$Row" 9 y_Integer_bitCount := ⟨tbl_in 474 (by decide +kernel) rfl, st_Integer_bitCount, ini_Integer⟩
theorem cS_Search_68 : CS "ShakeHands$Search" 68 y_Search_reaches := ⟨tbl_in 693 (by decide +kernel) rfl, st_Search_reaches, ini_Search⟩
theorem cS_Search_76 : CS "ShakeHands$Search" 76 y_Search_turns := ⟨tbl_in 722 (by decide +kernel) rfl, st_Search_turns, ini_Search⟩
theorem cS_Search_89 : CS "ShakeHands$Search" 89 y_Search_fit := ⟨tbl_in 777 (by decide +kernel) rfl, st_Search_fit, ini_Search⟩
theorem cS_Search_93 : CS "ShakeHands$Search" 93 y_Search_sit := ⟨tbl_in 797 (by decide +kernel) rfl, st_Search_sit, ini_Search⟩
theorem cS_Search_97 : CS "ShakeHands$Search" 97 y_Minds_knowers := ⟨tbl_in 692 (by decide +kernel) rfl, st_Minds_knowers, ini_Minds⟩
theorem cS_Search_104 : CS "ShakeHands$Search" 104 y_Row_knownOf := ⟨tbl_in 784 (by decide +kernel) rfl, st_Row_knownOf, ini_Row⟩
theorem cS_Search_119 : CS "ShakeHands$Search" 119 y_Integer_bitCount := ⟨tbl_in 708 (by decide +kernel) rfl, st_Integer_bitCount, ini_Integer⟩
theorem cS_Search_132 : CS "ShakeHands$Search" 132 y_Search_bitsOf := ⟨tbl_in 700 (by decide +kernel) rfl, st_Search_bitsOf, ini_Search⟩
theorem cS_Search_135 : CS "ShakeHands$Search" 135 y_Search_canMend := ⟨tbl_in 705 (by decide +kernel) rfl, st_Search_canMend, ini_Search⟩
theorem cS_Teller_187 : CS "ShakeHands$Teller" 187 y_Integer_bitCount := ⟨tbl_in 464 (by decide +kernel) rfl, st_Integer_bitCount, ini_Integer⟩
theorem cS_Model_87 : CS "ShakeHandsModel" 87 y_Model_pairOf := ⟨tbl_in 883 (by decide +kernel) rfl, st_Model_pairOf, ini_Model⟩
theorem cS_Model_134 : CS "ShakeHandsModel" 134 y_Model_flag := ⟨tbl_in 894 (by decide +kernel) rfl, st_Model_flag, ini_Model⟩
theorem cS_Model_143 : CS "ShakeHandsModel" 143 y_Model_in := ⟨tbl_in 1073 (by decide +kernel) rfl, st_Model_in, ini_Model⟩
theorem cS_Model_224 : CS "ShakeHandsModel" 224 y_Model_bitsOf := ⟨tbl_in 1152 (by decide +kernel) rfl, st_Model_bitsOf, ini_Model⟩
theorem cS_Model_272 : CS "ShakeHandsModel" 272 y_Model_isThing := ⟨tbl_in 1192 (by decide +kernel) rfl, st_Model_isThing, ini_Model⟩
theorem cS_Model_403 : CS "ShakeHandsModel" 403 y_Model_isSheet := ⟨tbl_in 1435 (by decide +kernel) rfl, st_Model_isSheet, ini_Model⟩
theorem cSN_Search_146 : CSN "ShakeHands$Search" 146 y_ShakeHands_pairOf := ⟨by decide +kernel, st_ShakeHands_pairOf, ini_ShakeHands⟩
theorem cSN_Teller_206 : CSN "ShakeHands$Teller" 206 y_ShakeHands_pairOf := ⟨by decide +kernel, st_ShakeHands_pairOf, ini_ShakeHands⟩
theorem dn_Circle_beAsAtFirst : Dn y_Circle_beAsAtFirst 0 := ⟨by decide +kernel, by decide +kernel, by decide +kernel⟩
theorem dn_Circle_celebrate : Dn y_Circle_celebrate 3 := ⟨by decide +kernel, by decide +kernel, by decide +kernel⟩
theorem dn_Circle_copy : Dn y_Circle_copy 1 := ⟨by decide +kernel, by decide +kernel, by decide +kernel⟩
theorem dn_Circle_firstJoin : Dn y_Circle_firstJoin 0 := ⟨by decide +kernel, by decide +kernel, by decide +kernel⟩
theorem dn_Circle_liveDay : Dn y_Circle_liveDay 2 := ⟨by decide +kernel, by decide +kernel, by decide +kernel⟩
theorem dn_Circle_meet : Dn y_Circle_meet 3 := ⟨by decide +kernel, by decide +kernel, by decide +kernel⟩
theorem dn_Circle_settle : Dn y_Circle_settle 0 := ⟨by decide +kernel, by decide +kernel, by decide +kernel⟩
theorem dn_Circle_taught : Dn y_Circle_taught 2 := ⟨by decide +kernel, by decide +kernel, by decide +kernel⟩
theorem dn_Circle_without : Dn y_Circle_without 2 := ⟨by decide +kernel, by decide +kernel, by decide +kernel⟩
theorem dn_Habit_comesBack : Dn y_Habit_comesBack 1 := ⟨by decide +kernel, by decide +kernel, by decide +kernel⟩
theorem dn_Habit_lastDay : Dn y_Habit_lastDay 1 := ⟨by decide +kernel, by decide +kernel, by decide +kernel⟩
theorem dn_Habit_sameDay : Dn y_Habit_sameDay 1 := ⟨by decide +kernel, by decide +kernel, by decide +kernel⟩
theorem dn_Integer_bitCount : Dn y_Integer_bitCount 1 := ⟨by decide +kernel, by decide +kernel, by decide +kernel⟩
theorem dn_Minds_copy : Dn y_Minds_copy 1 := ⟨by decide +kernel, by decide +kernel, by decide +kernel⟩
theorem dn_Minds_knowers : Dn y_Minds_knowers 2 := ⟨by decide +kernel, by decide +kernel, by decide +kernel⟩
theorem dn_Minds_known : Dn y_Minds_known 1 := ⟨by decide +kernel, by decide +kernel, by decide +kernel⟩
theorem dn_Model_aDay : Dn y_Model_aDay 1 := ⟨by decide +kernel, by decide +kernel, by decide +kernel⟩
theorem dn_Model_aRow : Dn y_Model_aRow 1 := ⟨by decide +kernel, by decide +kernel, by decide +kernel⟩
theorem dn_Model_adds : Dn y_Model_adds 1 := ⟨by decide +kernel, by decide +kernel, by decide +kernel⟩
theorem dn_Model_anyIn : Dn y_Model_anyIn 1 := ⟨by decide +kernel, by decide +kernel, by decide +kernel⟩
theorem dn_Model_anyNow : Dn y_Model_anyNow 0 := ⟨by decide +kernel, by decide +kernel, by decide +kernel⟩
theorem dn_Model_areOnes : Dn y_Model_areOnes 1 := ⟨by decide +kernel, by decide +kernel, by decide +kernel⟩
theorem dn_Model_areTwo : Dn y_Model_areTwo 2 := ⟨by decide +kernel, by decide +kernel, by decide +kernel⟩
theorem dn_Model_asks : Dn y_Model_asks 4 := ⟨by decide +kernel, by decide +kernel, by decide +kernel⟩
theorem dn_Model_becomes : Dn y_Model_becomes 1 := ⟨by decide +kernel, by decide +kernel, by decide +kernel⟩
theorem dn_Model_begins : Dn y_Model_begins 1 := ⟨by decide +kernel, by decide +kernel, by decide +kernel⟩
theorem dn_Model_bitsOf : Dn y_Model_bitsOf 1 := ⟨by decide +kernel, by decide +kernel, by decide +kernel⟩
theorem dn_Model_copies : Dn y_Model_copies 2 := ⟨by decide +kernel, by decide +kernel, by decide +kernel⟩
theorem dn_Model_drops : Dn y_Model_drops 1 := ⟨by decide +kernel, by decide +kernel, by decide +kernel⟩
theorem dn_Model_feasts : Dn y_Model_feasts 2 := ⟨by decide +kernel, by decide +kernel, by decide +kernel⟩
theorem dn_Model_fewestHands : Dn y_Model_fewestHands 0 := ⟨by decide +kernel, by decide +kernel, by decide +kernel⟩
theorem dn_Model_firstDraft : Dn y_Model_firstDraft 0 := ⟨by decide +kernel, by decide +kernel, by decide +kernel⟩
theorem dn_Model_flag : Dn y_Model_flag 1 := ⟨by decide +kernel, by decide +kernel, by decide +kernel⟩
theorem dn_Model_freeFrom : Dn y_Model_freeFrom 1 := ⟨by decide +kernel, by decide +kernel, by decide +kernel⟩
theorem dn_Model_goesRound : Dn y_Model_goesRound 2 := ⟨by decide +kernel, by decide +kernel, by decide +kernel⟩
theorem dn_Model_in : Dn y_Model_in 3 := ⟨by decide +kernel, by decide +kernel, by decide +kernel⟩
theorem dn_Model_is : Dn y_Model_is 5 := ⟨by decide +kernel, by decide +kernel, by decide +kernel⟩
theorem dn_Model_isAs : Dn y_Model_isAs 2 := ⟨by decide +kernel, by decide +kernel, by decide +kernel⟩
theorem dn_Model_isFreePair : Dn y_Model_isFreePair 1 := ⟨by decide +kernel, by decide +kernel, by decide +kernel⟩
theorem dn_Model_isGood : Dn y_Model_isGood 1 := ⟨by decide +kernel, by decide +kernel, by decide +kernel⟩
theorem dn_Model_isHeld : Dn y_Model_isHeld 0 := ⟨by decide +kernel, by decide +kernel, by decide +kernel⟩
theorem dn_Model_isOne : Dn y_Model_isOne 1 := ⟨by decide +kernel, by decide +kernel, by decide +kernel⟩
theorem dn_Model_isRound : Dn y_Model_isRound 1 := ⟨by decide +kernel, by decide +kernel, by decide +kernel⟩
theorem dn_Model_isSeen : Dn y_Model_isSeen 1 := ⟨by decide +kernel, by decide +kernel, by decide +kernel⟩
theorem dn_Model_isSheet : Dn y_Model_isSheet 2 := ⟨by decide +kernel, by decide +kernel, by decide +kernel⟩
theorem dn_Model_isStill : Dn y_Model_isStill 1 := ⟨by decide +kernel, by decide +kernel, by decide +kernel⟩
theorem dn_Model_isThing : Dn y_Model_isThing 1 := ⟨by decide +kernel, by decide +kernel, by decide +kernel⟩
theorem dn_Model_keepDraft : Dn y_Model_keepDraft 0 := ⟨by decide +kernel, by decide +kernel, by decide +kernel⟩
theorem dn_Model_knowsIn : Dn y_Model_knowsIn 2 := ⟨by decide +kernel, by decide +kernel, by decide +kernel⟩
theorem dn_Model_knowsIt : Dn y_Model_knowsIt 2 := ⟨by decide +kernel, by decide +kernel, by decide +kernel⟩
theorem dn_Model_knowsNow : Dn y_Model_knowsNow 1 := ⟨by decide +kernel, by decide +kernel, by decide +kernel⟩
theorem dn_Model_layRounds : Dn y_Model_layRounds 0 := ⟨by decide +kernel, by decide +kernel, by decide +kernel⟩
theorem dn_Model_layRows : Dn y_Model_layRows 2 := ⟨by decide +kernel, by decide +kernel, by decide +kernel⟩
theorem dn_Model_look : Dn y_Model_look 1 := ⟨by decide +kernel, by decide +kernel, by decide +kernel⟩
theorem dn_Model_looked : Dn y_Model_looked 2 := ⟨by decide +kernel, by decide +kernel, by decide +kernel⟩
theorem dn_Model_nameNow : Dn y_Model_nameNow 0 := ⟨by decide +kernel, by decide +kernel, by decide +kernel⟩
theorem dn_Model_needs : Dn y_Model_needs 2 := ⟨by decide +kernel, by decide +kernel, by decide +kernel⟩
theorem dn_Model_next : Dn y_Model_next 0 := ⟨by decide +kernel, by decide +kernel, by decide +kernel⟩
theorem dn_Model_notes : Dn y_Model_notes 1 := ⟨by decide +kernel, by decide +kernel, by decide +kernel⟩
theorem dn_Model_pairOf : Dn y_Model_pairOf 2 := ⟨by decide +kernel, by decide +kernel, by decide +kernel⟩
theorem dn_Model_place : Dn y_Model_place 1 := ⟨by decide +kernel, by decide +kernel, by decide +kernel⟩
theorem dn_Model_puts : Dn y_Model_puts 2 := ⟨by decide +kernel, by decide +kernel, by decide +kernel⟩
theorem dn_Model_readGlove : Dn y_Model_readGlove 0 := ⟨by decide +kernel, by decide +kernel, by decide +kernel⟩
theorem dn_Model_readHand : Dn y_Model_readHand 0 := ⟨by decide +kernel, by decide +kernel, by decide +kernel⟩
theorem dn_Model_readJoin : Dn y_Model_readJoin 0 := ⟨by decide +kernel, by decide +kernel, by decide +kernel⟩
theorem dn_Model_readKnows : Dn y_Model_readKnows 0 := ⟨by decide +kernel, by decide +kernel, by decide +kernel⟩
theorem dn_Model_readLine : Dn y_Model_readLine 0 := ⟨by decide +kernel, by decide +kernel, by decide +kernel⟩
theorem dn_Model_readNumber : Dn y_Model_readNumber 2 := ⟨by decide +kernel, by decide +kernel, by decide +kernel⟩
theorem dn_Model_seen : Dn y_Model_seen 0 := ⟨by decide +kernel, by decide +kernel, by decide +kernel⟩
theorem dn_Model_settles : Dn y_Model_settles 0 := ⟨by decide +kernel, by decide +kernel, by decide +kernel⟩
theorem dn_Model_shakes : Dn y_Model_shakes 3 := ⟨by decide +kernel, by decide +kernel, by decide +kernel⟩
theorem dn_Model_shakesNow : Dn y_Model_shakesNow 1 := ⟨by decide +kernel, by decide +kernel, by decide +kernel⟩
theorem dn_Model_sits : Dn y_Model_sits 1 := ⟨by decide +kernel, by decide +kernel, by decide +kernel⟩
theorem dn_Model_takes : Dn y_Model_takes 2 := ⟨by decide +kernel, by decide +kernel, by decide +kernel⟩
theorem dn_Model_tells : Dn y_Model_tells 1 := ⟨by decide +kernel, by decide +kernel, by decide +kernel⟩
theorem dn_Model_whoIn : Dn y_Model_whoIn 2 := ⟨by decide +kernel, by decide +kernel, by decide +kernel⟩
theorem dn_Model_whoNow : Dn y_Model_whoNow 1 := ⟨by decide +kernel, by decide +kernel, by decide +kernel⟩
theorem dn_Model_worn : Dn y_Model_worn 0 := ⟨by decide +kernel, by decide +kernel, by decide +kernel⟩
theorem dn_Row_add : Dn y_Row_add 1 := ⟨by decide +kernel, by decide +kernel, by decide +kernel⟩
theorem dn_Row_addAll : Dn y_Row_addAll 1 := ⟨by decide +kernel, by decide +kernel, by decide +kernel⟩
theorem dn_Row_atRest : Dn y_Row_atRest 0 := ⟨by decide +kernel, by decide +kernel, by decide +kernel⟩
theorem dn_Row_drop : Dn y_Row_drop 1 := ⟨by decide +kernel, by decide +kernel, by decide +kernel⟩
theorem dn_Row_knownOf : Dn y_Row_knownOf 1 := ⟨by decide +kernel, by decide +kernel, by decide +kernel⟩
theorem dn_Row_knowsIt : Dn y_Row_knowsIt 2 := ⟨by decide +kernel, by decide +kernel, by decide +kernel⟩
theorem dn_Row_shorten : Dn y_Row_shorten 1 := ⟨by decide +kernel, by decide +kernel, by decide +kernel⟩
theorem dn_Row_sizeOf : Dn y_Row_sizeOf 1 := ⟨by decide +kernel, by decide +kernel, by decide +kernel⟩
theorem dn_Row_take : Dn y_Row_take 1 := ⟨by decide +kernel, by decide +kernel, by decide +kernel⟩
theorem dn_Row_thingOf : Dn y_Row_thingOf 2 := ⟨by decide +kernel, by decide +kernel, by decide +kernel⟩
theorem dn_Search_aim : Dn y_Search_aim 4 := ⟨by decide +kernel, by decide +kernel, by decide +kernel⟩
theorem dn_Search_amiss : Dn y_Search_amiss 1 := ⟨by decide +kernel, by decide +kernel, by decide +kernel⟩
theorem dn_Search_begin : Dn y_Search_begin 0 := ⟨by decide +kernel, by decide +kernel, by decide +kernel⟩
theorem dn_Search_bitsOf : Dn y_Search_bitsOf 1 := ⟨by decide +kernel, by decide +kernel, by decide +kernel⟩
theorem dn_Search_canMend : Dn y_Search_canMend 3 := ⟨by decide +kernel, by decide +kernel, by decide +kernel⟩
theorem dn_Search_countFits : Dn y_Search_countFits 1 := ⟨by decide +kernel, by decide +kernel, by decide +kernel⟩
theorem dn_Search_countSeats : Dn y_Search_countSeats 0 := ⟨by decide +kernel, by decide +kernel, by decide +kernel⟩
theorem dn_Search_fewestHands : Dn y_Search_fewestHands 0 := ⟨by decide +kernel, by decide +kernel, by decide +kernel⟩
theorem dn_Search_fewestRounds : Dn y_Search_fewestRounds 0 := ⟨by decide +kernel, by decide +kernel, by decide +kernel⟩
theorem dn_Search_fit : Dn y_Search_fit 4 := ⟨by decide +kernel, by decide +kernel, by decide +kernel⟩
theorem dn_Search_isBarred : Dn y_Search_isBarred 1 := ⟨by decide +kernel, by decide +kernel, by decide +kernel⟩
theorem dn_Search_reaches : Dn y_Search_reaches 3 := ⟨by decide +kernel, by decide +kernel, by decide +kernel⟩
theorem dn_Search_sit : Dn y_Search_sit 3 := ⟨by decide +kernel, by decide +kernel, by decide +kernel⟩
theorem dn_Search_step : Dn y_Search_step 2 := ⟨by decide +kernel, by decide +kernel, by decide +kernel⟩
theorem dn_Search_turns : Dn y_Search_turns 5 := ⟨by decide +kernel, by decide +kernel, by decide +kernel⟩
theorem dn_Search_unlikeSeen : Dn y_Search_unlikeSeen 1 := ⟨by decide +kernel, by decide +kernel, by decide +kernel⟩
theorem dn_ShakeHands_arePeople : Dn y_ShakeHands_arePeople 1 := ⟨by decide +kernel, by decide +kernel, by decide +kernel⟩
theorem dn_ShakeHands_areTwo : Dn y_ShakeHands_areTwo 2 := ⟨by decide +kernel, by decide +kernel, by decide +kernel⟩
theorem dn_ShakeHands_everybody : Dn y_ShakeHands_everybody 0 := ⟨by decide +kernel, by decide +kernel, by decide +kernel⟩
theorem dn_ShakeHands_fewestGloves : Dn y_ShakeHands_fewestGloves 2 := ⟨by decide +kernel, by decide +kernel, by decide +kernel⟩
theorem dn_ShakeHands_isFeastPart : Dn y_ShakeHands_isFeastPart 1 := ⟨by decide +kernel, by decide +kernel, by decide +kernel⟩
theorem dn_ShakeHands_isImage : Dn y_ShakeHands_isImage 1 := ⟨by decide +kernel, by decide +kernel, by decide +kernel⟩
theorem dn_ShakeHands_isLane : Dn y_ShakeHands_isLane 1 := ⟨by decide +kernel, by decide +kernel, by decide +kernel⟩
theorem dn_ShakeHands_isOne : Dn y_ShakeHands_isOne 1 := ⟨by decide +kernel, by decide +kernel, by decide +kernel⟩
theorem dn_ShakeHands_isSheet : Dn y_ShakeHands_isSheet 1 := ⟨by decide +kernel, by decide +kernel, by decide +kernel⟩
theorem dn_ShakeHands_isThing : Dn y_ShakeHands_isThing 1 := ⟨by decide +kernel, by decide +kernel, by decide +kernel⟩
theorem dn_ShakeHands_knownToAll : Dn y_ShakeHands_knownToAll 0 := ⟨by decide +kernel, by decide +kernel, by decide +kernel⟩
theorem dn_ShakeHands_knowsNow : Dn y_ShakeHands_knowsNow 2 := ⟨by decide +kernel, by decide +kernel, by decide +kernel⟩
theorem dn_ShakeHands_pairOf : Dn y_ShakeHands_pairOf 2 := ⟨by decide +kernel, by decide +kernel, by decide +kernel⟩
theorem dn_ShakeHands_takeTrial : Dn y_ShakeHands_takeTrial 0 := ⟨by decide +kernel, by decide +kernel, by decide +kernel⟩
theorem dn_Sheet_cellAt : Dn y_Sheet_cellAt 1 := ⟨by decide +kernel, by decide +kernel, by decide +kernel⟩
theorem dn_Sheet_faultAt : Dn y_Sheet_faultAt 1 := ⟨by decide +kernel, by decide +kernel, by decide +kernel⟩
theorem dn_Sheet_faultOfTwo : Dn y_Sheet_faultOfTwo 2 := ⟨by decide +kernel, by decide +kernel, by decide +kernel⟩
theorem dn_Sheet_put : Dn y_Sheet_put 2 := ⟨by decide +kernel, by decide +kernel, by decide +kernel⟩
theorem dn_Sheet_renew : Dn y_Sheet_renew 2 := ⟨by decide +kernel, by decide +kernel, by decide +kernel⟩
theorem dn_String_charAt : Dn y_String_charAt 1 := ⟨by decide +kernel, by decide +kernel, by decide +kernel⟩
theorem dn_String_length : Dn y_String_length 0 := ⟨by decide +kernel, by decide +kernel, by decide +kernel⟩
theorem dn_Tape_append : Dn y_Tape_append 1 := ⟨by decide +kernel, by decide +kernel, by decide +kernel⟩
theorem dn_Teller_begin : Dn y_Teller_begin 0 := ⟨by decide +kernel, by decide +kernel, by decide +kernel⟩
theorem dn_Teller_boundedValue : Dn y_Teller_boundedValue 2 := ⟨by decide +kernel, by decide +kernel, by decide +kernel⟩
theorem dn_Teller_isCalled : Dn y_Teller_isCalled 1 := ⟨by decide +kernel, by decide +kernel, by decide +kernel⟩
theorem dn_Teller_isWithin : Dn y_Teller_isWithin 2 := ⟨by decide +kernel, by decide +kernel, by decide +kernel⟩
theorem dn_Teller_lookBack : Dn y_Teller_lookBack 0 := ⟨by decide +kernel, by decide +kernel, by decide +kernel⟩
theorem dn_Teller_readToken : Dn y_Teller_readToken 0 := ⟨by decide +kernel, by decide +kernel, by decide +kernel⟩
theorem dn_Teller_refuse : Dn y_Teller_refuse 1 := ⟨by decide +kernel, by decide +kernel, by decide +kernel⟩
theorem dn_Teller_takeNumber : Dn y_Teller_takeNumber 2 := ⟨by decide +kernel, by decide +kernel, by decide +kernel⟩
theorem dn_Teller_takeSign : Dn y_Teller_takeSign 0 := ⟨by decide +kernel, by decide +kernel, by decide +kernel⟩
theorem dn_Teller_tell : Dn y_Teller_tell 0 := ⟨by decide +kernel, by decide +kernel, by decide +kernel⟩
theorem dn_Teller_tellGlove : Dn y_Teller_tellGlove 0 := ⟨by decide +kernel, by decide +kernel, by decide +kernel⟩
theorem dn_Teller_tellHold : Dn y_Teller_tellHold 0 := ⟨by decide +kernel, by decide +kernel, by decide +kernel⟩
theorem dn_Teller_tellJoin : Dn y_Teller_tellJoin 0 := ⟨by decide +kernel, by decide +kernel, by decide +kernel⟩
theorem dn_Teller_tellLine : Dn y_Teller_tellLine 0 := ⟨by decide +kernel, by decide +kernel, by decide +kernel⟩
theorem dn_Teller_tellPair : Dn y_Teller_tellPair 2 := ⟨by decide +kernel, by decide +kernel, by decide +kernel⟩
theorem dn_Teller_tellPeople : Dn y_Teller_tellPeople 0 := ⟨by decide +kernel, by decide +kernel, by decide +kernel⟩
theorem dn_Teller_tellRow : Dn y_Teller_tellRow 0 := ⟨by decide +kernel, by decide +kernel, by decide +kernel⟩
theorem dn_Teller_tellThing : Dn y_Teller_tellThing 1 := ⟨by decide +kernel, by decide +kernel, by decide +kernel⟩
theorem in_nat {i : Int32} {n : Nat} (h : vp_in i n) : i.toNatClampNeg < n := Nat.not_le.mp fun q => h (Or.inr q)
theorem sh_images {i : Int32} (h : vp_in i 2) : SHx[([20, 23] : List Nat).getD i.toNatClampNeg 0]? = some (2, [([20, 23] : List Nat).getD i.toNatClampNeg 0 + 1 + 2, 0, 0, ([20, 23] : List Nat).getD i.toNatClampNeg 0 + 2 + 2]) ∧ SHx[([20, 23] : List Nat).getD i.toNatClampNeg 0 + 1]? = some (103, [6]) ∧ SHx[([20, 23] : List Nat).getD i.toNatClampNeg 0 + 2]? = some (100, [6]) := by
  have h := in_nat h
  generalize i.toNatClampNeg = j at h ⊢
  match j, h with
  | 0, _ => exact ⟨rfl, rfl, rfl⟩
  | 1, _ => exact ⟨rfl, rfl, rfl⟩
theorem sh_sheets {i : Int32} (h : vp_in i 4) : SHx[([41, 43, 45, 47] : List Nat).getD i.toNatClampNeg 0]? = some (5, [0, 0, 0, ([41, 43, 45, 47] : List Nat).getD i.toNatClampNeg 0 + 1 + 2]) ∧ SHx[([41, 43, 45, 47] : List Nat).getD i.toNatClampNeg 0 + 1]? = some (100, [40]) := by
  have h := in_nat h
  generalize i.toNatClampNeg = j at h ⊢
  match j, h with
  | 0, _ => exact ⟨rfl, rfl⟩
  | 1, _ => exact ⟨rfl, rfl⟩
  | 2, _ => exact ⟨rfl, rfl⟩
  | 3, _ => exact ⟨rfl, rfl⟩
theorem sh_level {i : Int32} (h : vp_in i 7) : SHx[([30, 31, 32, 33, 34, 35, 36] : List Nat).getD i.toNatClampNeg 0]? = some (103, [6]) := by
  have h := in_nat h
  generalize i.toNatClampNeg = j at h ⊢
  match j, h with
  | 0, _ => exact rfl
  | 1, _ => exact rfl
  | 2, _ => exact rfl
  | 3, _ => exact rfl
  | 4, _ => exact rfl
  | 5, _ => exact rfl
  | 6, _ => exact rfl
theorem sw_ne {x v : Int32} (h : ¬ x = v) : ¬ x.toInt = v.toInt := fun e => h (Int32.toInt_inj.mp e)
theorem sw_out5 {x : Int32} (h0 : ¬ x = 0) (h1 : ¬ x = 1) (h2 : ¬ x = 2) (h3 : ¬ x = 3) (h4 : ¬ x = 4) (h5 : ¬ x = 5) : x.toInt < 0 ∨ 5 < x.toInt := by
  have e0 : ¬ x.toInt = 0 := sw_ne h0
  have e1 : ¬ x.toInt = 1 := sw_ne h1
  have e2 : ¬ x.toInt = 2 := sw_ne h2
  have e3 : ¬ x.toInt = 3 := sw_ne h3
  have e4 : ¬ x.toInt = 4 := sw_ne h4
  have e5 : ¬ x.toInt = 5 := sw_ne h5
  omega
theorem sw_out6 {x : Int32} (h0 : ¬ x = 0) (h1 : ¬ x = 1) (h2 : ¬ x = 2) (h3 : ¬ x = 3) (h4 : ¬ x = 4) (h5 : ¬ x = 5) (h6 : ¬ x = 6) : x.toInt < 0 ∨ 6 < x.toInt := by
  have e0 : ¬ x.toInt = 0 := sw_ne h0
  have e1 : ¬ x.toInt = 1 := sw_ne h1
  have e2 : ¬ x.toInt = 2 := sw_ne h2
  have e3 : ¬ x.toInt = 3 := sw_ne h3
  have e4 : ¬ x.toInt = 4 := sw_ne h4
  have e5 : ¬ x.toInt = 5 := sw_ne h5
  have e6 : ¬ x.toInt = 6 := sw_ne h6
  omega
def zr (x : Int32) (M : Mem) : Option (Int32 × Mem) := if x = 0 ∨ x = 1 then some (x, M) else none
theorem j_zr {mt : Mt} {pc : Nat} {lv : List (Nat × Value)} {M : Mem} {x : Int32} (hd : decode mt.2.1 pc = .ok (.ireturn, 1)) (hrt : mt.2.2.2.1 = some .boolean) : J mt wI pc lv [.int x] M (zr x M) := by
  unfold zr
  by_cases h : x = 0 ∨ x = 1
  · rw [if_pos h]
    refine j_zreturn hd hrt ?_
    rcases h with rfl | rfl <;> rfl
  · rw [if_neg h]; exact j_none
theorem j_split {R : Type} {mt : Mt} {wr : R → Option Value} {pc : Nat} {lv : List (Nat × Value)} {st : List Value} {M : Mem} {F G : Option (R × Mem)} {c : Prop} [Decidable c] (K : c → J mt wr pc lv st M F) (L : ¬ c → J mt wr pc lv st M G) : J mt wr pc lv st M (if c then F else G) := by
  by_cases h : c
  · rw [if_pos h]; exact K h
  · rw [if_neg h]; exact L h
theorem j_nmk {R σ : Type} {mt : Mt} {wr : R → Option Value} {pc : Nat} {lv : List (Nat × Value)} {st : List Value} {M : Mem} {e : σ} {f : σ → Option (R × Mem)} (P : σ → Prop) (he : P e) (K : ∀ k : σ, P k → J mt wr pc lv st M (f k)) : J mt wr pc lv st M (nm e f) := K e he
end
section
/-! STRINGS: the constants that isCalled is asked of (ids 210.., their bytes 220..) -/
theorem j_ldcS {R : Type} {mt : Mt} {wr : R → Option Value} {pc : Nat} {lv : List (Nat × Value)} {st : List Value} {M : Mem} {F : Option (R × Mem)} {own : String} {i k : Nat} {tx : String} (hd : decode mt.2.1 pc = .ok (.ldc i, 2)) (ho : mt.1 = "ShakeHands$Teller") (hk : stTxt[k]? = some (i, tx)) (K : J mt wr (pc + 2) lv (.ref (210 + k) :: st) M F) : J mt wr pc lv st M F := by
  intro r M' hF p l e s m args below meth c D ad dA A hp H locs ls hP hD hS hl
  obtain ⟨hx, hb, hr, hml, hown, hts, hlk, hC⟩ := id hp
  rw [ho] at hown
  exact va_ldcS hx hb hown (hC.2.2.2.2.2.2.1 k (i, tx) hk) hd (K r M' hF p l e s m args below meth c D ad dA A hp H locs ls hP hD hS hl)
theorem sw_value : Cond.fieldLink "java/lang/String" 9 "java/lang/String" "value" "[B" ∈ tbl := tbl_in 1458 (by decide +kernel) rfl
theorem sw_coder : Cond.fieldLink "java/lang/String" 15 "java/lang/String" "coder" "B" ∈ tbl := tbl_in 1459 (by decide +kernel) rfl
theorem sw_compact : Cond.fieldLink "java/lang/String" 38 "java/lang/String" "COMPACT_STRINGS" "Z" ∈ tbl := tbl_in 386 (by decide +kernel) rfl
theorem sw_form : Cond.fieldLink "java/lang/String" 1053 "jdk/internal/util/Preconditions" "SIOOBE_FORMATTER" "Ljava/util/function/BiFunction;" ∈ tbl := tbl_in 402 (by decide +kernel) rfl
theorem j_strValue {R : Type} {mt : Mt} {wr : R → Option Value} {pc : Nat} {lv : List (Nat × Value)} {st : List Value} {M : Mem} {F : Option (R × Mem)} {k : Nat} (hd : decode mt.2.1 pc = .ok (.getfield 9, 3)) (ho : mt.1 = "java/lang/String") (hk : k < 7) (K : J mt wr (pc + 3) lv (.ref (220 + k) :: st) M F) : J mt wr pc lv (.ref (210 + k) :: st) M F := by
  intro r M' hF p l e s m args below meth c D ad dA A hp H locs ls hP hD hS hl
  obtain ⟨hx, hb, hr, hml, hown, hts, hlk, hC⟩ := id hp
  rw [ho] at hown
  exact vk_getf hx hb (hC.2.2.2.2.2.1.1 k hk).2.2.1 hS hown (hts _ sw_value) (fun x h => h) hd (K r M' hF p l e s m args below meth c D ad dA A hp H locs ls hP hD hS hl)
theorem j_strCoder {R : Type} {mt : Mt} {wr : R → Option Value} {pc : Nat} {lv : List (Nat × Value)} {st : List Value} {M : Mem} {F : Option (R × Mem)} {k : Nat} (hd : decode mt.2.1 pc = .ok (.getfield 15, 3)) (ho : mt.1 = "java/lang/String") (hk : k < 7) (K : J mt wr (pc + 3) lv (.int 0 :: st) M F) : J mt wr pc lv (.ref (210 + k) :: st) M F := by
  intro r M' hF p l e s m args below meth c D ad dA A hp H locs ls hP hD hS hl
  obtain ⟨hx, hb, hr, hml, hown, hts, hlk, hC⟩ := id hp
  rw [ho] at hown
  exact vk_getf hx hb (hC.2.2.2.2.2.1.1 k hk).2.1 hS hown (hts _ sw_coder) (fun x h => h) hd (K r M' hF p l e s m args below meth c D ad dA A hp H locs ls hP hD hS hl)
theorem j_compact {R : Type} {mt : Mt} {wr : R → Option Value} {pc : Nat} {lv : List (Nat × Value)} {st : List Value} {M : Mem} {F : Option (R × Mem)} (hd : decode mt.2.1 pc = .ok (.getstatic 38, 3)) (ho : mt.1 = "java/lang/String") (K : J mt wr (pc + 3) lv (.int 1 :: st) M F) : J mt wr pc lv st M F := by
  intro r M' hF p l e s m args below meth c D ad dA A hp H locs ls hP hD hS hl
  obtain ⟨hx, hb, hr, hml, hown, hts, hlk, hC⟩ := id hp
  rw [ho] at hown
  exact va_gets hx hb hC.2.2.2.2.2.2.2.1 hS hown (hts _ sw_compact) (fun x h => h) hd (K r M' hF p l e s m args below meth c D ad dA A hp H locs ls hP hD hS hl)
theorem j_form {R : Type} {mt : Mt} {wr : R → Option Value} {pc : Nat} {lv : List (Nat × Value)} {st : List Value} {M : Mem} {F : Option (R × Mem)} (hd : decode mt.2.1 pc = .ok (.getstatic 1053, 3)) (ho : mt.1 = "java/lang/String") (K1 : J mt wr (pc + 3) lv (.null :: st) M F) (K2 : J mt wr (pc + 3) lv (.ref 230 :: st) M F) : J mt wr pc lv st M F := by
  intro r M' hF p l e s m args below meth c D ad dA A hp H locs ls hP hD hS hl
  obtain ⟨hx, hb, hr, hml, hown, hts, hlk, hC⟩ := id hp
  rw [ho] at hown
  rcases hC.2.2.2.2.2.2.2.2.1 with h | h
  · exact va_gets hx hb h hS hown (hts _ sw_form) (fun x h => h) hd (K1 r M' hF p l e s m args below meth c D ad dA A hp H locs ls hP hD hS hl)
  · exact va_gets hx hb h hS hown (hts _ sw_form) (fun x h => h) hd (K2 r M' hF p l e s m args below meth c D ad dA A hp H locs ls hP hD hS hl)
theorem j_strLen {R : Type} {mt : Mt} {wr : R → Option Value} {pc : Nat} {lv : List (Nat × Value)} {st : List Value} {M : Mem} {F : Option (R × Mem)} {k : Nat} (hd : decode mt.2.1 pc = .ok (.arraylength, 1)) (hk : k < 7) (K : J mt wr (pc + 1) lv (.int (nI (stLen.getD k 0)) :: st) M F) : J mt wr pc lv (.ref (220 + k) :: st) M F := by
  intro r M' hF p l e s m args below meth c D ad dA A hp H locs ls hP hD hS hl
  obtain ⟨hx, hb, hr, hml, hown, hts, hlk, hC⟩ := id hp
  exact va_tlen hx hb (hC.2.2.2.2.2.1.1 k hk).2.2.2 hS rfl hd (K r M' hF p l e s m args below meth c D ad dA A hp H locs ls hP hD hS hl)
theorem j_strByte {R : Type} {mt : Mt} {wr : R → Option Value} {pc : Nat} {lv : List (Nat × Value)} {st : List Value} {M : Mem} {F : Option (R × Mem)} {k : Nat} {i : Int32} (hd : decode mt.2.1 pc = .ok (.baload, 1)) (hk : k < 7) (hin : vp_in i (stLen.getD k 0)) (K : J mt wr (pc + 1) lv (.int ((stByt.getD k []).getD i.toNatClampNeg 0) :: st) M F) : J mt wr pc lv (.int i :: .ref (220 + k) :: st) M F := by
  intro r M' hF p l e s m args below meth c D ad dA A hp H locs ls hP hD hS hl
  obtain ⟨hx, hb, hr, hml, hown, hts, hlk, hC⟩ := id hp
  exact va_tb hx hb (hC.2.2.2.2.2.1.1 k hk).2.2.2 hS hin rfl hd (K r M' hF p l e s m args below meth c D ad dA A hp H locs ls hP hD hS hl)
theorem j_callVS {R : Type} {mt : Mt} {wr : R → Option Value} {pc : Nat} {lv : List (Nat × Value)} {st : List Value} {M : Mem} {R2 : Type} {wr2 : R2 → Option Value} {mt2 : Mt} {F2 : Option (R2 × Mem)} {k : R2 → Mem → Option (R × Mem)} {y : MethodName} {idx n : Nat} {as : List Value} {q : Nat} (hd : decode mt.2.1 pc = .ok (.invokevirtual idx, 3)) (hct : Ct y mt2 wr2 (.ref (210 + q) :: as) M F2) (hw : CV mt.1 idx y) (hcd : Cond.code y mt2.2.1 mt2.2.2.1 mt2.2.2.2.1 ∈ tbl) (hdn : Dn y n) (hn : as.length = n) (hsh : mt2.2.2.2.2.2 = mt.2.2.2.2.2) (hdp : mt2.2.2.2.2.1 + 1 ≤ mt.2.2.2.2.1) (hmx : mt2.2.2.1 ≤ 40) (hst : (st.map fun v => v.category).sum ≤ 8) (hnr : nr wr2) (hq : q < 7) (hcl : y.cls = "java/lang/String") (K : ∀ (r : R2) (N : Mem), J mt wr (pc + 3) lv ((wr2 r).toList ++ st) N (k r N)) : J mt wr pc lv (as.reverse ++ .ref (210 + q) :: st) M (bd F2 k) := by
  intro r M' hF p l e s m args below meth c D ad dA A hp H locs ls hP hD hS hl
  obtain ⟨hx, hb, hr, hml, hown, hts, hlk, hC⟩ := id hp
  obtain ⟨r1, M1, hF1, hF⟩ := bd_some hF
  have hM := hct r1 M1 hF1 l D ad dA A
  have hR : (rmd mt2.2.2.2.2.1).frames + 1 ≤ (rmd mt.2.2.2.2.1).frames ∧ 8 + (mt2.2.2.1 + 11) + (rmd mt2.2.2.2.2.1).locals ≤ (rmd mt.2.2.2.2.1).locals := by
    refine ⟨hdp, ?_⟩
    show 8 + (mt2.2.2.1 + 11) + 64 * mt2.2.2.2.2.1 ≤ 64 * mt.2.2.2.2.1
    omega
  refine wr_call (wv := wr2 r1) (rest := st.map (rv ad)) (va_runV (As := as.map (rv ad)) (b := ad (210 + q)) (C := y.cls) (Ts := tbl) ⟨hx, hb, hml, hown, hts⟩ hM ⟨callB_of n hts (good_cons hcd) rfl rfl rfl (hts _ hw.2.2.2) (hts _ hw.1) hdn hR, hts _ hw.2.1, hts _ hw.2.2.1⟩ ⟨ct_blind, by rw [hcl]; exact vk_recv (i := q) hC.2.2.2.2.2.1 hq hS, fun U hU hW => ⟨rfl, by rw [hU, hsh]; exact ⟨hP, hD⟩, by rw [hU]; exact hC.next hS hW⟩⟩ rfl (by rw [List.length_map]; exact hn) hl.1 ?_ (lv_room (by rw [rv_cats]; exact hst)) hd ⟨Nat.le_refl _, Nat.le_refl _⟩) hS (fun t H1 locs1 ht hpost hS1 => ?_)
  · show (as.reverse ++ .ref (210 + q) :: st).map (rv ad) = (as.map (rv ad)).reverse ++ .ref (ad (210 + q)) :: st.map (rv ad)
    rw [List.map_append, List.map_reverse]
    rfl
  obtain ⟨hP1, hD1⟩ := hpost
  rw [ht] at hP1
  rw [hsh] at hP1 hD1
  have hk := K r1 M1 r M' hF p l e s m args below meth c D ad dA A hp H1 locs1 ls hP1 hD1 hS1 hl
  rw [List.map_append, hnr] at hk
  exact hk
theorem j_callVS0 {R : Type} {mt : Mt} {wr : R → Option Value} {pc : Nat} {lv : List (Nat × Value)} {st : List Value} {M : Mem} {R2 : Type} {wr2 : R2 → Option Value} {mt2 : Mt} {F2 : Option (R2 × Mem)} {k : R2 → Mem → Option (R × Mem)} {y : MethodName} {idx : Nat} {q : Nat} (hd : decode mt.2.1 pc = .ok (.invokevirtual idx, 3)) (hct : Ct y mt2 wr2 (.ref (210 + q) :: []) M F2) (hw : CV mt.1 idx y) (hcd : Cond.code y mt2.2.1 mt2.2.2.1 mt2.2.2.2.1 ∈ tbl) (hdn : Dn y 0) (hsh : mt2.2.2.2.2.2 = mt.2.2.2.2.2) (hdp : mt2.2.2.2.2.1 + 1 ≤ mt.2.2.2.2.1) (hmx : mt2.2.2.1 ≤ 40) (hst : (st.map fun v => v.category).sum ≤ 8) (hnr : nr wr2) (hq : q < 7) (hcl : y.cls = "java/lang/String") (K : ∀ (r : R2) (N : Mem), J mt wr (pc + 3) lv ((wr2 r).toList ++ st) N (k r N)) : J mt wr pc lv (.ref (210 + q) :: st) M (bd F2 k) := j_callVS (as := []) hd hct hw hcd hdn rfl hsh hdp hmx hst hnr hq hcl K
theorem j_callVS1 {R : Type} {mt : Mt} {wr : R → Option Value} {pc : Nat} {lv : List (Nat × Value)} {st : List Value} {M : Mem} {R2 : Type} {wr2 : R2 → Option Value} {mt2 : Mt} {F2 : Option (R2 × Mem)} {k : R2 → Mem → Option (R × Mem)} {y : MethodName} {idx : Nat} {v0 : Value} {q : Nat} (hd : decode mt.2.1 pc = .ok (.invokevirtual idx, 3)) (hct : Ct y mt2 wr2 (.ref (210 + q) :: [v0]) M F2) (hw : CV mt.1 idx y) (hcd : Cond.code y mt2.2.1 mt2.2.2.1 mt2.2.2.2.1 ∈ tbl) (hdn : Dn y 1) (hsh : mt2.2.2.2.2.2 = mt.2.2.2.2.2) (hdp : mt2.2.2.2.2.1 + 1 ≤ mt.2.2.2.2.1) (hmx : mt2.2.2.1 ≤ 40) (hst : (st.map fun v => v.category).sum ≤ 8) (hnr : nr wr2) (hq : q < 7) (hcl : y.cls = "java/lang/String") (K : ∀ (r : R2) (N : Mem), J mt wr (pc + 3) lv ((wr2 r).toList ++ st) N (k r N)) : J mt wr pc lv (v0 :: .ref (210 + q) :: st) M (bd F2 k) := j_callVS (as := [v0]) hd hct hw hcd hdn rfl hsh hdp hmx hst hnr hq hcl K
def mt_String_coder : Mt := ("java/lang/String", b_String_coder, 1, some .byte, 2, SHx)
theorem d_String_coder_0 : decode b_String_coder 0 = .ok (.getstatic 38, 3) := by decide +kernel
theorem d_String_coder_3 : decode b_String_coder 3 = .ok (.ifCond .eq 10, 3) := by decide +kernel
theorem d_String_coder_6 : decode b_String_coder 6 = .ok (.aload_n 0, 1) := by decide +kernel
theorem d_String_coder_7 : decode b_String_coder 7 = .ok (.getfield 15, 3) := by decide +kernel
theorem d_String_coder_10 : decode b_String_coder 10 = .ok (.goto 4, 3) := by decide +kernel
theorem d_String_coder_13 : decode b_String_coder 13 = .ok (.iconst 1, 1) := by decide +kernel
theorem d_String_coder_14 : decode b_String_coder 14 = .ok (.ireturn, 1) := by decide +kernel
def mt_String_length : Mt := ("java/lang/String", b_String_length, 1, some .int, 4, SHx)
theorem d_String_length_0 : decode b_String_length 0 = .ok (.aload_n 0, 1) := by decide +kernel
theorem d_String_length_1 : decode b_String_length 1 = .ok (.getfield 9, 3) := by decide +kernel
theorem d_String_length_4 : decode b_String_length 4 = .ok (.arraylength, 1) := by decide +kernel
theorem d_String_length_5 : decode b_String_length 5 = .ok (.aload_n 0, 1) := by decide +kernel
theorem d_String_length_6 : decode b_String_length 6 = .ok (.invokevirtual 335, 3) := by decide +kernel
theorem d_String_length_9 : decode b_String_length 9 = .ok (.ishr, 1) := by decide +kernel
theorem d_String_length_10 : decode b_String_length 10 = .ok (.ireturn, 1) := by decide +kernel
def mt_String_isLatin1 : Mt := ("java/lang/String", b_String_isLatin1, 1, some .boolean, 2, SHx)
theorem d_String_isLatin1_0 : decode b_String_isLatin1 0 = .ok (.getstatic 38, 3) := by decide +kernel
theorem d_String_isLatin1_3 : decode b_String_isLatin1 3 = .ok (.ifCond .eq 14, 3) := by decide +kernel
theorem d_String_isLatin1_6 : decode b_String_isLatin1 6 = .ok (.aload_n 0, 1) := by decide +kernel
theorem d_String_isLatin1_7 : decode b_String_isLatin1 7 = .ok (.getfield 15, 3) := by decide +kernel
theorem d_String_isLatin1_10 : decode b_String_isLatin1 10 = .ok (.ifCond .ne 7, 3) := by decide +kernel
theorem d_String_isLatin1_13 : decode b_String_isLatin1 13 = .ok (.iconst 1, 1) := by decide +kernel
theorem d_String_isLatin1_14 : decode b_String_isLatin1 14 = .ok (.goto 4, 3) := by decide +kernel
theorem d_String_isLatin1_17 : decode b_String_isLatin1 17 = .ok (.iconst 0, 1) := by decide +kernel
theorem d_String_isLatin1_18 : decode b_String_isLatin1 18 = .ok (.ireturn, 1) := by decide +kernel
def mt_Precond_checkIndex : Mt := ("jdk/internal/util/Preconditions", b_Precond_checkIndex, 3, some .int, 2, SHx)
theorem d_Precond_checkIndex_0 : decode b_Precond_checkIndex 0 = .ok (.iload_n 0, 1) := by decide +kernel
theorem d_Precond_checkIndex_1 : decode b_Precond_checkIndex 1 = .ok (.ifCond .lt 8, 3) := by decide +kernel
theorem d_Precond_checkIndex_4 : decode b_Precond_checkIndex 4 = .ok (.iload_n 0, 1) := by decide +kernel
theorem d_Precond_checkIndex_5 : decode b_Precond_checkIndex 5 = .ok (.iload_n 1, 1) := by decide +kernel
theorem d_Precond_checkIndex_6 : decode b_Precond_checkIndex 6 = .ok (.if_icmp .lt 10, 3) := by decide +kernel
theorem d_Precond_checkIndex_9 : decode b_Precond_checkIndex 9 = .ok (.aload_n 2, 1) := by decide +kernel
theorem d_Precond_checkIndex_10 : decode b_Precond_checkIndex 10 = .ok (.iload_n 0, 1) := by decide +kernel
theorem d_Precond_checkIndex_11 : decode b_Precond_checkIndex 11 = .ok (.iload_n 1, 1) := by decide +kernel
theorem d_Precond_checkIndex_12 : decode b_Precond_checkIndex 12 = .ok (.invokestatic 95, 3) := by decide +kernel
theorem d_Precond_checkIndex_15 : decode b_Precond_checkIndex 15 = .ok (.athrow, 1) := by decide +kernel
theorem d_Precond_checkIndex_16 : decode b_Precond_checkIndex 16 = .ok (.iload_n 0, 1) := by decide +kernel
theorem d_Precond_checkIndex_17 : decode b_Precond_checkIndex 17 = .ok (.ireturn, 1) := by decide +kernel
def mt_String_checkIndex : Mt := ("java/lang/String", b_String_checkIndex, 2, none, 4, SHx)
theorem d_String_checkIndex_0 : decode b_String_checkIndex 0 = .ok (.iload_n 0, 1) := by decide +kernel
theorem d_String_checkIndex_1 : decode b_String_checkIndex 1 = .ok (.iload_n 1, 1) := by decide +kernel
theorem d_String_checkIndex_2 : decode b_String_checkIndex 2 = .ok (.getstatic 1053, 3) := by decide +kernel
theorem d_String_checkIndex_5 : decode b_String_checkIndex 5 = .ok (.invokestatic 1059, 3) := by decide +kernel
theorem d_String_checkIndex_8 : decode b_String_checkIndex 8 = .ok (.pop, 1) := by decide +kernel
theorem d_String_checkIndex_9 : decode b_String_checkIndex 9 = .ok (.return_, 1) := by decide +kernel
def mt_StringLatin1_charAt : Mt := ("java/lang/StringLatin1", b_StringLatin1_charAt, 2, some .char, 6, SHx)
theorem d_StringLatin1_charAt_0 : decode b_StringLatin1_charAt 0 = .ok (.iload_n 1, 1) := by decide +kernel
theorem d_StringLatin1_charAt_1 : decode b_StringLatin1_charAt 1 = .ok (.aload_n 0, 1) := by decide +kernel
theorem d_StringLatin1_charAt_2 : decode b_StringLatin1_charAt 2 = .ok (.arraylength, 1) := by decide +kernel
theorem d_StringLatin1_charAt_3 : decode b_StringLatin1_charAt 3 = .ok (.invokestatic 9, 3) := by decide +kernel
theorem d_StringLatin1_charAt_6 : decode b_StringLatin1_charAt 6 = .ok (.aload_n 0, 1) := by decide +kernel
theorem d_StringLatin1_charAt_7 : decode b_StringLatin1_charAt 7 = .ok (.iload_n 1, 1) := by decide +kernel
theorem d_StringLatin1_charAt_8 : decode b_StringLatin1_charAt 8 = .ok (.baload, 1) := by decide +kernel
theorem d_StringLatin1_charAt_9 : decode b_StringLatin1_charAt 9 = .ok (.sipush 255, 3) := by decide +kernel
theorem d_StringLatin1_charAt_12 : decode b_StringLatin1_charAt 12 = .ok (.iand, 1) := by decide +kernel
theorem d_StringLatin1_charAt_13 : decode b_StringLatin1_charAt 13 = .ok (.i2c, 1) := by decide +kernel
theorem d_StringLatin1_charAt_14 : decode b_StringLatin1_charAt 14 = .ok (.ireturn, 1) := by decide +kernel
def mt_String_charAt : Mt := ("java/lang/String", b_String_charAt, 2, some .char, 8, SHx)
theorem d_String_charAt_0 : decode b_String_charAt 0 = .ok (.aload_n 0, 1) := by decide +kernel
theorem d_String_charAt_1 : decode b_String_charAt 1 = .ok (.invokevirtual 492, 3) := by decide +kernel
theorem d_String_charAt_4 : decode b_String_charAt 4 = .ok (.ifCond .eq 12, 3) := by decide +kernel
theorem d_String_charAt_7 : decode b_String_charAt 7 = .ok (.aload_n 0, 1) := by decide +kernel
theorem d_String_charAt_8 : decode b_String_charAt 8 = .ok (.getfield 9, 3) := by decide +kernel
theorem d_String_charAt_11 : decode b_String_charAt 11 = .ok (.iload_n 1, 1) := by decide +kernel
theorem d_String_charAt_12 : decode b_String_charAt 12 = .ok (.invokestatic 495, 3) := by decide +kernel
theorem d_String_charAt_15 : decode b_String_charAt 15 = .ok (.ireturn, 1) := by decide +kernel
theorem d_String_charAt_16 : decode b_String_charAt 16 = .ok (.aload_n 0, 1) := by decide +kernel
theorem d_String_charAt_17 : decode b_String_charAt 17 = .ok (.getfield 9, 3) := by decide +kernel
theorem d_String_charAt_20 : decode b_String_charAt 20 = .ok (.iload_n 1, 1) := by decide +kernel
theorem d_String_charAt_21 : decode b_String_charAt 21 = .ok (.invokestatic 498, 3) := by decide +kernel
theorem d_String_charAt_24 : decode b_String_charAt 24 = .ok (.ireturn, 1) := by decide +kernel
theorem cV_String_335 : CV "java/lang/String" 335 y_String_coder := ⟨tbl_in 382 (by decide +kernel) rfl, im_String_coder, se_String_coder, ini_String⟩
theorem cV_String_492 : CV "java/lang/String" 492 y_String_isLatin1 := ⟨tbl_in 392 (by decide +kernel) rfl, im_String_isLatin1, se_String_isLatin1, ini_String⟩
theorem cS_String_495 : CS "java/lang/String" 495 y_StringLatin1_charAt := ⟨tbl_in 396 (by decide +kernel) rfl, st_StringLatin1_charAt, ini_StringLatin1⟩
theorem cS_StringLatin1_9 : CS "java/lang/StringLatin1" 9 y_String_checkIndex := ⟨tbl_in 399 (by decide +kernel) rfl, st_String_checkIndex, ini_String⟩
theorem cS_String_1059 : CS "java/lang/String" 1059 y_Precond_checkIndex := ⟨tbl_in 404 (by decide +kernel) rfl, st_Precond_checkIndex, ini_Precond⟩
theorem dn_String_coder : Dn y_String_coder 0 := ⟨by decide +kernel, by decide +kernel, by decide +kernel⟩
theorem dn_String_isLatin1 : Dn y_String_isLatin1 0 := ⟨by decide +kernel, by decide +kernel, by decide +kernel⟩
theorem dn_StringLatin1_charAt : Dn y_StringLatin1_charAt 2 := ⟨by decide +kernel, by decide +kernel, by decide +kernel⟩
theorem dn_String_checkIndex : Dn y_String_checkIndex 2 := ⟨by decide +kernel, by decide +kernel, by decide +kernel⟩
theorem dn_Precond_checkIndex : Dn y_Precond_checkIndex 3 := ⟨by decide +kernel, by decide +kernel, by decide +kernel⟩
set_option maxRecDepth 20000 in
theorem C_String_coder (k : Nat) (hk : k < 7) (M : Mem) : Ct y_String_coder mt_String_coder wI [.ref (210 + k)] M (some (0, M)) := by
  refine ct_of (by decide +kernel) rfl (Nat.le_of_ble_eq_true rfl) ?_
  refine j_compact (pc := 0) d_String_coder_0 rfl ?_
  show J _ _ _ _ _ _ (if (1 : Int32) = 0 then none else some (0, M))
  refine j_if_eq (pc := 3) (tgt := 13) d_String_coder_3 (by decide) (fun _ => j_none) (fun _ => ?_)
  refine j_aload_n (pc := 6) (q := 0) d_String_coder_6 rfl rfl ?_
  refine j_strCoder (pc := 7) d_String_coder_7 rfl hk ?_
  refine j_goto (pc := 10) (tgt := 14) d_String_coder_10 (by decide) ?_
  exact j_zreturn (pc := 14) d_String_coder_14 rfl rfl
set_option maxRecDepth 20000 in
theorem C_String_isLatin1 (k : Nat) (hk : k < 7) (M : Mem) : Ct y_String_isLatin1 mt_String_isLatin1 wI [.ref (210 + k)] M (some (1, M)) := by
  refine ct_of (by decide +kernel) rfl (Nat.le_of_ble_eq_true rfl) ?_
  refine j_compact (pc := 0) d_String_isLatin1_0 rfl ?_
  show J _ _ _ _ _ _ (if (1 : Int32) = 0 then none else if (0 : Int32) = 0 then some (1, M) else none)
  refine j_if_eq (pc := 3) (tgt := 17) d_String_isLatin1_3 (by decide) (fun _ => j_none) (fun _ => ?_)
  refine j_aload_n (pc := 6) (q := 0) d_String_isLatin1_6 rfl rfl ?_
  refine j_strCoder (pc := 7) d_String_isLatin1_7 rfl hk ?_
  refine j_if_ne (pc := 10) (tgt := 17) d_String_isLatin1_10 (by decide) (fun _ => j_none) (fun _ => ?_)
  refine j_iconst (pc := 13) d_String_isLatin1_13 k_i_1 ?_
  refine j_goto (pc := 14) (tgt := 18) d_String_isLatin1_14 (by decide) ?_
  exact j_zreturn (pc := 18) d_String_isLatin1_18 rfl rfl
set_option maxRecDepth 20000 in
theorem C_String_length (k : Nat) (hk : k < 7) (M : Mem) : Ct y_String_length mt_String_length wI [.ref (210 + k)] M (some (nI (stLen.getD k 0) >>> ((0 : Int32) &&& 31), M)) := by
  refine ct_of (by decide +kernel) rfl (Nat.le_of_ble_eq_true rfl) ?_
  refine j_aload_n (pc := 0) (q := 0) d_String_length_0 rfl rfl ?_
  refine j_strValue (pc := 1) d_String_length_1 rfl hk ?_
  refine j_strLen (pc := 4) d_String_length_4 hk ?_
  refine j_aload_n (pc := 5) (q := 0) d_String_length_5 rfl rfl ?_
  show J _ _ _ _ _ _ (bd (some ((0 : Int32), M)) (fun r N => some (nI (stLen.getD k 0) >>> (r &&& 31), N)))
  refine j_callVS0 (pc := 6) d_String_length_6 (C_String_coder k hk M) cV_String_335 cd_String_coder dn_String_coder rfl (by decide) (Nat.le_of_ble_eq_true rfl) (Nat.le_of_ble_eq_true rfl) nr_I hk rfl (fun r N => ?_)
  refine j_ishr (pc := 9) d_String_length_9 ?_
  exact j_ireturn (pc := 10) d_String_length_10 rfl
set_option maxRecDepth 20000 in
theorem C_Precond_checkIndex (i : Int32) (n : Nat) (hn : n < 1000) (hin : vp_in i n) (v : Value) (hv : v.category = 1) (M : Mem) : Ct y_Precond_checkIndex mt_Precond_checkIndex wI [.int i, .int (nI n), v] M (some (i, M)) := by
  have hl : lv_args 0 [.int i, .int (nI n), v] = [(0, .int i), (1, .int (nI n)), (2, v)] := rfl
  refine ct_of (by decide +kernel) rfl ?_ ?_
  · have : (lg_sl [.int i, .int (nI n), v]).length = 3 := by simp [lg_sl, hv]; rfl
    rw [this]; exact (Nat.le_of_ble_eq_true rfl)
  rw [hl]
  have h0 : ¬ i < 0 := fun h => hin (Or.inl h)
  have h1 : i < nI n := by
    obtain ⟨j, hj, rfl⟩ := vp_in_of hin (by omega)
    exact nI_lt hj (by omega)
  have e : (some (i, M) : Option (Int32 × Mem)) = (if i < 0 then none else if i < nI n then some (i, M) else none) := by rw [if_neg h0, if_pos h1]
  rw [e]
  refine j_iload_n (pc := 0) (q := 0) d_Precond_checkIndex_0 rfl rfl ?_
  refine j_if_lt (pc := 1) (tgt := 9) d_Precond_checkIndex_1 (by decide) (fun _ => j_none) (fun _ => ?_)
  refine j_iload_n (pc := 4) (q := 0) d_Precond_checkIndex_4 rfl rfl ?_
  refine j_iload_n (pc := 5) (q := 1) d_Precond_checkIndex_5 rfl rfl ?_
  refine j_icmp_lt (pc := 6) (tgt := 16) d_Precond_checkIndex_6 (by decide) (fun _ => ?_) (fun _ => j_none)
  refine j_iload_n (pc := 16) (q := 0) d_Precond_checkIndex_16 rfl rfl ?_
  exact j_ireturn (pc := 17) d_Precond_checkIndex_17 rfl
set_option maxRecDepth 20000 in
theorem C_String_checkIndex (i : Int32) (n : Nat) (hn : n < 1000) (hin : vp_in i n) (M : Mem) : Ct y_String_checkIndex mt_String_checkIndex wU [.int i, .int (nI n)] M (some ((), M)) := by
  refine ct_of (by decide +kernel) rfl (Nat.le_of_ble_eq_true rfl) ?_
  refine j_iload_n (pc := 0) (q := 0) d_String_checkIndex_0 rfl rfl ?_
  refine j_iload_n (pc := 1) (q := 1) d_String_checkIndex_1 rfl rfl ?_
  show J _ _ _ _ _ _ (bd (some (i, M)) (fun _ N => some ((), N)))
  refine j_form (pc := 2) d_String_checkIndex_2 rfl ?_ ?_
  · refine j_callS3 (pc := 5) d_String_checkIndex_5 (C_Precond_checkIndex i n hn hin (.null) rfl M) cS_String_1059 cd_Precond_checkIndex dn_Precond_checkIndex rfl (by decide) (Nat.le_of_ble_eq_true rfl) (Nat.le_of_ble_eq_true rfl) nr_I (fun r N => ?_)
    refine j_pop (pc := 8) d_String_checkIndex_8 rfl ?_
    exact j_return (pc := 9) d_String_checkIndex_9 rfl
  · refine j_callS3 (pc := 5) d_String_checkIndex_5 (C_Precond_checkIndex i n hn hin (.ref 230) rfl M) cS_String_1059 cd_Precond_checkIndex dn_Precond_checkIndex rfl (by decide) (Nat.le_of_ble_eq_true rfl) (Nat.le_of_ble_eq_true rfl) nr_I (fun r N => ?_)
    refine j_pop (pc := 8) d_String_checkIndex_8 rfl ?_
    exact j_return (pc := 9) d_String_checkIndex_9 rfl
theorem k_s_255 : (Int16.ofInt 255).toInt32 = 255 := by decide
set_option maxRecDepth 20000 in
theorem C_StringLatin1_charAt (k : Nat) (hk : k < 7) (i : Int32) (hin : vp_in i (stLen.getD k 0)) (M : Mem) : Ct y_StringLatin1_charAt mt_StringLatin1_charAt wI [.ref (220 + k), .int i] M (some ((((stByt.getD k []).getD i.toNatClampNeg 0 &&& 255).toUInt32 % 65536).toInt32, M)) := by
  have hlen : stLen.getD k 0 < 1000 := by
    match k, hk with
    | 0, _ => decide
    | 1, _ => decide
    | 2, _ => decide
    | 3, _ => decide
    | 4, _ => decide
    | 5, _ => decide
    | 6, _ => decide
  refine ct_of (by decide +kernel) rfl (Nat.le_of_ble_eq_true rfl) ?_
  refine j_iload_n (pc := 0) (q := 1) d_StringLatin1_charAt_0 rfl rfl ?_
  refine j_aload_n (pc := 1) (q := 0) d_StringLatin1_charAt_1 rfl rfl ?_
  refine j_strLen (pc := 2) d_StringLatin1_charAt_2 hk ?_
  show J _ _ _ _ _ _ (bd (some ((), M)) (fun _ N => some ((((stByt.getD k []).getD i.toNatClampNeg 0 &&& 255).toUInt32 % 65536).toInt32, N)))
  refine j_callS2 (pc := 3) d_StringLatin1_charAt_3 (C_String_checkIndex i _ hlen hin M) cS_StringLatin1_9 cd_String_checkIndex dn_String_checkIndex rfl (by decide) (Nat.le_of_ble_eq_true rfl) (Nat.le_of_ble_eq_true rfl) nr_U (fun r N => ?_)
  refine j_aload_n (pc := 6) (q := 0) d_StringLatin1_charAt_6 rfl rfl ?_
  refine j_iload_n (pc := 7) (q := 1) d_StringLatin1_charAt_7 rfl rfl ?_
  refine j_strByte (pc := 8) d_StringLatin1_charAt_8 hk hin ?_
  refine j_sipush (pc := 9) d_StringLatin1_charAt_9 k_s_255 ?_
  refine j_iand (pc := 12) d_StringLatin1_charAt_12 ?_
  refine j_i2c (pc := 13) d_StringLatin1_charAt_13 ?_
  exact j_zreturn (pc := 14) d_StringLatin1_charAt_14 rfl (pk_nc _)
def zc (x : Int32) (M : Mem) : Option (Int32 × Mem) := if x = (x.toUInt32 % 65536).toInt32 then some (x, M) else none
theorem j_zc {mt : Mt} {pc : Nat} {lv : List (Nat × Value)} {M : Mem} {x : Int32} (hd : decode mt.2.1 pc = .ok (.ireturn, 1)) (hrt : mt.2.2.2.1 = some .char) : J mt wI pc lv [.int x] M (zc x M) := by
  unfold zc
  by_cases h : x = (x.toUInt32 % 65536).toInt32
  · rw [if_pos h]
    refine j_zreturn hd hrt ?_
    rw [h]
    exact pk_nc _
  · rw [if_neg h]; exact j_none
def X_charAt (k : Nat) (i : Int32) (M : Mem) : Option (Int32 × Mem) := gd i (stLen.getD k 0) (zc ((((stByt.getD k []).getD i.toNatClampNeg 0 &&& 255).toUInt32 % 65536).toInt32) M)
set_option maxRecDepth 20000 in
theorem C_String_charAt (k : Nat) (hk : k < 7) (i : Int32) (M : Mem) : Ct y_String_charAt mt_String_charAt wI [.ref (210 + k), .int i] M (X_charAt k i M) := by
  unfold X_charAt gd
  by_cases hin : i < 0 ∨ stLen.getD k 0 ≤ i.toNatClampNeg
  · rw [if_pos hin]; intro r M2 h; cases h
  rw [if_neg hin]
  refine ct_of (by decide +kernel) rfl (Nat.le_of_ble_eq_true rfl) ?_
  refine j_aload_n (pc := 0) (q := 0) d_String_charAt_0 rfl rfl ?_
  show J _ _ _ _ _ _ (bd (some ((1 : Int32), M)) (fun r N => if r = 0 then none else bd (some ((((stByt.getD k []).getD i.toNatClampNeg 0 &&& 255).toUInt32 % 65536).toInt32, N)) (fun r N => zc r N)))
  refine j_callVS0 (pc := 1) d_String_charAt_1 (C_String_isLatin1 k hk M) cV_String_492 cd_String_isLatin1 dn_String_isLatin1 rfl (by decide) (Nat.le_of_ble_eq_true rfl) (Nat.le_of_ble_eq_true rfl) nr_I hk rfl (fun r N => ?_)
  refine j_if_eq (pc := 4) (tgt := 16) d_String_charAt_4 (by decide) (fun _ => j_none) (fun _ => ?_)
  refine j_aload_n (pc := 7) (q := 0) d_String_charAt_7 rfl rfl ?_
  refine j_strValue (pc := 8) d_String_charAt_8 rfl hk ?_
  refine j_iload_n (pc := 11) (q := 1) d_String_charAt_11 rfl rfl ?_
  refine j_callS2 (pc := 12) d_String_charAt_12 (C_StringLatin1_charAt k hk i hin N) cS_String_495 cd_StringLatin1_charAt dn_StringLatin1_charAt rfl (by decide) (Nat.le_of_ble_eq_true rfl) (Nat.le_of_ble_eq_true rfl) nr_I (fun r N => ?_)
  exact j_zc (pc := 15) d_String_charAt_15 rfl
end
section
-- Integer.bitCount (I)I
def mt_Integer_bitCount : Mt := ("java/lang/Integer", b_Integer_bitCount, 1, some .int, 2, SHx)
theorem d_Integer_bitCount_0 : decode b_Integer_bitCount 0 = .ok (.iload_n 0, 1) := by decide +kernel
theorem d_Integer_bitCount_1 : decode b_Integer_bitCount 1 = .ok (.iload_n 0, 1) := by decide +kernel
theorem d_Integer_bitCount_2 : decode b_Integer_bitCount 2 = .ok (.iconst 1, 1) := by decide +kernel
theorem d_Integer_bitCount_3 : decode b_Integer_bitCount 3 = .ok (.iushr, 1) := by decide +kernel
theorem d_Integer_bitCount_4 : decode b_Integer_bitCount 4 = .ok (.ldc_w 265, 3) := by decide +kernel
theorem d_Integer_bitCount_7 : decode b_Integer_bitCount 7 = .ok (.iand, 1) := by decide +kernel
theorem d_Integer_bitCount_8 : decode b_Integer_bitCount 8 = .ok (.isub, 1) := by decide +kernel
theorem d_Integer_bitCount_9 : decode b_Integer_bitCount 9 = .ok (.istore_n 0, 1) := by decide +kernel
theorem d_Integer_bitCount_10 : decode b_Integer_bitCount 10 = .ok (.iload_n 0, 1) := by decide +kernel
theorem d_Integer_bitCount_11 : decode b_Integer_bitCount 11 = .ok (.ldc_w 266, 3) := by decide +kernel
theorem d_Integer_bitCount_14 : decode b_Integer_bitCount 14 = .ok (.iand, 1) := by decide +kernel
theorem d_Integer_bitCount_15 : decode b_Integer_bitCount 15 = .ok (.iload_n 0, 1) := by decide +kernel
theorem d_Integer_bitCount_16 : decode b_Integer_bitCount 16 = .ok (.iconst 2, 1) := by decide +kernel
theorem d_Integer_bitCount_17 : decode b_Integer_bitCount 17 = .ok (.iushr, 1) := by decide +kernel
theorem d_Integer_bitCount_18 : decode b_Integer_bitCount 18 = .ok (.ldc_w 266, 3) := by decide +kernel
theorem d_Integer_bitCount_21 : decode b_Integer_bitCount 21 = .ok (.iand, 1) := by decide +kernel
theorem d_Integer_bitCount_22 : decode b_Integer_bitCount 22 = .ok (.iadd, 1) := by decide +kernel
theorem d_Integer_bitCount_23 : decode b_Integer_bitCount 23 = .ok (.istore_n 0, 1) := by decide +kernel
theorem d_Integer_bitCount_24 : decode b_Integer_bitCount 24 = .ok (.iload_n 0, 1) := by decide +kernel
theorem d_Integer_bitCount_25 : decode b_Integer_bitCount 25 = .ok (.iload_n 0, 1) := by decide +kernel
theorem d_Integer_bitCount_26 : decode b_Integer_bitCount 26 = .ok (.iconst 4, 1) := by decide +kernel
theorem d_Integer_bitCount_27 : decode b_Integer_bitCount 27 = .ok (.iushr, 1) := by decide +kernel
theorem d_Integer_bitCount_28 : decode b_Integer_bitCount 28 = .ok (.iadd, 1) := by decide +kernel
theorem d_Integer_bitCount_29 : decode b_Integer_bitCount 29 = .ok (.ldc_w 267, 3) := by decide +kernel
theorem d_Integer_bitCount_32 : decode b_Integer_bitCount 32 = .ok (.iand, 1) := by decide +kernel
theorem d_Integer_bitCount_33 : decode b_Integer_bitCount 33 = .ok (.istore_n 0, 1) := by decide +kernel
theorem d_Integer_bitCount_34 : decode b_Integer_bitCount 34 = .ok (.iload_n 0, 1) := by decide +kernel
theorem d_Integer_bitCount_35 : decode b_Integer_bitCount 35 = .ok (.iload_n 0, 1) := by decide +kernel
theorem d_Integer_bitCount_36 : decode b_Integer_bitCount 36 = .ok (.bipush 8, 2) := by decide +kernel
theorem d_Integer_bitCount_38 : decode b_Integer_bitCount 38 = .ok (.iushr, 1) := by decide +kernel
theorem d_Integer_bitCount_39 : decode b_Integer_bitCount 39 = .ok (.iadd, 1) := by decide +kernel
theorem d_Integer_bitCount_40 : decode b_Integer_bitCount 40 = .ok (.istore_n 0, 1) := by decide +kernel
theorem d_Integer_bitCount_41 : decode b_Integer_bitCount 41 = .ok (.iload_n 0, 1) := by decide +kernel
theorem d_Integer_bitCount_42 : decode b_Integer_bitCount 42 = .ok (.iload_n 0, 1) := by decide +kernel
theorem d_Integer_bitCount_43 : decode b_Integer_bitCount 43 = .ok (.bipush 16, 2) := by decide +kernel
theorem d_Integer_bitCount_45 : decode b_Integer_bitCount 45 = .ok (.iushr, 1) := by decide +kernel
theorem d_Integer_bitCount_46 : decode b_Integer_bitCount 46 = .ok (.iadd, 1) := by decide +kernel
theorem d_Integer_bitCount_47 : decode b_Integer_bitCount 47 = .ok (.istore_n 0, 1) := by decide +kernel
theorem d_Integer_bitCount_48 : decode b_Integer_bitCount 48 = .ok (.iload_n 0, 1) := by decide +kernel
theorem d_Integer_bitCount_49 : decode b_Integer_bitCount 49 = .ok (.bipush 63, 2) := by decide +kernel
theorem d_Integer_bitCount_51 : decode b_Integer_bitCount 51 = .ok (.iand, 1) := by decide +kernel
theorem d_Integer_bitCount_52 : decode b_Integer_bitCount 52 = .ok (.ireturn, 1) := by decide +kernel
def X_Integer_bitCount (n : Nat) (p0 : Int32) (M : Mem) : Option (Int32 × Mem) :=
  nm (p0 - (((p0.toUInt32 >>> ((1 : Int32).toUInt32 &&& Int32.toUInt32 31)).toInt32) &&& 1431655765)) fun x1 =>
  nm ((x1 &&& 858993459) + (((x1.toUInt32 >>> ((2 : Int32).toUInt32 &&& Int32.toUInt32 31)).toInt32) &&& 858993459)) fun x2 =>
  nm ((x2 + ((x2.toUInt32 >>> ((4 : Int32).toUInt32 &&& Int32.toUInt32 31)).toInt32)) &&& 252645135) fun x3 =>
  nm (x3 + ((x3.toUInt32 >>> ((8 : Int32).toUInt32 &&& Int32.toUInt32 31)).toInt32)) fun x4 =>
  nm (x4 + ((x4.toUInt32 >>> ((16 : Int32).toUInt32 &&& Int32.toUInt32 31)).toInt32)) fun x5 =>
  some ((x5 &&& 63), M)
set_option maxRecDepth 20000 in
set_option maxHeartbeats 4000000 in
theorem C_Integer_bitCount (n : Nat)   (p0 : Int32) (M : Mem) : Ct y_Integer_bitCount mt_Integer_bitCount wI [Value.int p0] M (X_Integer_bitCount n p0 M) := by
  refine ct_of (by decide +kernel) rfl (Nat.le_of_ble_eq_true rfl) ?_
  show J _ _ _ [(0, Value.int p0)] _ _ _
  unfold X_Integer_bitCount
  refine j_iload_n (pc := 0) (q := 0) d_Integer_bitCount_0 rfl rfl ?_
  refine j_iload_n (pc := 1) (q := 0) d_Integer_bitCount_1 rfl rfl ?_
  refine j_iconst (pc := 2) d_Integer_bitCount_2 k_i_1 ?_
  refine j_iushr (pc := 3) d_Integer_bitCount_3 ?_
  refine j_ldcw (pc := 4) (own := "java/lang/Integer") d_Integer_bitCount_4 ct_Integer_265 ?_
  refine j_iand (pc := 7) d_Integer_bitCount_7 ?_
  refine j_isub (pc := 8) d_Integer_bitCount_8 ?_
  refine j_nmi (fun x1 => ?_)
  refine j_istore_n (pc := 9) d_Integer_bitCount_9 rfl (by decide) rfl ?_
  refine j_iload_n (pc := 10) (q := 0) d_Integer_bitCount_10 rfl rfl ?_
  refine j_ldcw (pc := 11) (own := "java/lang/Integer") d_Integer_bitCount_11 ct_Integer_266 ?_
  refine j_iand (pc := 14) d_Integer_bitCount_14 ?_
  refine j_iload_n (pc := 15) (q := 0) d_Integer_bitCount_15 rfl rfl ?_
  refine j_iconst (pc := 16) d_Integer_bitCount_16 k_i_2 ?_
  refine j_iushr (pc := 17) d_Integer_bitCount_17 ?_
  refine j_ldcw (pc := 18) (own := "java/lang/Integer") d_Integer_bitCount_18 ct_Integer_266 ?_
  refine j_iand (pc := 21) d_Integer_bitCount_21 ?_
  refine j_iadd (pc := 22) d_Integer_bitCount_22 ?_
  refine j_nmi (fun x2 => ?_)
  refine j_istore_n (pc := 23) d_Integer_bitCount_23 rfl (by decide) rfl ?_
  refine j_iload_n (pc := 24) (q := 0) d_Integer_bitCount_24 rfl rfl ?_
  refine j_iload_n (pc := 25) (q := 0) d_Integer_bitCount_25 rfl rfl ?_
  refine j_iconst (pc := 26) d_Integer_bitCount_26 k_i_4 ?_
  refine j_iushr (pc := 27) d_Integer_bitCount_27 ?_
  refine j_iadd (pc := 28) d_Integer_bitCount_28 ?_
  refine j_ldcw (pc := 29) (own := "java/lang/Integer") d_Integer_bitCount_29 ct_Integer_267 ?_
  refine j_iand (pc := 32) d_Integer_bitCount_32 ?_
  refine j_nmi (fun x3 => ?_)
  refine j_istore_n (pc := 33) d_Integer_bitCount_33 rfl (by decide) rfl ?_
  refine j_iload_n (pc := 34) (q := 0) d_Integer_bitCount_34 rfl rfl ?_
  refine j_iload_n (pc := 35) (q := 0) d_Integer_bitCount_35 rfl rfl ?_
  refine j_bipush (pc := 36) d_Integer_bitCount_36 k_b_8 ?_
  refine j_iushr (pc := 38) d_Integer_bitCount_38 ?_
  refine j_iadd (pc := 39) d_Integer_bitCount_39 ?_
  refine j_nmi (fun x4 => ?_)
  refine j_istore_n (pc := 40) d_Integer_bitCount_40 rfl (by decide) rfl ?_
  refine j_iload_n (pc := 41) (q := 0) d_Integer_bitCount_41 rfl rfl ?_
  refine j_iload_n (pc := 42) (q := 0) d_Integer_bitCount_42 rfl rfl ?_
  refine j_bipush (pc := 43) d_Integer_bitCount_43 k_b_16 ?_
  refine j_iushr (pc := 45) d_Integer_bitCount_45 ?_
  refine j_iadd (pc := 46) d_Integer_bitCount_46 ?_
  refine j_nmi (fun x5 => ?_)
  refine j_istore_n (pc := 47) d_Integer_bitCount_47 rfl (by decide) rfl ?_
  refine j_iload_n (pc := 48) (q := 0) d_Integer_bitCount_48 rfl rfl ?_
  refine j_bipush (pc := 49) d_Integer_bitCount_49 k_b_63 ?_
  refine j_iand (pc := 51) d_Integer_bitCount_51 ?_
  exact j_ireturn (pc := 52) d_Integer_bitCount_52 rfl
-- Row.take (J)V
def mt_Row_take : Mt := ("ShakeHands$Row", b_Row_take, 3, none, 2, SHx)
theorem d_Row_take_0 : decode b_Row_take 0 = .ok (.aload_n 0, 1) := by decide +kernel
theorem d_Row_take_1 : decode b_Row_take 1 = .ok (.lload_n 1, 1) := by decide +kernel
theorem d_Row_take_2 : decode b_Row_take 2 = .ok (.ldc2_w 15, 3) := by decide +kernel
theorem d_Row_take_5 : decode b_Row_take 5 = .ok (.land, 1) := by decide +kernel
theorem d_Row_take_6 : decode b_Row_take 6 = .ok (.putfield 17, 3) := by decide +kernel
theorem d_Row_take_9 : decode b_Row_take 9 = .ok (.aload_n 0, 1) := by decide +kernel
theorem d_Row_take_10 : decode b_Row_take 10 = .ok (.lload_n 1, 1) := by decide +kernel
theorem d_Row_take_11 : decode b_Row_take 11 = .ok (.bipush 36, 2) := by decide +kernel
theorem d_Row_take_13 : decode b_Row_take 13 = .ok (.lushr, 1) := by decide +kernel
theorem d_Row_take_14 : decode b_Row_take 14 = .ok (.l2i, 1) := by decide +kernel
theorem d_Row_take_15 : decode b_Row_take 15 = .ok (.putfield 21, 3) := by decide +kernel
theorem d_Row_take_18 : decode b_Row_take 18 = .ok (.return_, 1) := by decide +kernel
def X_Row_take (n : Nat) (o : Nat) (p1 : Int64) (M : Mem) : Option (Unit × Mem) :=
  some ((), si (sl M o 0 (p1 &&& 68719476735)) o 1 ((((p1.toUInt64 >>> ((36 : Int32).toInt64.toUInt64 &&& Int64.toUInt64 63)).toInt64) : Int64).toInt32))
set_option maxRecDepth 20000 in
set_option maxHeartbeats 4000000 in
theorem C_Row_take (n : Nat) (o : Nat) (h_o : SHx[o]? = some (3, [1, 0])) (p1 : Int64) (M : Mem) : Ct y_Row_take mt_Row_take wU [Value.ref o, Value.long p1] M (X_Row_take n o p1 M) := by
  refine ct_of (by decide +kernel) rfl (Nat.le_of_ble_eq_true rfl) ?_
  show J _ _ _ [(0, Value.ref o), (1, Value.long p1)] _ _ _
  unfold X_Row_take
  refine j_aload_n (pc := 0) (q := 0) d_Row_take_0 rfl rfl ?_
  refine j_lload_n (pc := 1) (q := 1) d_Row_take_1 rfl rfl ?_
  refine j_ldc2 (pc := 2) d_Row_take_2 cl_Row_15 ?_
  refine j_land (pc := 5) d_Row_take_5 ?_
  refine j_putL (pc := 6) d_Row_take_6 fl_Row_17 rfl h_o (by decide) rfl ?_
  refine j_aload_n (pc := 9) (q := 0) d_Row_take_9 rfl rfl ?_
  refine j_lload_n (pc := 10) (q := 1) d_Row_take_10 rfl rfl ?_
  refine j_bipush (pc := 11) d_Row_take_11 k_b_36 ?_
  refine j_lushr (pc := 13) d_Row_take_13 ?_
  refine j_l2i (pc := 14) d_Row_take_14 ?_
  refine j_putI (pc := 15) d_Row_take_15 fl_Row_21 rfl h_o (by decide) rfl ?_
  exact j_return (pc := 18) d_Row_take_18 rfl
-- Row.add (I)V
def mt_Row_add : Mt := ("ShakeHands$Row", b_Row_add, 2, none, 3, SHx)
theorem d_Row_add_0 : decode b_Row_add 0 = .ok (.aload_n 0, 1) := by decide +kernel
theorem d_Row_add_1 : decode b_Row_add 1 = .ok (.getfield 21, 3) := by decide +kernel
theorem d_Row_add_4 : decode b_Row_add 4 = .ok (.iload_n 1, 1) := by decide +kernel
theorem d_Row_add_5 : decode b_Row_add 5 = .ok (.iushr, 1) := by decide +kernel
theorem d_Row_add_6 : decode b_Row_add 6 = .ok (.iconst 1, 1) := by decide +kernel
theorem d_Row_add_7 : decode b_Row_add 7 = .ok (.iand, 1) := by decide +kernel
theorem d_Row_add_8 : decode b_Row_add 8 = .ok (.ifCond .ne 36, 3) := by decide +kernel
theorem d_Row_add_11 : decode b_Row_add 11 = .ok (.aload_n 0, 1) := by decide +kernel
theorem d_Row_add_12 : decode b_Row_add 12 = .ok (.dup, 1) := by decide +kernel
theorem d_Row_add_13 : decode b_Row_add 13 = .ok (.getfield 17, 3) := by decide +kernel
theorem d_Row_add_16 : decode b_Row_add 16 = .ok (.iload_n 1, 1) := by decide +kernel
theorem d_Row_add_17 : decode b_Row_add 17 = .ok (.i2l, 1) := by decide +kernel
theorem d_Row_add_18 : decode b_Row_add 18 = .ok (.iconst 4, 1) := by decide +kernel
theorem d_Row_add_19 : decode b_Row_add 19 = .ok (.aload_n 0, 1) := by decide +kernel
theorem d_Row_add_20 : decode b_Row_add 20 = .ok (.getfield 21, 3) := by decide +kernel
theorem d_Row_add_23 : decode b_Row_add 23 = .ok (.invokestatic 9, 3) := by decide +kernel
theorem d_Row_add_26 : decode b_Row_add 26 = .ok (.imul, 1) := by decide +kernel
theorem d_Row_add_27 : decode b_Row_add 27 = .ok (.lshl, 1) := by decide +kernel
theorem d_Row_add_28 : decode b_Row_add 28 = .ok (.lor, 1) := by decide +kernel
theorem d_Row_add_29 : decode b_Row_add 29 = .ok (.putfield 17, 3) := by decide +kernel
theorem d_Row_add_32 : decode b_Row_add 32 = .ok (.aload_n 0, 1) := by decide +kernel
theorem d_Row_add_33 : decode b_Row_add 33 = .ok (.dup, 1) := by decide +kernel
theorem d_Row_add_34 : decode b_Row_add 34 = .ok (.getfield 21, 3) := by decide +kernel
theorem d_Row_add_37 : decode b_Row_add 37 = .ok (.iconst 1, 1) := by decide +kernel
theorem d_Row_add_38 : decode b_Row_add 38 = .ok (.iload_n 1, 1) := by decide +kernel
theorem d_Row_add_39 : decode b_Row_add 39 = .ok (.ishl, 1) := by decide +kernel
theorem d_Row_add_40 : decode b_Row_add 40 = .ok (.ior, 1) := by decide +kernel
theorem d_Row_add_41 : decode b_Row_add 41 = .ok (.putfield 21, 3) := by decide +kernel
theorem d_Row_add_44 : decode b_Row_add 44 = .ok (.return_, 1) := by decide +kernel
def X_Row_add (n : Nat) (o : Nat) (p1 : Int32) (M : Mem) : Option (Unit × Mem) :=
  (if ((((M.1 o 1).toUInt32 >>> (p1.toUInt32 &&& Int32.toUInt32 31)).toInt32) &&& 1) = 0 then
    bd (X_Integer_bitCount n (M.1 o 1) M) fun r1 M2 =>
    nm (sl M2 o 0 ((M.2 o 0) ||| ((p1.toInt64) <<< ((4 * r1).toInt64 &&& 63)))) fun N3 =>
    some ((), si N3 o 1 ((N3.1 o 1) ||| (1 <<< (p1 &&& 31))))
    else
    some ((), M))
set_option maxRecDepth 20000 in
set_option maxHeartbeats 4000000 in
theorem C_Row_add (n : Nat) (o : Nat) (h_o : SHx[o]? = some (3, [1, 0])) (p1 : Int32) (M : Mem) : Ct y_Row_add mt_Row_add wU [Value.ref o, Value.int p1] M (X_Row_add n o p1 M) := by
  refine ct_of (by decide +kernel) rfl (Nat.le_of_ble_eq_true rfl) ?_
  show J _ _ _ [(0, Value.ref o), (1, Value.int p1)] _ _ _
  unfold X_Row_add
  refine j_aload_n (pc := 0) (q := 0) d_Row_add_0 rfl rfl ?_
  refine j_getI (pc := 1) d_Row_add_1 fl_Row_21 h_o (by decide) rfl ?_
  refine j_iload_n (pc := 4) (q := 1) d_Row_add_4 rfl rfl ?_
  refine j_iushr (pc := 5) d_Row_add_5 ?_
  refine j_iconst (pc := 6) d_Row_add_6 k_i_1 ?_
  refine j_iand (pc := 7) d_Row_add_7 ?_
  refine j_if_ne (pc := 8) (tgt := 44) d_Row_add_8 (by decide) (fun _ => ?_) (fun _ => ?_)
  · exact j_return (pc := 44) d_Row_add_44 rfl
  · refine j_aload_n (pc := 11) (q := 0) d_Row_add_11 rfl rfl ?_
    refine j_dup (pc := 12) d_Row_add_12 rfl ?_
    refine j_getL (pc := 13) d_Row_add_13 fl_Row_17 h_o (by decide) rfl ?_
    refine j_iload_n (pc := 16) (q := 1) d_Row_add_16 rfl rfl ?_
    refine j_i2l (pc := 17) d_Row_add_17 ?_
    refine j_iconst (pc := 18) d_Row_add_18 k_i_4 ?_
    refine j_aload_n (pc := 19) (q := 0) d_Row_add_19 rfl rfl ?_
    refine j_getI (pc := 20) d_Row_add_20 fl_Row_21 h_o (by decide) rfl ?_
    refine j_callS1 (pc := 23) d_Row_add_23 (C_Integer_bitCount n (M.1 o 1) M) cS_Row_9 cd_Integer_bitCount dn_Integer_bitCount rfl (by decide) (Nat.le_of_ble_eq_true rfl) (Nat.le_of_ble_eq_true rfl) nr_I (fun r1 M2 => ?_)
    refine j_imul (pc := 26) d_Row_add_26 ?_
    refine j_lshl (pc := 27) d_Row_add_27 ?_
    refine j_lor (pc := 28) d_Row_add_28 ?_
    refine j_putL (pc := 29) d_Row_add_29 fl_Row_17 rfl h_o (by decide) rfl ?_
    refine j_aload_n (pc := 32) (q := 0) d_Row_add_32 rfl rfl ?_
    refine j_dup (pc := 33) d_Row_add_33 rfl ?_
    refine j_nmM (fun N3 => ?_)
    refine j_getI (pc := 34) d_Row_add_34 fl_Row_21 h_o (by decide) rfl ?_
    refine j_iconst (pc := 37) d_Row_add_37 k_i_1 ?_
    refine j_iload_n (pc := 38) (q := 1) d_Row_add_38 rfl rfl ?_
    refine j_ishl (pc := 39) d_Row_add_39 ?_
    refine j_ior (pc := 40) d_Row_add_40 ?_
    refine j_putI (pc := 41) d_Row_add_41 fl_Row_21 rfl h_o (by decide) rfl ?_
    exact j_return (pc := 44) d_Row_add_44 rfl
-- Row.atRest ()J
def mt_Row_atRest : Mt := ("ShakeHands$Row", b_Row_atRest, 1, some .long, 2, SHx)
theorem d_Row_atRest_0 : decode b_Row_atRest 0 = .ok (.aload_n 0, 1) := by decide +kernel
theorem d_Row_atRest_1 : decode b_Row_atRest 1 = .ok (.getfield 17, 3) := by decide +kernel
theorem d_Row_atRest_4 : decode b_Row_atRest 4 = .ok (.ldc2_w 15, 3) := by decide +kernel
theorem d_Row_atRest_7 : decode b_Row_atRest 7 = .ok (.land, 1) := by decide +kernel
theorem d_Row_atRest_8 : decode b_Row_atRest 8 = .ok (.aload_n 0, 1) := by decide +kernel
theorem d_Row_atRest_9 : decode b_Row_atRest 9 = .ok (.getfield 21, 3) := by decide +kernel
theorem d_Row_atRest_12 : decode b_Row_atRest 12 = .ok (.i2l, 1) := by decide +kernel
theorem d_Row_atRest_13 : decode b_Row_atRest 13 = .ok (.bipush 36, 2) := by decide +kernel
theorem d_Row_atRest_15 : decode b_Row_atRest 15 = .ok (.lshl, 1) := by decide +kernel
theorem d_Row_atRest_16 : decode b_Row_atRest 16 = .ok (.lor, 1) := by decide +kernel
theorem d_Row_atRest_17 : decode b_Row_atRest 17 = .ok (.lreturn, 1) := by decide +kernel
def X_Row_atRest (n : Nat) (o : Nat) (M : Mem) : Option (Int64 × Mem) :=
  some ((((M.2 o 0) &&& 68719476735) ||| ((((M.1 o 1) : Int32).toInt64) <<< ((36 : Int32).toInt64 &&& 63))), M)
set_option maxRecDepth 20000 in
set_option maxHeartbeats 4000000 in
theorem C_Row_atRest (n : Nat) (o : Nat) (h_o : SHx[o]? = some (3, [1, 0]))  (M : Mem) : Ct y_Row_atRest mt_Row_atRest wL [Value.ref o] M (X_Row_atRest n o M) := by
  refine ct_of (by decide +kernel) rfl (Nat.le_of_ble_eq_true rfl) ?_
  show J _ _ _ [(0, Value.ref o)] _ _ _
  unfold X_Row_atRest
  refine j_aload_n (pc := 0) (q := 0) d_Row_atRest_0 rfl rfl ?_
  refine j_getL (pc := 1) d_Row_atRest_1 fl_Row_17 h_o (by decide) rfl ?_
  refine j_ldc2 (pc := 4) d_Row_atRest_4 cl_Row_15 ?_
  refine j_land (pc := 7) d_Row_atRest_7 ?_
  refine j_aload_n (pc := 8) (q := 0) d_Row_atRest_8 rfl rfl ?_
  refine j_getI (pc := 9) d_Row_atRest_9 fl_Row_21 h_o (by decide) rfl ?_
  refine j_i2l (pc := 12) d_Row_atRest_12 ?_
  refine j_bipush (pc := 13) d_Row_atRest_13 k_b_36 ?_
  refine j_lshl (pc := 15) d_Row_atRest_15 ?_
  refine j_lor (pc := 16) d_Row_atRest_16 ?_
  exact j_lreturn (pc := 17) d_Row_atRest_17 rfl
-- Row.knownOf (J)I
def mt_Row_knownOf : Mt := ("ShakeHands$Row", b_Row_knownOf, 2, some .int, 2, SHx)
theorem d_Row_knownOf_0 : decode b_Row_knownOf 0 = .ok (.lload_n 0, 1) := by decide +kernel
theorem d_Row_knownOf_1 : decode b_Row_knownOf 1 = .ok (.bipush 36, 2) := by decide +kernel
theorem d_Row_knownOf_3 : decode b_Row_knownOf 3 = .ok (.lushr, 1) := by decide +kernel
theorem d_Row_knownOf_4 : decode b_Row_knownOf 4 = .ok (.l2i, 1) := by decide +kernel
theorem d_Row_knownOf_5 : decode b_Row_knownOf 5 = .ok (.ireturn, 1) := by decide +kernel
def X_Row_knownOf (n : Nat) (p0 : Int64) (M : Mem) : Option (Int32 × Mem) :=
  some (((((p0.toUInt64 >>> ((36 : Int32).toInt64.toUInt64 &&& Int64.toUInt64 63)).toInt64) : Int64).toInt32), M)
set_option maxRecDepth 20000 in
set_option maxHeartbeats 4000000 in
theorem C_Row_knownOf (n : Nat)   (p0 : Int64) (M : Mem) : Ct y_Row_knownOf mt_Row_knownOf wI [Value.long p0] M (X_Row_knownOf n p0 M) := by
  refine ct_of (by decide +kernel) rfl (Nat.le_of_ble_eq_true rfl) ?_
  show J _ _ _ [(0, Value.long p0)] _ _ _
  unfold X_Row_knownOf
  refine j_lload_n (pc := 0) (q := 0) d_Row_knownOf_0 rfl rfl ?_
  refine j_bipush (pc := 1) d_Row_knownOf_1 k_b_36 ?_
  refine j_lushr (pc := 3) d_Row_knownOf_3 ?_
  refine j_l2i (pc := 4) d_Row_knownOf_4 ?_
  exact j_ireturn (pc := 5) d_Row_knownOf_5 rfl
-- Row.sizeOf (J)I
def mt_Row_sizeOf : Mt := ("ShakeHands$Row", b_Row_sizeOf, 2, some .int, 3, SHx)
theorem d_Row_sizeOf_0 : decode b_Row_sizeOf 0 = .ok (.lload_n 0, 1) := by decide +kernel
theorem d_Row_sizeOf_1 : decode b_Row_sizeOf 1 = .ok (.bipush 36, 2) := by decide +kernel
theorem d_Row_sizeOf_3 : decode b_Row_sizeOf 3 = .ok (.lushr, 1) := by decide +kernel
theorem d_Row_sizeOf_4 : decode b_Row_sizeOf 4 = .ok (.l2i, 1) := by decide +kernel
theorem d_Row_sizeOf_5 : decode b_Row_sizeOf 5 = .ok (.invokestatic 9, 3) := by decide +kernel
theorem d_Row_sizeOf_8 : decode b_Row_sizeOf 8 = .ok (.ireturn, 1) := by decide +kernel
def X_Row_sizeOf (n : Nat) (p0 : Int64) (M : Mem) : Option (Int32 × Mem) :=
  bd (X_Integer_bitCount n ((((p0.toUInt64 >>> ((36 : Int32).toInt64.toUInt64 &&& Int64.toUInt64 63)).toInt64) : Int64).toInt32) M) fun r1 M2 =>
  some (r1, M2)
set_option maxRecDepth 20000 in
set_option maxHeartbeats 4000000 in
theorem C_Row_sizeOf (n : Nat)   (p0 : Int64) (M : Mem) : Ct y_Row_sizeOf mt_Row_sizeOf wI [Value.long p0] M (X_Row_sizeOf n p0 M) := by
  refine ct_of (by decide +kernel) rfl (Nat.le_of_ble_eq_true rfl) ?_
  show J _ _ _ [(0, Value.long p0)] _ _ _
  unfold X_Row_sizeOf
  refine j_lload_n (pc := 0) (q := 0) d_Row_sizeOf_0 rfl rfl ?_
  refine j_bipush (pc := 1) d_Row_sizeOf_1 k_b_36 ?_
  refine j_lushr (pc := 3) d_Row_sizeOf_3 ?_
  refine j_l2i (pc := 4) d_Row_sizeOf_4 ?_
  refine j_callS1 (pc := 5) d_Row_sizeOf_5 (C_Integer_bitCount n ((((p0.toUInt64 >>> ((36 : Int32).toInt64.toUInt64 &&& Int64.toUInt64 63)).toInt64) : Int64).toInt32) M) cS_Row_9 cd_Integer_bitCount dn_Integer_bitCount rfl (by decide) (Nat.le_of_ble_eq_true rfl) (Nat.le_of_ble_eq_true rfl) nr_I (fun r1 M2 => ?_)
  exact j_ireturn (pc := 8) d_Row_sizeOf_8 rfl
-- Row.thingOf (JI)I
def mt_Row_thingOf : Mt := ("ShakeHands$Row", b_Row_thingOf, 3, some .int, 2, SHx)
theorem d_Row_thingOf_0 : decode b_Row_thingOf 0 = .ok (.lload_n 0, 1) := by decide +kernel
theorem d_Row_thingOf_1 : decode b_Row_thingOf 1 = .ok (.iconst 4, 1) := by decide +kernel
theorem d_Row_thingOf_2 : decode b_Row_thingOf 2 = .ok (.iload_n 2, 1) := by decide +kernel
theorem d_Row_thingOf_3 : decode b_Row_thingOf 3 = .ok (.imul, 1) := by decide +kernel
theorem d_Row_thingOf_4 : decode b_Row_thingOf 4 = .ok (.lushr, 1) := by decide +kernel
theorem d_Row_thingOf_5 : decode b_Row_thingOf 5 = .ok (.l2i, 1) := by decide +kernel
theorem d_Row_thingOf_6 : decode b_Row_thingOf 6 = .ok (.bipush 15, 2) := by decide +kernel
theorem d_Row_thingOf_8 : decode b_Row_thingOf 8 = .ok (.iand, 1) := by decide +kernel
theorem d_Row_thingOf_9 : decode b_Row_thingOf 9 = .ok (.ireturn, 1) := by decide +kernel
def X_Row_thingOf (n : Nat) (p0 : Int64) (p2 : Int32) (M : Mem) : Option (Int32 × Mem) :=
  some ((((((p0.toUInt64 >>> ((4 * p2).toInt64.toUInt64 &&& Int64.toUInt64 63)).toInt64) : Int64).toInt32) &&& 15), M)
set_option maxRecDepth 20000 in
set_option maxHeartbeats 4000000 in
theorem C_Row_thingOf (n : Nat)   (p0 : Int64) (p2 : Int32) (M : Mem) : Ct y_Row_thingOf mt_Row_thingOf wI [Value.long p0, Value.int p2] M (X_Row_thingOf n p0 p2 M) := by
  refine ct_of (by decide +kernel) rfl (Nat.le_of_ble_eq_true rfl) ?_
  show J _ _ _ [(0, Value.long p0), (2, Value.int p2)] _ _ _
  unfold X_Row_thingOf
  refine j_lload_n (pc := 0) (q := 0) d_Row_thingOf_0 rfl rfl ?_
  refine j_iconst (pc := 1) d_Row_thingOf_1 k_i_4 ?_
  refine j_iload_n (pc := 2) (q := 1) d_Row_thingOf_2 rfl rfl ?_
  refine j_imul (pc := 3) d_Row_thingOf_3 ?_
  refine j_lushr (pc := 4) d_Row_thingOf_4 ?_
  refine j_l2i (pc := 5) d_Row_thingOf_5 ?_
  refine j_bipush (pc := 6) d_Row_thingOf_6 k_b_15 ?_
  refine j_iand (pc := 8) d_Row_thingOf_8 ?_
  exact j_ireturn (pc := 9) d_Row_thingOf_9 rfl
-- Row.knowsIt (JI)Z
def mt_Row_knowsIt : Mt := ("ShakeHands$Row", b_Row_knowsIt, 3, some .boolean, 2, SHx)
theorem d_Row_knowsIt_0 : decode b_Row_knowsIt 0 = .ok (.lload_n 0, 1) := by decide +kernel
theorem d_Row_knowsIt_1 : decode b_Row_knowsIt 1 = .ok (.bipush 36, 2) := by decide +kernel
theorem d_Row_knowsIt_3 : decode b_Row_knowsIt 3 = .ok (.iload_n 2, 1) := by decide +kernel
theorem d_Row_knowsIt_4 : decode b_Row_knowsIt 4 = .ok (.iadd, 1) := by decide +kernel
theorem d_Row_knowsIt_5 : decode b_Row_knowsIt 5 = .ok (.lushr, 1) := by decide +kernel
theorem d_Row_knowsIt_6 : decode b_Row_knowsIt 6 = .ok (.lconst 1, 1) := by decide +kernel
theorem d_Row_knowsIt_7 : decode b_Row_knowsIt 7 = .ok (.land, 1) := by decide +kernel
theorem d_Row_knowsIt_8 : decode b_Row_knowsIt 8 = .ok (.lconst 0, 1) := by decide +kernel
theorem d_Row_knowsIt_9 : decode b_Row_knowsIt 9 = .ok (.lcmp, 1) := by decide +kernel
theorem d_Row_knowsIt_10 : decode b_Row_knowsIt 10 = .ok (.ifCond .eq 7, 3) := by decide +kernel
theorem d_Row_knowsIt_13 : decode b_Row_knowsIt 13 = .ok (.iconst 1, 1) := by decide +kernel
theorem d_Row_knowsIt_14 : decode b_Row_knowsIt 14 = .ok (.goto 4, 3) := by decide +kernel
theorem d_Row_knowsIt_17 : decode b_Row_knowsIt 17 = .ok (.iconst 0, 1) := by decide +kernel
theorem d_Row_knowsIt_18 : decode b_Row_knowsIt 18 = .ok (.ireturn, 1) := by decide +kernel
def X_Row_knowsIt (n : Nat) (p0 : Int64) (p2 : Int32) (M : Mem) : Option (Int32 × Mem) :=
  (if (lg_cmp (((p0.toUInt64 >>> ((36 + p2).toInt64.toUInt64 &&& Int64.toUInt64 63)).toInt64) &&& 1) 0) = 0 then
    some (0, M)
    else
    some (1, M))
set_option maxRecDepth 20000 in
set_option maxHeartbeats 4000000 in
theorem C_Row_knowsIt (n : Nat)   (p0 : Int64) (p2 : Int32) (M : Mem) : Ct y_Row_knowsIt mt_Row_knowsIt wI [Value.long p0, Value.int p2] M (X_Row_knowsIt n p0 p2 M) := by
  refine ct_of (by decide +kernel) rfl (Nat.le_of_ble_eq_true rfl) ?_
  show J _ _ _ [(0, Value.long p0), (2, Value.int p2)] _ _ _
  unfold X_Row_knowsIt
  refine j_lload_n (pc := 0) (q := 0) d_Row_knowsIt_0 rfl rfl ?_
  refine j_bipush (pc := 1) d_Row_knowsIt_1 k_b_36 ?_
  refine j_iload_n (pc := 3) (q := 1) d_Row_knowsIt_3 rfl rfl ?_
  refine j_iadd (pc := 4) d_Row_knowsIt_4 ?_
  refine j_lushr (pc := 5) d_Row_knowsIt_5 ?_
  refine j_lconst (pc := 6) d_Row_knowsIt_6 k_l_1 ?_
  refine j_land (pc := 7) d_Row_knowsIt_7 ?_
  refine j_lconst (pc := 8) d_Row_knowsIt_8 k_l_0 ?_
  refine j_lcmp (pc := 9) d_Row_knowsIt_9 ?_
  refine j_if_eq (pc := 10) (tgt := 17) d_Row_knowsIt_10 (by decide) (fun _ => ?_) (fun _ => ?_)
  · refine j_iconst (pc := 17) d_Row_knowsIt_17 k_i_0 ?_
    exact j_zreturn (pc := 18) d_Row_knowsIt_18 rfl rfl
  · refine j_iconst (pc := 13) d_Row_knowsIt_13 k_i_1 ?_
    refine j_goto (pc := 14) (tgt := 18) d_Row_knowsIt_14 (by decide) ?_
    exact j_zreturn (pc := 18) d_Row_knowsIt_18 rfl rfl
-- Row.drop (I)V
def mt_Row_drop : Mt := ("ShakeHands$Row", b_Row_drop, 6, none, 3, SHx)
theorem d_Row_drop_0 : decode b_Row_drop 0 = .ok (.aload_n 0, 1) := by decide +kernel
theorem d_Row_drop_1 : decode b_Row_drop 1 = .ok (.getfield 21, 3) := by decide +kernel
theorem d_Row_drop_4 : decode b_Row_drop 4 = .ok (.invokestatic 9, 3) := by decide +kernel
theorem d_Row_drop_7 : decode b_Row_drop 7 = .ok (.istore_n 2, 1) := by decide +kernel
theorem d_Row_drop_8 : decode b_Row_drop 8 = .ok (.iconst 0, 1) := by decide +kernel
theorem d_Row_drop_9 : decode b_Row_drop 9 = .ok (.istore_n 3, 1) := by decide +kernel
theorem d_Row_drop_10 : decode b_Row_drop 10 = .ok (.iload_n 3, 1) := by decide +kernel
theorem d_Row_drop_11 : decode b_Row_drop 11 = .ok (.iload_n 2, 1) := by decide +kernel
theorem d_Row_drop_12 : decode b_Row_drop 12 = .ok (.if_icmp .ge 77, 3) := by decide +kernel
theorem d_Row_drop_15 : decode b_Row_drop 15 = .ok (.aload_n 0, 1) := by decide +kernel
theorem d_Row_drop_16 : decode b_Row_drop 16 = .ok (.getfield 17, 3) := by decide +kernel
theorem d_Row_drop_19 : decode b_Row_drop 19 = .ok (.iconst 4, 1) := by decide +kernel
theorem d_Row_drop_20 : decode b_Row_drop 20 = .ok (.iload_n 3, 1) := by decide +kernel
theorem d_Row_drop_21 : decode b_Row_drop 21 = .ok (.imul, 1) := by decide +kernel
theorem d_Row_drop_22 : decode b_Row_drop 22 = .ok (.lushr, 1) := by decide +kernel
theorem d_Row_drop_23 : decode b_Row_drop 23 = .ok (.ldc2_w 29, 3) := by decide +kernel
theorem d_Row_drop_26 : decode b_Row_drop 26 = .ok (.land, 1) := by decide +kernel
theorem d_Row_drop_27 : decode b_Row_drop 27 = .ok (.iload_n 1, 1) := by decide +kernel
theorem d_Row_drop_28 : decode b_Row_drop 28 = .ok (.i2l, 1) := by decide +kernel
theorem d_Row_drop_29 : decode b_Row_drop 29 = .ok (.lcmp, 1) := by decide +kernel
theorem d_Row_drop_30 : decode b_Row_drop 30 = .ok (.ifCond .ne 53, 3) := by decide +kernel
theorem d_Row_drop_33 : decode b_Row_drop 33 = .ok (.aload_n 0, 1) := by decide +kernel
theorem d_Row_drop_34 : decode b_Row_drop 34 = .ok (.getfield 17, 3) := by decide +kernel
theorem d_Row_drop_37 : decode b_Row_drop 37 = .ok (.lconst 1, 1) := by decide +kernel
theorem d_Row_drop_38 : decode b_Row_drop 38 = .ok (.iconst 4, 1) := by decide +kernel
theorem d_Row_drop_39 : decode b_Row_drop 39 = .ok (.iload_n 3, 1) := by decide +kernel
theorem d_Row_drop_40 : decode b_Row_drop 40 = .ok (.imul, 1) := by decide +kernel
theorem d_Row_drop_41 : decode b_Row_drop 41 = .ok (.lshl, 1) := by decide +kernel
theorem d_Row_drop_42 : decode b_Row_drop 42 = .ok (.lconst 1, 1) := by decide +kernel
theorem d_Row_drop_43 : decode b_Row_drop 43 = .ok (.lsub, 1) := by decide +kernel
theorem d_Row_drop_44 : decode b_Row_drop 44 = .ok (.land, 1) := by decide +kernel
theorem d_Row_drop_45 : decode b_Row_drop 45 = .ok (.lstore 4, 2) := by decide +kernel
theorem d_Row_drop_47 : decode b_Row_drop 47 = .ok (.aload_n 0, 1) := by decide +kernel
theorem d_Row_drop_48 : decode b_Row_drop 48 = .ok (.aload_n 0, 1) := by decide +kernel
theorem d_Row_drop_49 : decode b_Row_drop 49 = .ok (.getfield 17, 3) := by decide +kernel
theorem d_Row_drop_52 : decode b_Row_drop 52 = .ok (.iconst 4, 1) := by decide +kernel
theorem d_Row_drop_53 : decode b_Row_drop 53 = .ok (.iload_n 3, 1) := by decide +kernel
theorem d_Row_drop_54 : decode b_Row_drop 54 = .ok (.imul, 1) := by decide +kernel
theorem d_Row_drop_55 : decode b_Row_drop 55 = .ok (.lushr, 1) := by decide +kernel
theorem d_Row_drop_56 : decode b_Row_drop 56 = .ok (.iconst 4, 1) := by decide +kernel
theorem d_Row_drop_57 : decode b_Row_drop 57 = .ok (.lushr, 1) := by decide +kernel
theorem d_Row_drop_58 : decode b_Row_drop 58 = .ok (.iconst 4, 1) := by decide +kernel
theorem d_Row_drop_59 : decode b_Row_drop 59 = .ok (.iload_n 3, 1) := by decide +kernel
theorem d_Row_drop_60 : decode b_Row_drop 60 = .ok (.imul, 1) := by decide +kernel
theorem d_Row_drop_61 : decode b_Row_drop 61 = .ok (.lshl, 1) := by decide +kernel
theorem d_Row_drop_62 : decode b_Row_drop 62 = .ok (.lload 4, 2) := by decide +kernel
theorem d_Row_drop_64 : decode b_Row_drop 64 = .ok (.lor, 1) := by decide +kernel
theorem d_Row_drop_65 : decode b_Row_drop 65 = .ok (.putfield 17, 3) := by decide +kernel
theorem d_Row_drop_68 : decode b_Row_drop 68 = .ok (.aload_n 0, 1) := by decide +kernel
theorem d_Row_drop_69 : decode b_Row_drop 69 = .ok (.dup, 1) := by decide +kernel
theorem d_Row_drop_70 : decode b_Row_drop 70 = .ok (.getfield 21, 3) := by decide +kernel
theorem d_Row_drop_73 : decode b_Row_drop 73 = .ok (.iconst 1, 1) := by decide +kernel
theorem d_Row_drop_74 : decode b_Row_drop 74 = .ok (.iload_n 1, 1) := by decide +kernel
theorem d_Row_drop_75 : decode b_Row_drop 75 = .ok (.ishl, 1) := by decide +kernel
theorem d_Row_drop_76 : decode b_Row_drop 76 = .ok (.iconst (-1), 1) := by decide +kernel
theorem d_Row_drop_77 : decode b_Row_drop 77 = .ok (.ixor, 1) := by decide +kernel
theorem d_Row_drop_78 : decode b_Row_drop 78 = .ok (.iand, 1) := by decide +kernel
theorem d_Row_drop_79 : decode b_Row_drop 79 = .ok (.putfield 21, 3) := by decide +kernel
theorem d_Row_drop_82 : decode b_Row_drop 82 = .ok (.return_, 1) := by decide +kernel
theorem d_Row_drop_83 : decode b_Row_drop 83 = .ok (.iinc 3 1, 3) := by decide +kernel
theorem d_Row_drop_86 : decode b_Row_drop 86 = .ok (.goto (-76), 3) := by decide +kernel
theorem d_Row_drop_89 : decode b_Row_drop 89 = .ok (.return_, 1) := by decide +kernel
def X_Row_drop_L10 (n : Nat) (o : Nat) (a1 : Int32) (a2 : Int32) (kx33 : Int32 → Option (Unit × Mem)) (M : Mem) : Nat → Int32 → Option (Unit × Mem)
    | 0, _ => none
    | m + 1, v3 => (if a2 ≤ v3 then
    some ((), M)
    else
    (if (lg_cmp ((((M.2 o 0).toUInt64 >>> ((4 * v3).toInt64.toUInt64 &&& Int64.toUInt64 63)).toInt64) &&& 15) (a1.toInt64)) = 0 then
      kx33 v3
      else
      X_Row_drop_L10 n o a1 a2 kx33 M m (v3 + 1)))
def X_Row_drop (n : Nat) (o : Nat) (p1 : Int32) (M : Mem) : Option (Unit × Mem) :=
  bd (X_Integer_bitCount n (M.1 o 1) M) fun r1 M2 =>
  X_Row_drop_L10 n o p1 r1 (fun y3 => nm ((M2.2 o 0) &&& (((1 : Int64) <<< ((4 * y3).toInt64 &&& 63)) - 1)) fun x4 =>
    nm (sl M2 o 0 (((((((M2.2 o 0).toUInt64 >>> ((4 * y3).toInt64.toUInt64 &&& Int64.toUInt64 63)).toInt64).toUInt64 >>> ((4 : Int32).toInt64.toUInt64 &&& Int64.toUInt64 63)).toInt64) <<< ((4 * y3).toInt64 &&& 63)) ||| x4)) fun N5 =>
    some ((), si N5 o 1 ((N5.1 o 1) &&& ((1 <<< (p1 &&& 31)) ^^^ (-1))))) M2 n 0
set_option maxRecDepth 20000 in
set_option maxHeartbeats 4000000 in
theorem X_Row_drop_L10_ok {n : Nat} {o : Nat} {a1 : Int32} {a2 : Int32} (h_o : SHx[o]? = some (3, [1, 0])) {kx33 : Int32 → Option (Unit × Mem)} {M : Mem} (hkx33 : ∀ (w3 : Int32), J (mt_Row_drop) wU 33 [(0, Value.ref o), (1, Value.int a1), (3, Value.int w3)] [] M (kx33 w3)) : ∀ (m : Nat) (v3 : Int32), J (mt_Row_drop) wU 10 [(0, Value.ref o), (1, Value.int a1), (2, Value.int a2), (3, Value.int v3)] [] M (X_Row_drop_L10 n o a1 a2 kx33 M m v3) := by
  intro m
  induction m with
  | zero => intro _; exact j_none
  | succ m ih =>
    intro v3
    show J _ _ _ _ _ _ ((if a2 ≤ v3 then
some ((), M)
else
(if (lg_cmp ((((M.2 o 0).toUInt64 >>> ((4 * v3).toInt64.toUInt64 &&& Int64.toUInt64 63)).toInt64) &&& 15) (a1.toInt64)) = 0 then
kx33 v3
else
X_Row_drop_L10 n o a1 a2 kx33 M m (v3 + 1))))
    refine j_iload_n (pc := 10) (q := 3) d_Row_drop_10 rfl rfl ?_
    refine j_iload_n (pc := 11) (q := 2) d_Row_drop_11 rfl rfl ?_
    refine j_icmp_ge (pc := 12) (tgt := 89) d_Row_drop_12 (by decide) (fun _ => ?_) (fun _ => ?_)
    · exact j_return (pc := 89) d_Row_drop_89 rfl
    · refine j_aload_n (pc := 15) (q := 0) d_Row_drop_15 rfl rfl ?_
      refine j_getL (pc := 16) d_Row_drop_16 fl_Row_17 h_o (by decide) rfl ?_
      refine j_iconst (pc := 19) d_Row_drop_19 k_i_4 ?_
      refine j_iload_n (pc := 20) (q := 3) d_Row_drop_20 rfl rfl ?_
      refine j_imul (pc := 21) d_Row_drop_21 ?_
      refine j_lushr (pc := 22) d_Row_drop_22 ?_
      refine j_ldc2 (pc := 23) d_Row_drop_23 cl_Row_29 ?_
      refine j_land (pc := 26) d_Row_drop_26 ?_
      refine j_iload_n (pc := 27) (q := 1) d_Row_drop_27 rfl rfl ?_
      refine j_i2l (pc := 28) d_Row_drop_28 ?_
      refine j_lcmp (pc := 29) d_Row_drop_29 ?_
      refine j_if_ne (pc := 30) (tgt := 83) d_Row_drop_30 (by decide) (fun _ => ?_) (fun _ => ?_)
      · refine j_iinc (pc := 83) (q := 3) d_Row_drop_83 rfl (congrArg (v3 + ·) k_i_1) (by decide) rfl ?_
        refine j_goto (pc := 86) (tgt := 10) d_Row_drop_86 (by decide) ?_
        refine j_lv [1, 2, 3, 0] rfl ?_
        exact ih (v3 + 1)
      · refine j_lv [0, 1, 3] rfl ?_
        exact hkx33 v3
set_option maxRecDepth 20000 in
set_option maxHeartbeats 4000000 in
theorem C_Row_drop (n : Nat) (o : Nat) (h_o : SHx[o]? = some (3, [1, 0])) (p1 : Int32) (M : Mem) : Ct y_Row_drop mt_Row_drop wU [Value.ref o, Value.int p1] M (X_Row_drop n o p1 M) := by
  refine ct_of (by decide +kernel) rfl (Nat.le_of_ble_eq_true rfl) ?_
  show J _ _ _ [(0, Value.ref o), (1, Value.int p1)] _ _ _
  unfold X_Row_drop
  refine j_aload_n (pc := 0) (q := 0) d_Row_drop_0 rfl rfl ?_
  refine j_getI (pc := 1) d_Row_drop_1 fl_Row_21 h_o (by decide) rfl ?_
  refine j_callS1 (pc := 4) d_Row_drop_4 (C_Integer_bitCount n (M.1 o 1) M) cS_Row_9 cd_Integer_bitCount dn_Integer_bitCount rfl (by decide) (Nat.le_of_ble_eq_true rfl) (Nat.le_of_ble_eq_true rfl) nr_I (fun r1 M2 => ?_)
  refine j_istore_n (pc := 7) d_Row_drop_7 rfl (by decide) rfl ?_
  refine j_iconst (pc := 8) d_Row_drop_8 k_i_0 ?_
  refine j_istore_n (pc := 9) d_Row_drop_9 rfl (by decide) rfl ?_
  refine j_lv [2, 3, 1, 0] rfl ?_
  refine X_Row_drop_L10_ok h_o (fun y3 => ?_) n 0
  refine j_aload_n (pc := 33) (q := 0) d_Row_drop_33 rfl rfl ?_
  refine j_getL (pc := 34) d_Row_drop_34 fl_Row_17 h_o (by decide) rfl ?_
  refine j_lconst (pc := 37) d_Row_drop_37 k_l_1 ?_
  refine j_iconst (pc := 38) d_Row_drop_38 k_i_4 ?_
  refine j_iload_n (pc := 39) (q := 2) d_Row_drop_39 rfl rfl ?_
  refine j_imul (pc := 40) d_Row_drop_40 ?_
  refine j_lshl (pc := 41) d_Row_drop_41 ?_
  refine j_lconst (pc := 42) d_Row_drop_42 k_l_1 ?_
  refine j_lsub (pc := 43) d_Row_drop_43 ?_
  refine j_land (pc := 44) d_Row_drop_44 ?_
  refine j_nml (fun x4 => ?_)
  refine j_lstore (pc := 45) d_Row_drop_45 (by decide) rfl ?_
  refine j_aload_n (pc := 47) (q := 1) d_Row_drop_47 rfl rfl ?_
  refine j_aload_n (pc := 48) (q := 1) d_Row_drop_48 rfl rfl ?_
  refine j_getL (pc := 49) d_Row_drop_49 fl_Row_17 h_o (by decide) rfl ?_
  refine j_iconst (pc := 52) d_Row_drop_52 k_i_4 ?_
  refine j_iload_n (pc := 53) (q := 3) d_Row_drop_53 rfl rfl ?_
  refine j_imul (pc := 54) d_Row_drop_54 ?_
  refine j_lushr (pc := 55) d_Row_drop_55 ?_
  refine j_iconst (pc := 56) d_Row_drop_56 k_i_4 ?_
  refine j_lushr (pc := 57) d_Row_drop_57 ?_
  refine j_iconst (pc := 58) d_Row_drop_58 k_i_4 ?_
  refine j_iload_n (pc := 59) (q := 3) d_Row_drop_59 rfl rfl ?_
  refine j_imul (pc := 60) d_Row_drop_60 ?_
  refine j_lshl (pc := 61) d_Row_drop_61 ?_
  refine j_lload (pc := 62) (q := 0) d_Row_drop_62 rfl ?_
  refine j_lor (pc := 64) d_Row_drop_64 ?_
  refine j_putL (pc := 65) d_Row_drop_65 fl_Row_17 rfl h_o (by decide) rfl ?_
  refine j_aload_n (pc := 68) (q := 1) d_Row_drop_68 rfl rfl ?_
  refine j_dup (pc := 69) d_Row_drop_69 rfl ?_
  refine j_nmM (fun N5 => ?_)
  refine j_getI (pc := 70) d_Row_drop_70 fl_Row_21 h_o (by decide) rfl ?_
  refine j_iconst (pc := 73) d_Row_drop_73 k_i_1 ?_
  refine j_iload_n (pc := 74) (q := 2) d_Row_drop_74 rfl rfl ?_
  refine j_ishl (pc := 75) d_Row_drop_75 ?_
  refine j_iconst (pc := 76) d_Row_drop_76 k_i_m1 ?_
  refine j_ixor (pc := 77) d_Row_drop_77 ?_
  refine j_iand (pc := 78) d_Row_drop_78 ?_
  refine j_putI (pc := 79) d_Row_drop_79 fl_Row_21 rfl h_o (by decide) rfl ?_
  exact j_return (pc := 82) d_Row_drop_82 rfl
-- Row.shorten (I)V
def mt_Row_shorten : Mt := ("ShakeHands$Row", b_Row_shorten, 3, none, 3, SHx)
theorem d_Row_shorten_0 : decode b_Row_shorten 0 = .ok (.aload_n 0, 1) := by decide +kernel
theorem d_Row_shorten_1 : decode b_Row_shorten 1 = .ok (.getfield 21, 3) := by decide +kernel
theorem d_Row_shorten_4 : decode b_Row_shorten 4 = .ok (.invokestatic 9, 3) := by decide +kernel
theorem d_Row_shorten_7 : decode b_Row_shorten 7 = .ok (.iload_n 1, 1) := by decide +kernel
theorem d_Row_shorten_8 : decode b_Row_shorten 8 = .ok (.isub, 1) := by decide +kernel
theorem d_Row_shorten_9 : decode b_Row_shorten 9 = .ok (.istore_n 2, 1) := by decide +kernel
theorem d_Row_shorten_10 : decode b_Row_shorten 10 = .ok (.iload_n 2, 1) := by decide +kernel
theorem d_Row_shorten_11 : decode b_Row_shorten 11 = .ok (.ifCond .le 41, 3) := by decide +kernel
theorem d_Row_shorten_14 : decode b_Row_shorten 14 = .ok (.aload_n 0, 1) := by decide +kernel
theorem d_Row_shorten_15 : decode b_Row_shorten 15 = .ok (.dup, 1) := by decide +kernel
theorem d_Row_shorten_16 : decode b_Row_shorten 16 = .ok (.getfield 21, 3) := by decide +kernel
theorem d_Row_shorten_19 : decode b_Row_shorten 19 = .ok (.iconst 1, 1) := by decide +kernel
theorem d_Row_shorten_20 : decode b_Row_shorten 20 = .ok (.aload_n 0, 1) := by decide +kernel
theorem d_Row_shorten_21 : decode b_Row_shorten 21 = .ok (.getfield 17, 3) := by decide +kernel
theorem d_Row_shorten_24 : decode b_Row_shorten 24 = .ok (.ldc2_w 29, 3) := by decide +kernel
theorem d_Row_shorten_27 : decode b_Row_shorten 27 = .ok (.land, 1) := by decide +kernel
theorem d_Row_shorten_28 : decode b_Row_shorten 28 = .ok (.l2i, 1) := by decide +kernel
theorem d_Row_shorten_29 : decode b_Row_shorten 29 = .ok (.ishl, 1) := by decide +kernel
theorem d_Row_shorten_30 : decode b_Row_shorten 30 = .ok (.iconst (-1), 1) := by decide +kernel
theorem d_Row_shorten_31 : decode b_Row_shorten 31 = .ok (.ixor, 1) := by decide +kernel
theorem d_Row_shorten_32 : decode b_Row_shorten 32 = .ok (.iand, 1) := by decide +kernel
theorem d_Row_shorten_33 : decode b_Row_shorten 33 = .ok (.putfield 21, 3) := by decide +kernel
theorem d_Row_shorten_36 : decode b_Row_shorten 36 = .ok (.aload_n 0, 1) := by decide +kernel
theorem d_Row_shorten_37 : decode b_Row_shorten 37 = .ok (.dup, 1) := by decide +kernel
theorem d_Row_shorten_38 : decode b_Row_shorten 38 = .ok (.getfield 17, 3) := by decide +kernel
theorem d_Row_shorten_41 : decode b_Row_shorten 41 = .ok (.iconst 4, 1) := by decide +kernel
theorem d_Row_shorten_42 : decode b_Row_shorten 42 = .ok (.lushr, 1) := by decide +kernel
theorem d_Row_shorten_43 : decode b_Row_shorten 43 = .ok (.putfield 17, 3) := by decide +kernel
theorem d_Row_shorten_46 : decode b_Row_shorten 46 = .ok (.iinc 2 (-1), 3) := by decide +kernel
theorem d_Row_shorten_49 : decode b_Row_shorten 49 = .ok (.goto (-39), 3) := by decide +kernel
theorem d_Row_shorten_52 : decode b_Row_shorten 52 = .ok (.return_, 1) := by decide +kernel
def X_Row_shorten_L10 (n : Nat) (o : Nat) : Nat → Int32 → Mem → Option (Unit × Mem)
    | 0, _, _ => none
    | m + 1, v2, M => (if v2 ≤ 0 then
    some ((), M)
    else
    nm (si M o 1 ((M.1 o 1) &&& ((1 <<< (((((M.2 o 0) &&& 15) : Int64).toInt32) &&& 31)) ^^^ (-1)))) fun N4 =>
    X_Row_shorten_L10 n o m (v2 + (-1)) (sl N4 o 0 (((N4.2 o 0).toUInt64 >>> ((4 : Int32).toInt64.toUInt64 &&& Int64.toUInt64 63)).toInt64)))
def X_Row_shorten (n : Nat) (o : Nat) (p1 : Int32) (M : Mem) : Option (Unit × Mem) :=
  bd (X_Integer_bitCount n (M.1 o 1) M) fun r1 M2 =>
  nm (r1 - p1) fun x3 =>
  X_Row_shorten_L10 n o n x3 M2
set_option maxRecDepth 20000 in
set_option maxHeartbeats 4000000 in
theorem X_Row_shorten_L10_ok {n : Nat} {o : Nat} (h_o : SHx[o]? = some (3, [1, 0])) : ∀ (m : Nat) (v2 : Int32) (M : Mem), J (mt_Row_shorten) wU 10 [(0, Value.ref o), (2, Value.int v2)] [] M (X_Row_shorten_L10 n o m v2 M) := by
  intro m
  induction m with
  | zero => intro _ _; exact j_none
  | succ m ih =>
    intro v2 M
    show J _ _ _ _ _ _ ((if v2 ≤ 0 then
some ((), M)
else
nm (si M o 1 ((M.1 o 1) &&& ((1 <<< (((((M.2 o 0) &&& 15) : Int64).toInt32) &&& 31)) ^^^ (-1)))) fun N4 =>
X_Row_shorten_L10 n o m (v2 + (-1)) (sl N4 o 0 (((N4.2 o 0).toUInt64 >>> ((4 : Int32).toInt64.toUInt64 &&& Int64.toUInt64 63)).toInt64))))
    refine j_iload_n (pc := 10) (q := 1) d_Row_shorten_10 rfl rfl ?_
    refine j_if_le (pc := 11) (tgt := 52) d_Row_shorten_11 (by decide) (fun _ => ?_) (fun _ => ?_)
    · exact j_return (pc := 52) d_Row_shorten_52 rfl
    · refine j_aload_n (pc := 14) (q := 0) d_Row_shorten_14 rfl rfl ?_
      refine j_dup (pc := 15) d_Row_shorten_15 rfl ?_
      refine j_getI (pc := 16) d_Row_shorten_16 fl_Row_21 h_o (by decide) rfl ?_
      refine j_iconst (pc := 19) d_Row_shorten_19 k_i_1 ?_
      refine j_aload_n (pc := 20) (q := 0) d_Row_shorten_20 rfl rfl ?_
      refine j_getL (pc := 21) d_Row_shorten_21 fl_Row_17 h_o (by decide) rfl ?_
      refine j_ldc2 (pc := 24) d_Row_shorten_24 cl_Row_29 ?_
      refine j_land (pc := 27) d_Row_shorten_27 ?_
      refine j_l2i (pc := 28) d_Row_shorten_28 ?_
      refine j_ishl (pc := 29) d_Row_shorten_29 ?_
      refine j_iconst (pc := 30) d_Row_shorten_30 k_i_m1 ?_
      refine j_ixor (pc := 31) d_Row_shorten_31 ?_
      refine j_iand (pc := 32) d_Row_shorten_32 ?_
      refine j_putI (pc := 33) d_Row_shorten_33 fl_Row_21 rfl h_o (by decide) rfl ?_
      refine j_aload_n (pc := 36) (q := 0) d_Row_shorten_36 rfl rfl ?_
      refine j_dup (pc := 37) d_Row_shorten_37 rfl ?_
      refine j_nmM (fun N4 => ?_)
      refine j_getL (pc := 38) d_Row_shorten_38 fl_Row_17 h_o (by decide) rfl ?_
      refine j_iconst (pc := 41) d_Row_shorten_41 k_i_4 ?_
      refine j_lushr (pc := 42) d_Row_shorten_42 ?_
      refine j_putL (pc := 43) d_Row_shorten_43 fl_Row_17 rfl h_o (by decide) rfl ?_
      refine j_iinc (pc := 46) (q := 1) d_Row_shorten_46 rfl (congrArg (v2 + ·) k_i_m1) (by decide) rfl ?_
      refine j_goto (pc := 49) (tgt := 10) d_Row_shorten_49 (by decide) ?_
      refine j_lv [1, 0] rfl ?_
      exact ih (v2 + (-1)) (sl N4 o 0 (((N4.2 o 0).toUInt64 >>> ((4 : Int32).toInt64.toUInt64 &&& Int64.toUInt64 63)).toInt64))
set_option maxRecDepth 20000 in
set_option maxHeartbeats 4000000 in
theorem C_Row_shorten (n : Nat) (o : Nat) (h_o : SHx[o]? = some (3, [1, 0])) (p1 : Int32) (M : Mem) : Ct y_Row_shorten mt_Row_shorten wU [Value.ref o, Value.int p1] M (X_Row_shorten n o p1 M) := by
  refine ct_of (by decide +kernel) rfl (Nat.le_of_ble_eq_true rfl) ?_
  show J _ _ _ [(0, Value.ref o), (1, Value.int p1)] _ _ _
  unfold X_Row_shorten
  refine j_aload_n (pc := 0) (q := 0) d_Row_shorten_0 rfl rfl ?_
  refine j_getI (pc := 1) d_Row_shorten_1 fl_Row_21 h_o (by decide) rfl ?_
  refine j_callS1 (pc := 4) d_Row_shorten_4 (C_Integer_bitCount n (M.1 o 1) M) cS_Row_9 cd_Integer_bitCount dn_Integer_bitCount rfl (by decide) (Nat.le_of_ble_eq_true rfl) (Nat.le_of_ble_eq_true rfl) nr_I (fun r1 M2 => ?_)
  refine j_iload_n (pc := 7) (q := 1) d_Row_shorten_7 rfl rfl ?_
  refine j_isub (pc := 8) d_Row_shorten_8 ?_
  refine j_nmi (fun x3 => ?_)
  refine j_istore_n (pc := 9) d_Row_shorten_9 rfl (by decide) rfl ?_
  refine j_lv [1, 0] rfl ?_
  exact X_Row_shorten_L10_ok h_o  n x3 M2
-- Row.addAll (J)V
def mt_Row_addAll : Mt := ("ShakeHands$Row", b_Row_addAll, 5, none, 4, SHx)
theorem d_Row_addAll_0 : decode b_Row_addAll 0 = .ok (.lload_n 1, 1) := by decide +kernel
theorem d_Row_addAll_1 : decode b_Row_addAll 1 = .ok (.bipush 36, 2) := by decide +kernel
theorem d_Row_addAll_3 : decode b_Row_addAll 3 = .ok (.lushr, 1) := by decide +kernel
theorem d_Row_addAll_4 : decode b_Row_addAll 4 = .ok (.l2i, 1) := by decide +kernel
theorem d_Row_addAll_5 : decode b_Row_addAll 5 = .ok (.invokestatic 9, 3) := by decide +kernel
theorem d_Row_addAll_8 : decode b_Row_addAll 8 = .ok (.istore_n 3, 1) := by decide +kernel
theorem d_Row_addAll_9 : decode b_Row_addAll 9 = .ok (.iconst 0, 1) := by decide +kernel
theorem d_Row_addAll_10 : decode b_Row_addAll 10 = .ok (.istore 4, 2) := by decide +kernel
theorem d_Row_addAll_12 : decode b_Row_addAll 12 = .ok (.iload 4, 2) := by decide +kernel
theorem d_Row_addAll_14 : decode b_Row_addAll 14 = .ok (.iload_n 3, 1) := by decide +kernel
theorem d_Row_addAll_15 : decode b_Row_addAll 15 = .ok (.if_icmp .ge 23, 3) := by decide +kernel
theorem d_Row_addAll_18 : decode b_Row_addAll 18 = .ok (.aload_n 0, 1) := by decide +kernel
theorem d_Row_addAll_19 : decode b_Row_addAll 19 = .ok (.lload_n 1, 1) := by decide +kernel
theorem d_Row_addAll_20 : decode b_Row_addAll 20 = .ok (.iconst 4, 1) := by decide +kernel
theorem d_Row_addAll_21 : decode b_Row_addAll 21 = .ok (.iload 4, 2) := by decide +kernel
theorem d_Row_addAll_23 : decode b_Row_addAll 23 = .ok (.imul, 1) := by decide +kernel
theorem d_Row_addAll_24 : decode b_Row_addAll 24 = .ok (.lushr, 1) := by decide +kernel
theorem d_Row_addAll_25 : decode b_Row_addAll 25 = .ok (.l2i, 1) := by decide +kernel
theorem d_Row_addAll_26 : decode b_Row_addAll 26 = .ok (.bipush 15, 2) := by decide +kernel
theorem d_Row_addAll_28 : decode b_Row_addAll 28 = .ok (.iand, 1) := by decide +kernel
theorem d_Row_addAll_29 : decode b_Row_addAll 29 = .ok (.invokevirtual 25, 3) := by decide +kernel
theorem d_Row_addAll_32 : decode b_Row_addAll 32 = .ok (.iinc 4 1, 3) := by decide +kernel
theorem d_Row_addAll_35 : decode b_Row_addAll 35 = .ok (.goto (-23), 3) := by decide +kernel
theorem d_Row_addAll_38 : decode b_Row_addAll 38 = .ok (.return_, 1) := by decide +kernel
def X_Row_addAll_L12 (n : Nat) (o : Nat) (a1 : Int64) (a3 : Int32) : Nat → Int32 → Mem → Option (Unit × Mem)
    | 0, _, _ => none
    | m + 1, v4, M => (if a3 ≤ v4 then
    some ((), M)
    else
    bd (X_Row_add n o (((((a1.toUInt64 >>> ((4 * v4).toInt64.toUInt64 &&& Int64.toUInt64 63)).toInt64) : Int64).toInt32) &&& 15) M) fun _ M4 =>
    X_Row_addAll_L12 n o a1 a3 m (v4 + 1) M4)
def X_Row_addAll (n : Nat) (o : Nat) (p1 : Int64) (M : Mem) : Option (Unit × Mem) :=
  bd (X_Integer_bitCount n ((((p1.toUInt64 >>> ((36 : Int32).toInt64.toUInt64 &&& Int64.toUInt64 63)).toInt64) : Int64).toInt32) M) fun r1 M2 =>
  X_Row_addAll_L12 n o p1 r1 n 0 M2
set_option maxRecDepth 20000 in
set_option maxHeartbeats 4000000 in
theorem X_Row_addAll_L12_ok {n : Nat} {o : Nat} {a1 : Int64} {a3 : Int32} (h_o : SHx[o]? = some (3, [1, 0])) : ∀ (m : Nat) (v4 : Int32) (M : Mem), J (mt_Row_addAll) wU 12 [(0, Value.ref o), (1, Value.long a1), (3, Value.int a3), (4, Value.int v4)] [] M (X_Row_addAll_L12 n o a1 a3 m v4 M) := by
  intro m
  induction m with
  | zero => intro _ _; exact j_none
  | succ m ih =>
    intro v4 M
    show J _ _ _ _ _ _ ((if a3 ≤ v4 then
some ((), M)
else
bd (X_Row_add n o (((((a1.toUInt64 >>> ((4 * v4).toInt64.toUInt64 &&& Int64.toUInt64 63)).toInt64) : Int64).toInt32) &&& 15) M) fun _ M4 =>
X_Row_addAll_L12 n o a1 a3 m (v4 + 1) M4))
    refine j_iload (pc := 12) (q := 3) d_Row_addAll_12 rfl ?_
    refine j_iload_n (pc := 14) (q := 2) d_Row_addAll_14 rfl rfl ?_
    refine j_icmp_ge (pc := 15) (tgt := 38) d_Row_addAll_15 (by decide) (fun _ => ?_) (fun _ => ?_)
    · exact j_return (pc := 38) d_Row_addAll_38 rfl
    · refine j_aload_n (pc := 18) (q := 0) d_Row_addAll_18 rfl rfl ?_
      refine j_lload_n (pc := 19) (q := 1) d_Row_addAll_19 rfl rfl ?_
      refine j_iconst (pc := 20) d_Row_addAll_20 k_i_4 ?_
      refine j_iload (pc := 21) (q := 3) d_Row_addAll_21 rfl ?_
      refine j_imul (pc := 23) d_Row_addAll_23 ?_
      refine j_lushr (pc := 24) d_Row_addAll_24 ?_
      refine j_l2i (pc := 25) d_Row_addAll_25 ?_
      refine j_bipush (pc := 26) d_Row_addAll_26 k_b_15 ?_
      refine j_iand (pc := 28) d_Row_addAll_28 ?_
      refine j_callV1 (pc := 29) d_Row_addAll_29 (C_Row_add n o h_o (((((a1.toUInt64 >>> ((4 * v4).toInt64.toUInt64 &&& Int64.toUInt64 63)).toInt64) : Int64).toInt32) &&& 15) M) cV_Row_25 cd_Row_add dn_Row_add rfl (by decide) (Nat.le_of_ble_eq_true rfl) (Nat.le_of_ble_eq_true rfl) nr_U h_o (by decide) rfl (fun r3 M4 => ?_)
      refine j_iinc (pc := 32) (q := 3) d_Row_addAll_32 rfl (congrArg (v4 + ·) k_i_1) (by decide) rfl ?_
      refine j_goto (pc := 35) (tgt := 12) d_Row_addAll_35 (by decide) ?_
      refine j_lv [1, 2, 3, 0] rfl ?_
      exact ih (v4 + 1) M4
set_option maxRecDepth 20000 in
set_option maxHeartbeats 4000000 in
theorem C_Row_addAll (n : Nat) (o : Nat) (h_o : SHx[o]? = some (3, [1, 0])) (p1 : Int64) (M : Mem) : Ct y_Row_addAll mt_Row_addAll wU [Value.ref o, Value.long p1] M (X_Row_addAll n o p1 M) := by
  refine ct_of (by decide +kernel) rfl (Nat.le_of_ble_eq_true rfl) ?_
  show J _ _ _ [(0, Value.ref o), (1, Value.long p1)] _ _ _
  unfold X_Row_addAll
  refine j_lload_n (pc := 0) (q := 1) d_Row_addAll_0 rfl rfl ?_
  refine j_bipush (pc := 1) d_Row_addAll_1 k_b_36 ?_
  refine j_lushr (pc := 3) d_Row_addAll_3 ?_
  refine j_l2i (pc := 4) d_Row_addAll_4 ?_
  refine j_callS1 (pc := 5) d_Row_addAll_5 (C_Integer_bitCount n ((((p1.toUInt64 >>> ((36 : Int32).toInt64.toUInt64 &&& Int64.toUInt64 63)).toInt64) : Int64).toInt32) M) cS_Row_9 cd_Integer_bitCount dn_Integer_bitCount rfl (by decide) (Nat.le_of_ble_eq_true rfl) (Nat.le_of_ble_eq_true rfl) nr_I (fun r1 M2 => ?_)
  refine j_istore_n (pc := 8) d_Row_addAll_8 rfl (by decide) rfl ?_
  refine j_iconst (pc := 9) d_Row_addAll_9 k_i_0 ?_
  refine j_istore (pc := 10) d_Row_addAll_10 (by decide) rfl ?_
  refine j_lv [2, 3, 1, 0] rfl ?_
  exact X_Row_addAll_L12_ok h_o  n 0 M2
-- Minds.knowers ([JI)I
def mt_Minds_knowers : Mt := ("ShakeHands$Minds", b_Minds_knowers, 4, some .int, 2, SHx)
theorem d_Minds_knowers_0 : decode b_Minds_knowers 0 = .ok (.iconst 0, 1) := by decide +kernel
theorem d_Minds_knowers_1 : decode b_Minds_knowers 1 = .ok (.istore_n 2, 1) := by decide +kernel
theorem d_Minds_knowers_2 : decode b_Minds_knowers 2 = .ok (.iconst 0, 1) := by decide +kernel
theorem d_Minds_knowers_3 : decode b_Minds_knowers 3 = .ok (.istore_n 3, 1) := by decide +kernel
theorem d_Minds_knowers_4 : decode b_Minds_knowers 4 = .ok (.iload_n 3, 1) := by decide +kernel
theorem d_Minds_knowers_5 : decode b_Minds_knowers 5 = .ok (.bipush 6, 2) := by decide +kernel
theorem d_Minds_knowers_7 : decode b_Minds_knowers 7 = .ok (.if_icmp .ge 25, 3) := by decide +kernel
theorem d_Minds_knowers_10 : decode b_Minds_knowers 10 = .ok (.iload_n 2, 1) := by decide +kernel
theorem d_Minds_knowers_11 : decode b_Minds_knowers 11 = .ok (.aload_n 0, 1) := by decide +kernel
theorem d_Minds_knowers_12 : decode b_Minds_knowers 12 = .ok (.iload_n 3, 1) := by decide +kernel
theorem d_Minds_knowers_13 : decode b_Minds_knowers 13 = .ok (.laload, 1) := by decide +kernel
theorem d_Minds_knowers_14 : decode b_Minds_knowers 14 = .ok (.bipush 36, 2) := by decide +kernel
theorem d_Minds_knowers_16 : decode b_Minds_knowers 16 = .ok (.iload_n 1, 1) := by decide +kernel
theorem d_Minds_knowers_17 : decode b_Minds_knowers 17 = .ok (.iadd, 1) := by decide +kernel
theorem d_Minds_knowers_18 : decode b_Minds_knowers 18 = .ok (.lushr, 1) := by decide +kernel
theorem d_Minds_knowers_19 : decode b_Minds_knowers 19 = .ok (.lconst 1, 1) := by decide +kernel
theorem d_Minds_knowers_20 : decode b_Minds_knowers 20 = .ok (.land, 1) := by decide +kernel
theorem d_Minds_knowers_21 : decode b_Minds_knowers 21 = .ok (.l2i, 1) := by decide +kernel
theorem d_Minds_knowers_22 : decode b_Minds_knowers 22 = .ok (.iload_n 3, 1) := by decide +kernel
theorem d_Minds_knowers_23 : decode b_Minds_knowers 23 = .ok (.ishl, 1) := by decide +kernel
theorem d_Minds_knowers_24 : decode b_Minds_knowers 24 = .ok (.ior, 1) := by decide +kernel
theorem d_Minds_knowers_25 : decode b_Minds_knowers 25 = .ok (.istore_n 2, 1) := by decide +kernel
theorem d_Minds_knowers_26 : decode b_Minds_knowers 26 = .ok (.iinc 3 1, 3) := by decide +kernel
theorem d_Minds_knowers_29 : decode b_Minds_knowers 29 = .ok (.goto (-25), 3) := by decide +kernel
theorem d_Minds_knowers_32 : decode b_Minds_knowers 32 = .ok (.iload_n 2, 1) := by decide +kernel
theorem d_Minds_knowers_33 : decode b_Minds_knowers 33 = .ok (.ireturn, 1) := by decide +kernel
def X_Minds_knowers_L4 (n : Nat) (rows : Nat) (a1 : Int32) (M : Mem) : Nat → Int32 → Int32 → Option (Int32 × Mem)
    | 0, _, _ => none
    | m + 1, v2, v3 => (if 6 ≤ v3 then
    some (v2, M)
    else
    gd v3 6 (
      nm (v2 ||| (((((((M.2 rows v3.toNatClampNeg).toUInt64 >>> ((36 + a1).toInt64.toUInt64 &&& Int64.toUInt64 63)).toInt64) &&& 1) : Int64).toInt32) <<< (v3 &&& 31))) fun x1 =>
      X_Minds_knowers_L4 n rows a1 M m x1 (v3 + 1)))
def X_Minds_knowers (n : Nat) (rows : Nat) (p1 : Int32) (M : Mem) : Option (Int32 × Mem) :=
  X_Minds_knowers_L4 n rows p1 M n 0 0
set_option maxRecDepth 20000 in
set_option maxHeartbeats 4000000 in
theorem X_Minds_knowers_L4_ok {n : Nat} {rows : Nat} {a1 : Int32} (h_rows : SHx[rows]? = some (103, [6])) {M : Mem} : ∀ (m : Nat) (v2 : Int32) (v3 : Int32), J (mt_Minds_knowers) wI 4 [(0, Value.ref rows), (1, Value.int a1), (2, Value.int v2), (3, Value.int v3)] [] M (X_Minds_knowers_L4 n rows a1 M m v2 v3) := by
  intro m
  induction m with
  | zero => intro _ _; exact j_none
  | succ m ih =>
    intro v2 v3
    show J _ _ _ _ _ _ ((if 6 ≤ v3 then
some (v2, M)
else
gd v3 6 (
nm (v2 ||| (((((((M.2 rows v3.toNatClampNeg).toUInt64 >>> ((36 + a1).toInt64.toUInt64 &&& Int64.toUInt64 63)).toInt64) &&& 1) : Int64).toInt32) <<< (v3 &&& 31))) fun x1 =>
X_Minds_knowers_L4 n rows a1 M m x1 (v3 + 1))))
    refine j_iload_n (pc := 4) (q := 3) d_Minds_knowers_4 rfl rfl ?_
    refine j_bipush (pc := 5) d_Minds_knowers_5 k_b_6 ?_
    refine j_icmp_ge (pc := 7) (tgt := 32) d_Minds_knowers_7 (by decide) (fun _ => ?_) (fun _ => ?_)
    · refine j_iload_n (pc := 32) (q := 2) d_Minds_knowers_32 rfl rfl ?_
      exact j_ireturn (pc := 33) d_Minds_knowers_33 rfl
    · refine j_iload_n (pc := 10) (q := 2) d_Minds_knowers_10 rfl rfl ?_
      refine j_aload_n (pc := 11) (q := 0) d_Minds_knowers_11 rfl rfl ?_
      refine j_iload_n (pc := 12) (q := 3) d_Minds_knowers_12 rfl rfl ?_
      refine j_lald (pc := 13) d_Minds_knowers_13 h_rows (fun _ => ?_)
      refine j_bipush (pc := 14) d_Minds_knowers_14 k_b_36 ?_
      refine j_iload_n (pc := 16) (q := 1) d_Minds_knowers_16 rfl rfl ?_
      refine j_iadd (pc := 17) d_Minds_knowers_17 ?_
      refine j_lushr (pc := 18) d_Minds_knowers_18 ?_
      refine j_lconst (pc := 19) d_Minds_knowers_19 k_l_1 ?_
      refine j_land (pc := 20) d_Minds_knowers_20 ?_
      refine j_l2i (pc := 21) d_Minds_knowers_21 ?_
      refine j_iload_n (pc := 22) (q := 3) d_Minds_knowers_22 rfl rfl ?_
      refine j_ishl (pc := 23) d_Minds_knowers_23 ?_
      refine j_ior (pc := 24) d_Minds_knowers_24 ?_
      refine j_nmi (fun x1 => ?_)
      refine j_istore_n (pc := 25) d_Minds_knowers_25 rfl (by decide) rfl ?_
      refine j_iinc (pc := 26) (q := 3) d_Minds_knowers_26 rfl (congrArg (v3 + ·) k_i_1) (by decide) rfl ?_
      refine j_goto (pc := 29) (tgt := 4) d_Minds_knowers_29 (by decide) ?_
      refine j_lv [2, 3, 1, 0] rfl ?_
      exact ih x1 (v3 + 1)
set_option maxRecDepth 20000 in
set_option maxHeartbeats 4000000 in
theorem C_Minds_knowers (n : Nat) (rows : Nat) (h_rows : SHx[rows]? = some (103, [6])) (p1 : Int32) (M : Mem) : Ct y_Minds_knowers mt_Minds_knowers wI [Value.ref rows, Value.int p1] M (X_Minds_knowers n rows p1 M) := by
  refine ct_of (by decide +kernel) rfl (Nat.le_of_ble_eq_true rfl) ?_
  show J _ _ _ [(0, Value.ref rows), (1, Value.int p1)] _ _ _
  unfold X_Minds_knowers
  refine j_iconst (pc := 0) d_Minds_knowers_0 k_i_0 ?_
  refine j_istore_n (pc := 1) d_Minds_knowers_1 rfl (by decide) rfl ?_
  refine j_iconst (pc := 2) d_Minds_knowers_2 k_i_0 ?_
  refine j_istore_n (pc := 3) d_Minds_knowers_3 rfl (by decide) rfl ?_
  refine j_lv [2, 3, 1, 0] rfl ?_
  exact X_Minds_knowers_L4_ok h_rows  n 0 0
-- Minds.known ([J)I
def mt_Minds_known : Mt := ("ShakeHands$Minds", b_Minds_known, 4, some .int, 2, SHx)
theorem d_Minds_known_0 : decode b_Minds_known 0 = .ok (.lconst 0, 1) := by decide +kernel
theorem d_Minds_known_1 : decode b_Minds_known 1 = .ok (.lstore_n 1, 1) := by decide +kernel
theorem d_Minds_known_2 : decode b_Minds_known 2 = .ok (.iconst 0, 1) := by decide +kernel
theorem d_Minds_known_3 : decode b_Minds_known 3 = .ok (.istore_n 3, 1) := by decide +kernel
theorem d_Minds_known_4 : decode b_Minds_known 4 = .ok (.iload_n 3, 1) := by decide +kernel
theorem d_Minds_known_5 : decode b_Minds_known 5 = .ok (.bipush 6, 2) := by decide +kernel
theorem d_Minds_known_7 : decode b_Minds_known 7 = .ok (.if_icmp .ge 15, 3) := by decide +kernel
theorem d_Minds_known_10 : decode b_Minds_known 10 = .ok (.lload_n 1, 1) := by decide +kernel
theorem d_Minds_known_11 : decode b_Minds_known 11 = .ok (.aload_n 0, 1) := by decide +kernel
theorem d_Minds_known_12 : decode b_Minds_known 12 = .ok (.iload_n 3, 1) := by decide +kernel
theorem d_Minds_known_13 : decode b_Minds_known 13 = .ok (.laload, 1) := by decide +kernel
theorem d_Minds_known_14 : decode b_Minds_known 14 = .ok (.lor, 1) := by decide +kernel
theorem d_Minds_known_15 : decode b_Minds_known 15 = .ok (.lstore_n 1, 1) := by decide +kernel
theorem d_Minds_known_16 : decode b_Minds_known 16 = .ok (.iinc 3 1, 3) := by decide +kernel
theorem d_Minds_known_19 : decode b_Minds_known 19 = .ok (.goto (-15), 3) := by decide +kernel
theorem d_Minds_known_22 : decode b_Minds_known 22 = .ok (.lload_n 1, 1) := by decide +kernel
theorem d_Minds_known_23 : decode b_Minds_known 23 = .ok (.bipush 36, 2) := by decide +kernel
theorem d_Minds_known_25 : decode b_Minds_known 25 = .ok (.lushr, 1) := by decide +kernel
theorem d_Minds_known_26 : decode b_Minds_known 26 = .ok (.l2i, 1) := by decide +kernel
theorem d_Minds_known_27 : decode b_Minds_known 27 = .ok (.ireturn, 1) := by decide +kernel
def X_Minds_known_L4 (n : Nat) (rows : Nat) (M : Mem) : Nat → Int64 → Int32 → Option (Int32 × Mem)
    | 0, _, _ => none
    | m + 1, v1, v3 => (if 6 ≤ v3 then
    some (((((v1.toUInt64 >>> ((36 : Int32).toInt64.toUInt64 &&& Int64.toUInt64 63)).toInt64) : Int64).toInt32), M)
    else
    gd v3 6 (
      nm (v1 ||| (M.2 rows v3.toNatClampNeg)) fun x1 =>
      X_Minds_known_L4 n rows M m x1 (v3 + 1)))
def X_Minds_known (n : Nat) (rows : Nat) (M : Mem) : Option (Int32 × Mem) :=
  X_Minds_known_L4 n rows M n 0 0
set_option maxRecDepth 20000 in
set_option maxHeartbeats 4000000 in
theorem X_Minds_known_L4_ok {n : Nat} {rows : Nat} (h_rows : SHx[rows]? = some (103, [6])) {M : Mem} : ∀ (m : Nat) (v1 : Int64) (v3 : Int32), J (mt_Minds_known) wI 4 [(0, Value.ref rows), (1, Value.long v1), (3, Value.int v3)] [] M (X_Minds_known_L4 n rows M m v1 v3) := by
  intro m
  induction m with
  | zero => intro _ _; exact j_none
  | succ m ih =>
    intro v1 v3
    show J _ _ _ _ _ _ ((if 6 ≤ v3 then
some (((((v1.toUInt64 >>> ((36 : Int32).toInt64.toUInt64 &&& Int64.toUInt64 63)).toInt64) : Int64).toInt32), M)
else
gd v3 6 (
nm (v1 ||| (M.2 rows v3.toNatClampNeg)) fun x1 =>
X_Minds_known_L4 n rows M m x1 (v3 + 1))))
    refine j_iload_n (pc := 4) (q := 2) d_Minds_known_4 rfl rfl ?_
    refine j_bipush (pc := 5) d_Minds_known_5 k_b_6 ?_
    refine j_icmp_ge (pc := 7) (tgt := 22) d_Minds_known_7 (by decide) (fun _ => ?_) (fun _ => ?_)
    · refine j_lload_n (pc := 22) (q := 1) d_Minds_known_22 rfl rfl ?_
      refine j_bipush (pc := 23) d_Minds_known_23 k_b_36 ?_
      refine j_lushr (pc := 25) d_Minds_known_25 ?_
      refine j_l2i (pc := 26) d_Minds_known_26 ?_
      exact j_ireturn (pc := 27) d_Minds_known_27 rfl
    · refine j_lload_n (pc := 10) (q := 1) d_Minds_known_10 rfl rfl ?_
      refine j_aload_n (pc := 11) (q := 0) d_Minds_known_11 rfl rfl ?_
      refine j_iload_n (pc := 12) (q := 2) d_Minds_known_12 rfl rfl ?_
      refine j_lald (pc := 13) d_Minds_known_13 h_rows (fun _ => ?_)
      refine j_lor (pc := 14) d_Minds_known_14 ?_
      refine j_nml (fun x1 => ?_)
      refine j_lstore_n (pc := 15) d_Minds_known_15 rfl (by decide) rfl ?_
      refine j_iinc (pc := 16) (q := 2) d_Minds_known_16 rfl (congrArg (v3 + ·) k_i_1) (by decide) rfl ?_
      refine j_goto (pc := 19) (tgt := 4) d_Minds_known_19 (by decide) ?_
      refine j_lv [2, 1, 0] rfl ?_
      exact ih x1 (v3 + 1)
set_option maxRecDepth 20000 in
set_option maxHeartbeats 4000000 in
theorem C_Minds_known (n : Nat) (rows : Nat) (h_rows : SHx[rows]? = some (103, [6]))  (M : Mem) : Ct y_Minds_known mt_Minds_known wI [Value.ref rows] M (X_Minds_known n rows M) := by
  refine ct_of (by decide +kernel) rfl (Nat.le_of_ble_eq_true rfl) ?_
  show J _ _ _ [(0, Value.ref rows)] _ _ _
  unfold X_Minds_known
  refine j_lconst (pc := 0) d_Minds_known_0 k_l_0 ?_
  refine j_lstore_n (pc := 1) d_Minds_known_1 rfl (by decide) rfl ?_
  refine j_iconst (pc := 2) d_Minds_known_2 k_i_0 ?_
  refine j_istore_n (pc := 3) d_Minds_known_3 rfl (by decide) rfl ?_
  refine j_lv [2, 1, 0] rfl ?_
  exact X_Minds_known_L4_ok h_rows  n 0 0
-- Minds.copy (LShakeHands$Minds;)V
def mt_Minds_copy : Mt := ("ShakeHands$Minds", b_Minds_copy, 2, none, 2, SHx)
theorem d_Minds_copy_0 : decode b_Minds_copy 0 = .ok (.aload_n 1, 1) := by decide +kernel
theorem d_Minds_copy_1 : decode b_Minds_copy 1 = .ok (.getfield 9, 3) := by decide +kernel
theorem d_Minds_copy_4 : decode b_Minds_copy 4 = .ok (.iconst 0, 1) := by decide +kernel
theorem d_Minds_copy_5 : decode b_Minds_copy 5 = .ok (.aload_n 0, 1) := by decide +kernel
theorem d_Minds_copy_6 : decode b_Minds_copy 6 = .ok (.getfield 9, 3) := by decide +kernel
theorem d_Minds_copy_9 : decode b_Minds_copy 9 = .ok (.iconst 0, 1) := by decide +kernel
theorem d_Minds_copy_10 : decode b_Minds_copy 10 = .ok (.bipush 6, 2) := by decide +kernel
theorem d_Minds_copy_12 : decode b_Minds_copy 12 = .ok (.invokestatic 19, 3) := by decide +kernel
theorem d_Minds_copy_15 : decode b_Minds_copy 15 = .ok (.aload_n 0, 1) := by decide +kernel
theorem d_Minds_copy_16 : decode b_Minds_copy 16 = .ok (.aload_n 1, 1) := by decide +kernel
theorem d_Minds_copy_17 : decode b_Minds_copy 17 = .ok (.getfield 25, 3) := by decide +kernel
theorem d_Minds_copy_20 : decode b_Minds_copy 20 = .ok (.putfield 25, 3) := by decide +kernel
theorem d_Minds_copy_23 : decode b_Minds_copy 23 = .ok (.aload_n 0, 1) := by decide +kernel
theorem d_Minds_copy_24 : decode b_Minds_copy 24 = .ok (.aload_n 1, 1) := by decide +kernel
theorem d_Minds_copy_25 : decode b_Minds_copy 25 = .ok (.getfield 29, 3) := by decide +kernel
theorem d_Minds_copy_28 : decode b_Minds_copy 28 = .ok (.putfield 29, 3) := by decide +kernel
theorem d_Minds_copy_31 : decode b_Minds_copy 31 = .ok (.aload_n 1, 1) := by decide +kernel
theorem d_Minds_copy_32 : decode b_Minds_copy 32 = .ok (.getfield 15, 3) := by decide +kernel
theorem d_Minds_copy_35 : decode b_Minds_copy 35 = .ok (.iconst 0, 1) := by decide +kernel
theorem d_Minds_copy_36 : decode b_Minds_copy 36 = .ok (.aload_n 0, 1) := by decide +kernel
theorem d_Minds_copy_37 : decode b_Minds_copy 37 = .ok (.getfield 15, 3) := by decide +kernel
theorem d_Minds_copy_40 : decode b_Minds_copy 40 = .ok (.iconst 0, 1) := by decide +kernel
theorem d_Minds_copy_41 : decode b_Minds_copy 41 = .ok (.bipush 6, 2) := by decide +kernel
theorem d_Minds_copy_43 : decode b_Minds_copy 43 = .ok (.invokestatic 19, 3) := by decide +kernel
theorem d_Minds_copy_46 : decode b_Minds_copy 46 = .ok (.return_, 1) := by decide +kernel
def X_Minds_copy (n : Nat) (o : Nat) (q : Nat) (M : Mem) : Option (Unit × Mem) :=
  gc (0 : Int32) (0 : Int32) (6 : Int32) 6 6 (
    nm (cpL M (q + 1) ((0 : Int32).toNatClampNeg) (o + 1) ((0 : Int32).toNatClampNeg) ((6 : Int32).toNatClampNeg)) fun N1 =>
    nm (si N1 o 1 (N1.1 q 1)) fun N2 =>
    nm (si N2 o 2 (N2.1 q 2)) fun N3 =>
    gc (0 : Int32) (0 : Int32) (6 : Int32) 6 6 (
      some ((), cpI N3 (q + 2) ((0 : Int32).toNatClampNeg) (o + 2) ((0 : Int32).toNatClampNeg) ((6 : Int32).toNatClampNeg))))
set_option maxRecDepth 20000 in
set_option maxHeartbeats 4000000 in
theorem C_Minds_copy (n : Nat) (o : Nat) (q : Nat) (h_o : SHx[o]? = some (2, [o + 1 + 2, 0, 0, o + 2 + 2])) (h_o1 : SHx[o + 1]? = some (103, [6])) (h_o2 : SHx[o + 2]? = some (100, [6])) (h_q : SHx[q]? = some (2, [q + 1 + 2, 0, 0, q + 2 + 2])) (h_q1 : SHx[q + 1]? = some (103, [6])) (h_q2 : SHx[q + 2]? = some (100, [6]))  (M : Mem) : Ct y_Minds_copy mt_Minds_copy wU [Value.ref o, Value.ref q] M (X_Minds_copy n o q M) := by
  refine ct_of (by decide +kernel) rfl (Nat.le_of_ble_eq_true rfl) ?_
  show J _ _ _ [(0, Value.ref o), (1, Value.ref q)] _ _ _
  unfold X_Minds_copy
  refine j_aload_n (pc := 0) (q := 1) d_Minds_copy_0 rfl rfl ?_
  refine j_getA (pc := 1) d_Minds_copy_1 fl_Minds_9 h_q (by decide) rfl ?_
  refine j_iconst (pc := 4) d_Minds_copy_4 k_i_0 ?_
  refine j_aload_n (pc := 5) (q := 0) d_Minds_copy_5 rfl rfl ?_
  refine j_getA (pc := 6) d_Minds_copy_6 fl_Minds_9 h_o (by decide) rfl ?_
  refine j_iconst (pc := 9) d_Minds_copy_9 k_i_0 ?_
  refine j_bipush (pc := 10) d_Minds_copy_10 k_b_6 ?_
  refine j_copyL (pc := 12) d_Minds_copy_12 cw_Minds_19 cw_nat cw_st h_q1 h_o1 (by decide) (Nat.le_of_ble_eq_true rfl) ?_
  refine j_aload_n (pc := 15) (q := 0) d_Minds_copy_15 rfl rfl ?_
  refine j_aload_n (pc := 16) (q := 1) d_Minds_copy_16 rfl rfl ?_
  refine j_nmM (fun N1 => ?_)
  refine j_getI (pc := 17) d_Minds_copy_17 fl_Minds_25 h_q (by decide) rfl ?_
  refine j_putI (pc := 20) d_Minds_copy_20 fl_Minds_25 rfl h_o (by decide) rfl ?_
  refine j_aload_n (pc := 23) (q := 0) d_Minds_copy_23 rfl rfl ?_
  refine j_aload_n (pc := 24) (q := 1) d_Minds_copy_24 rfl rfl ?_
  refine j_nmM (fun N2 => ?_)
  refine j_getI (pc := 25) d_Minds_copy_25 fl_Minds_29 h_q (by decide) rfl ?_
  refine j_putI (pc := 28) d_Minds_copy_28 fl_Minds_29 rfl h_o (by decide) rfl ?_
  refine j_aload_n (pc := 31) (q := 1) d_Minds_copy_31 rfl rfl ?_
  refine j_getA (pc := 32) d_Minds_copy_32 fl_Minds_15 h_q (by decide) rfl ?_
  refine j_iconst (pc := 35) d_Minds_copy_35 k_i_0 ?_
  refine j_aload_n (pc := 36) (q := 0) d_Minds_copy_36 rfl rfl ?_
  refine j_getA (pc := 37) d_Minds_copy_37 fl_Minds_15 h_o (by decide) rfl ?_
  refine j_iconst (pc := 40) d_Minds_copy_40 k_i_0 ?_
  refine j_bipush (pc := 41) d_Minds_copy_41 k_b_6 ?_
  refine j_nmM (fun N3 => ?_)
  refine j_copyI (pc := 43) d_Minds_copy_43 cw_Minds_19 cw_nat cw_st h_q2 h_o2 (by decide) (Nat.le_of_ble_eq_true rfl) ?_
  exact j_return (pc := 46) d_Minds_copy_46 rfl
-- Sheet.renew (II)V
def mt_Sheet_renew : Mt := ("ShakeHands$Sheet", b_Sheet_renew, 4, none, 2, SHx)
theorem d_Sheet_renew_0 : decode b_Sheet_renew 0 = .ok (.aload_n 0, 1) := by decide +kernel
theorem d_Sheet_renew_1 : decode b_Sheet_renew 1 = .ok (.iconst 1, 1) := by decide +kernel
theorem d_Sheet_renew_2 : decode b_Sheet_renew 2 = .ok (.putfield 13, 3) := by decide +kernel
theorem d_Sheet_renew_5 : decode b_Sheet_renew 5 = .ok (.aload_n 0, 1) := by decide +kernel
theorem d_Sheet_renew_6 : decode b_Sheet_renew 6 = .ok (.iload_n 1, 1) := by decide +kernel
theorem d_Sheet_renew_7 : decode b_Sheet_renew 7 = .ok (.putfield 17, 3) := by decide +kernel
theorem d_Sheet_renew_10 : decode b_Sheet_renew 10 = .ok (.aload_n 0, 1) := by decide +kernel
theorem d_Sheet_renew_11 : decode b_Sheet_renew 11 = .ok (.iload_n 2, 1) := by decide +kernel
theorem d_Sheet_renew_12 : decode b_Sheet_renew 12 = .ok (.putfield 21, 3) := by decide +kernel
theorem d_Sheet_renew_15 : decode b_Sheet_renew 15 = .ok (.iconst 0, 1) := by decide +kernel
theorem d_Sheet_renew_16 : decode b_Sheet_renew 16 = .ok (.istore_n 3, 1) := by decide +kernel
theorem d_Sheet_renew_17 : decode b_Sheet_renew 17 = .ok (.iload_n 3, 1) := by decide +kernel
theorem d_Sheet_renew_18 : decode b_Sheet_renew 18 = .ok (.bipush 40, 2) := by decide +kernel
theorem d_Sheet_renew_20 : decode b_Sheet_renew 20 = .ok (.if_icmp .ge 16, 3) := by decide +kernel
theorem d_Sheet_renew_23 : decode b_Sheet_renew 23 = .ok (.aload_n 0, 1) := by decide +kernel
theorem d_Sheet_renew_24 : decode b_Sheet_renew 24 = .ok (.getfield 9, 3) := by decide +kernel
theorem d_Sheet_renew_27 : decode b_Sheet_renew 27 = .ok (.iload_n 3, 1) := by decide +kernel
theorem d_Sheet_renew_28 : decode b_Sheet_renew 28 = .ok (.iconst 0, 1) := by decide +kernel
theorem d_Sheet_renew_29 : decode b_Sheet_renew 29 = .ok (.iastore, 1) := by decide +kernel
theorem d_Sheet_renew_30 : decode b_Sheet_renew 30 = .ok (.iinc 3 1, 3) := by decide +kernel
theorem d_Sheet_renew_33 : decode b_Sheet_renew 33 = .ok (.goto (-16), 3) := by decide +kernel
theorem d_Sheet_renew_36 : decode b_Sheet_renew 36 = .ok (.return_, 1) := by decide +kernel
def X_Sheet_renew_L17 (n : Nat) (o : Nat) : Nat → Int32 → Mem → Option (Unit × Mem)
    | 0, _, _ => none
    | m + 1, v3, M => (if 40 ≤ v3 then
    some ((), M)
    else
    gd v3 40 (
      X_Sheet_renew_L17 n o m (v3 + 1) (si M (o + 1) (v3.toNatClampNeg) 0)))
def X_Sheet_renew (n : Nat) (o : Nat) (p1 : Int32) (p2 : Int32) (M : Mem) : Option (Unit × Mem) :=
  X_Sheet_renew_L17 n o n 0 (si (si (si M o 0 1) o 2 p1) o 1 p2)
set_option maxRecDepth 20000 in
set_option maxHeartbeats 4000000 in
theorem X_Sheet_renew_L17_ok {n : Nat} {o : Nat} (h_o : SHx[o]? = some (5, [0, 0, 0, o + 1 + 2])) (h_o1 : SHx[o + 1]? = some (100, [40])) : ∀ (m : Nat) (v3 : Int32) (M : Mem), J (mt_Sheet_renew) wU 17 [(0, Value.ref o), (3, Value.int v3)] [] M (X_Sheet_renew_L17 n o m v3 M) := by
  intro m
  induction m with
  | zero => intro _ _; exact j_none
  | succ m ih =>
    intro v3 M
    show J _ _ _ _ _ _ ((if 40 ≤ v3 then
some ((), M)
else
gd v3 40 (
X_Sheet_renew_L17 n o m (v3 + 1) (si M (o + 1) (v3.toNatClampNeg) 0))))
    refine j_iload_n (pc := 17) (q := 1) d_Sheet_renew_17 rfl rfl ?_
    refine j_bipush (pc := 18) d_Sheet_renew_18 k_b_40 ?_
    refine j_icmp_ge (pc := 20) (tgt := 36) d_Sheet_renew_20 (by decide) (fun _ => ?_) (fun _ => ?_)
    · exact j_return (pc := 36) d_Sheet_renew_36 rfl
    · refine j_aload_n (pc := 23) (q := 0) d_Sheet_renew_23 rfl rfl ?_
      refine j_getA (pc := 24) d_Sheet_renew_24 fl_Sheet_9 h_o (by decide) rfl ?_
      refine j_iload_n (pc := 27) (q := 1) d_Sheet_renew_27 rfl rfl ?_
      refine j_iconst (pc := 28) d_Sheet_renew_28 k_i_0 ?_
      refine j_iast (pc := 29) d_Sheet_renew_29 h_o1 (fun _ => ?_)
      refine j_iinc (pc := 30) (q := 1) d_Sheet_renew_30 rfl (congrArg (v3 + ·) k_i_1) (by decide) rfl ?_
      refine j_goto (pc := 33) (tgt := 17) d_Sheet_renew_33 (by decide) ?_
      refine j_lv [1, 0] rfl ?_
      exact ih (v3 + 1) (si M (o + 1) (v3.toNatClampNeg) 0)
set_option maxRecDepth 20000 in
set_option maxHeartbeats 4000000 in
theorem C_Sheet_renew (n : Nat) (o : Nat) (h_o : SHx[o]? = some (5, [0, 0, 0, o + 1 + 2])) (h_o1 : SHx[o + 1]? = some (100, [40])) (p1 : Int32) (p2 : Int32) (M : Mem) : Ct y_Sheet_renew mt_Sheet_renew wU [Value.ref o, Value.int p1, Value.int p2] M (X_Sheet_renew n o p1 p2 M) := by
  refine ct_of (by decide +kernel) rfl (Nat.le_of_ble_eq_true rfl) ?_
  show J _ _ _ [(0, Value.ref o), (1, Value.int p1), (2, Value.int p2)] _ _ _
  unfold X_Sheet_renew
  refine j_aload_n (pc := 0) (q := 0) d_Sheet_renew_0 rfl rfl ?_
  refine j_iconst (pc := 1) d_Sheet_renew_1 k_i_1 ?_
  refine j_putZ (pc := 2) d_Sheet_renew_2 fl_Sheet_13 rfl rfl h_o (by decide) rfl ?_
  refine j_aload_n (pc := 5) (q := 0) d_Sheet_renew_5 rfl rfl ?_
  refine j_iload_n (pc := 6) (q := 1) d_Sheet_renew_6 rfl rfl ?_
  refine j_putI (pc := 7) d_Sheet_renew_7 fl_Sheet_17 rfl h_o (by decide) rfl ?_
  refine j_aload_n (pc := 10) (q := 0) d_Sheet_renew_10 rfl rfl ?_
  refine j_iload_n (pc := 11) (q := 2) d_Sheet_renew_11 rfl rfl ?_
  refine j_putI (pc := 12) d_Sheet_renew_12 fl_Sheet_21 rfl h_o (by decide) rfl ?_
  refine j_iconst (pc := 15) d_Sheet_renew_15 k_i_0 ?_
  refine j_istore_n (pc := 16) d_Sheet_renew_16 rfl (by decide) rfl ?_
  refine j_lv [1, 0] rfl ?_
  exact X_Sheet_renew_L17_ok h_o h_o1  n 0 (si (si (si M o 0 1) o 2 p1) o 1 p2)
-- Sheet.faultAt (I)I
def mt_Sheet_faultAt : Mt := ("ShakeHands$Sheet", b_Sheet_faultAt, 2, some .int, 2, SHx)
theorem d_Sheet_faultAt_0 : decode b_Sheet_faultAt 0 = .ok (.aload_n 0, 1) := by decide +kernel
theorem d_Sheet_faultAt_1 : decode b_Sheet_faultAt 1 = .ok (.getfield 13, 3) := by decide +kernel
theorem d_Sheet_faultAt_4 : decode b_Sheet_faultAt 4 = .ok (.ifCond .ne 5, 3) := by decide +kernel
theorem d_Sheet_faultAt_7 : decode b_Sheet_faultAt 7 = .ok (.iconst 1, 1) := by decide +kernel
theorem d_Sheet_faultAt_8 : decode b_Sheet_faultAt 8 = .ok (.ireturn, 1) := by decide +kernel
theorem d_Sheet_faultAt_9 : decode b_Sheet_faultAt 9 = .ok (.iload_n 1, 1) := by decide +kernel
theorem d_Sheet_faultAt_10 : decode b_Sheet_faultAt 10 = .ok (.ifCond .lt 11, 3) := by decide +kernel
theorem d_Sheet_faultAt_13 : decode b_Sheet_faultAt 13 = .ok (.iload_n 1, 1) := by decide +kernel
theorem d_Sheet_faultAt_14 : decode b_Sheet_faultAt 14 = .ok (.aload_n 0, 1) := by decide +kernel
theorem d_Sheet_faultAt_15 : decode b_Sheet_faultAt 15 = .ok (.getfield 21, 3) := by decide +kernel
theorem d_Sheet_faultAt_18 : decode b_Sheet_faultAt 18 = .ok (.if_icmp .lt 7, 3) := by decide +kernel
theorem d_Sheet_faultAt_21 : decode b_Sheet_faultAt 21 = .ok (.iconst 2, 1) := by decide +kernel
theorem d_Sheet_faultAt_22 : decode b_Sheet_faultAt 22 = .ok (.goto 4, 3) := by decide +kernel
theorem d_Sheet_faultAt_25 : decode b_Sheet_faultAt 25 = .ok (.iconst 0, 1) := by decide +kernel
theorem d_Sheet_faultAt_26 : decode b_Sheet_faultAt 26 = .ok (.ireturn, 1) := by decide +kernel
def X_Sheet_faultAt (n : Nat) (o : Nat) (p1 : Int32) (M : Mem) : Option (Int32 × Mem) :=
  (if (M.1 o 0) = 0 then
    some (1, M)
    else
    (if p1 < 0 then
      some (2, M)
      else
      (if p1 < (M.1 o 1) then
        some (0, M)
        else
        some (2, M))))
set_option maxRecDepth 20000 in
set_option maxHeartbeats 4000000 in
theorem C_Sheet_faultAt (n : Nat) (o : Nat) (h_o : SHx[o]? = some (5, [0, 0, 0, o + 1 + 2])) (h_o1 : SHx[o + 1]? = some (100, [40])) (p1 : Int32) (M : Mem) : Ct y_Sheet_faultAt mt_Sheet_faultAt wI [Value.ref o, Value.int p1] M (X_Sheet_faultAt n o p1 M) := by
  refine ct_of (by decide +kernel) rfl (Nat.le_of_ble_eq_true rfl) ?_
  show J _ _ _ [(0, Value.ref o), (1, Value.int p1)] _ _ _
  unfold X_Sheet_faultAt
  refine j_aload_n (pc := 0) (q := 0) d_Sheet_faultAt_0 rfl rfl ?_
  refine j_getI (pc := 1) d_Sheet_faultAt_1 fl_Sheet_13 h_o (by decide) rfl ?_
  refine j_if_ne (pc := 4) (tgt := 9) d_Sheet_faultAt_4 (by decide) (fun _ => ?_) (fun _ => ?_)
  · refine j_iload_n (pc := 9) (q := 1) d_Sheet_faultAt_9 rfl rfl ?_
    refine j_if_lt (pc := 10) (tgt := 21) d_Sheet_faultAt_10 (by decide) (fun _ => ?_) (fun _ => ?_)
    · refine j_iconst (pc := 21) d_Sheet_faultAt_21 k_i_2 ?_
      refine j_goto (pc := 22) (tgt := 26) d_Sheet_faultAt_22 (by decide) ?_
      exact j_ireturn (pc := 26) d_Sheet_faultAt_26 rfl
    · refine j_iload_n (pc := 13) (q := 1) d_Sheet_faultAt_13 rfl rfl ?_
      refine j_aload_n (pc := 14) (q := 0) d_Sheet_faultAt_14 rfl rfl ?_
      refine j_getI (pc := 15) d_Sheet_faultAt_15 fl_Sheet_21 h_o (by decide) rfl ?_
      refine j_icmp_lt (pc := 18) (tgt := 25) d_Sheet_faultAt_18 (by decide) (fun _ => ?_) (fun _ => ?_)
      · refine j_iconst (pc := 25) d_Sheet_faultAt_25 k_i_0 ?_
        exact j_ireturn (pc := 26) d_Sheet_faultAt_26 rfl
      · refine j_iconst (pc := 21) d_Sheet_faultAt_21 k_i_2 ?_
        refine j_goto (pc := 22) (tgt := 26) d_Sheet_faultAt_22 (by decide) ?_
        exact j_ireturn (pc := 26) d_Sheet_faultAt_26 rfl
  · refine j_iconst (pc := 7) d_Sheet_faultAt_7 k_i_1 ?_
    exact j_ireturn (pc := 8) d_Sheet_faultAt_8 rfl
-- Sheet.put (II)V
def mt_Sheet_put : Mt := ("ShakeHands$Sheet", b_Sheet_put, 3, none, 3, SHx)
theorem d_Sheet_put_0 : decode b_Sheet_put 0 = .ok (.aload_n 0, 1) := by decide +kernel
theorem d_Sheet_put_1 : decode b_Sheet_put 1 = .ok (.iload_n 1, 1) := by decide +kernel
theorem d_Sheet_put_2 : decode b_Sheet_put 2 = .ok (.invokevirtual 24, 3) := by decide +kernel
theorem d_Sheet_put_5 : decode b_Sheet_put 5 = .ok (.ifCond .ne 35, 3) := by decide +kernel
theorem d_Sheet_put_8 : decode b_Sheet_put 8 = .ok (.aload_n 0, 1) := by decide +kernel
theorem d_Sheet_put_9 : decode b_Sheet_put 9 = .ok (.getfield 9, 3) := by decide +kernel
theorem d_Sheet_put_12 : decode b_Sheet_put 12 = .ok (.iload_n 1, 1) := by decide +kernel
theorem d_Sheet_put_13 : decode b_Sheet_put 13 = .ok (.aload_n 0, 1) := by decide +kernel
theorem d_Sheet_put_14 : decode b_Sheet_put 14 = .ok (.getfield 17, 3) := by decide +kernel
theorem d_Sheet_put_17 : decode b_Sheet_put 17 = .ok (.ifCond .ne 8, 3) := by decide +kernel
theorem d_Sheet_put_20 : decode b_Sheet_put 20 = .ok (.iload_n 2, 1) := by decide +kernel
theorem d_Sheet_put_21 : decode b_Sheet_put 21 = .ok (.i2b, 1) := by decide +kernel
theorem d_Sheet_put_22 : decode b_Sheet_put 22 = .ok (.goto 17, 3) := by decide +kernel
theorem d_Sheet_put_25 : decode b_Sheet_put 25 = .ok (.aload_n 0, 1) := by decide +kernel
theorem d_Sheet_put_26 : decode b_Sheet_put 26 = .ok (.getfield 17, 3) := by decide +kernel
theorem d_Sheet_put_29 : decode b_Sheet_put 29 = .ok (.iconst 1, 1) := by decide +kernel
theorem d_Sheet_put_30 : decode b_Sheet_put 30 = .ok (.if_icmp .ne 8, 3) := by decide +kernel
theorem d_Sheet_put_33 : decode b_Sheet_put 33 = .ok (.iload_n 2, 1) := by decide +kernel
theorem d_Sheet_put_34 : decode b_Sheet_put 34 = .ok (.i2s, 1) := by decide +kernel
theorem d_Sheet_put_35 : decode b_Sheet_put 35 = .ok (.goto 4, 3) := by decide +kernel
theorem d_Sheet_put_38 : decode b_Sheet_put 38 = .ok (.iload_n 2, 1) := by decide +kernel
theorem d_Sheet_put_39 : decode b_Sheet_put 39 = .ok (.iastore, 1) := by decide +kernel
theorem d_Sheet_put_40 : decode b_Sheet_put 40 = .ok (.return_, 1) := by decide +kernel
def X_Sheet_put (n : Nat) (o : Nat) (p1 : Int32) (p2 : Int32) (M : Mem) : Option (Unit × Mem) :=
  bd (X_Sheet_faultAt n o p1 M) fun r1 M2 =>
  (if r1 = 0 then
    nm (fun (u3 : Int32) => gd p1 40 (
        some ((), si M2 (o + 1) (p1.toNatClampNeg) u3))) fun k39 =>
    (if (M2.1 o 2) = 0 then
      k39 (p2.toInt8.toInt32)
      else
      (if (M2.1 o 2) = 1 then
        k39 (p2.toInt16.toInt32)
        else
        k39 p2))
    else
    some ((), M2))
set_option maxRecDepth 20000 in
set_option maxHeartbeats 4000000 in
theorem C_Sheet_put (n : Nat) (o : Nat) (h_o : SHx[o]? = some (5, [0, 0, 0, o + 1 + 2])) (h_o1 : SHx[o + 1]? = some (100, [40])) (p1 : Int32) (p2 : Int32) (M : Mem) : Ct y_Sheet_put mt_Sheet_put wU [Value.ref o, Value.int p1, Value.int p2] M (X_Sheet_put n o p1 p2 M) := by
  refine ct_of (by decide +kernel) rfl (Nat.le_of_ble_eq_true rfl) ?_
  show J _ _ _ [(0, Value.ref o), (1, Value.int p1), (2, Value.int p2)] _ _ _
  unfold X_Sheet_put
  refine j_aload_n (pc := 0) (q := 0) d_Sheet_put_0 rfl rfl ?_
  refine j_iload_n (pc := 1) (q := 1) d_Sheet_put_1 rfl rfl ?_
  refine j_callV1 (pc := 2) d_Sheet_put_2 (C_Sheet_faultAt n o h_o h_o1 p1 M) cV_Sheet_24 cd_Sheet_faultAt dn_Sheet_faultAt rfl (by decide) (Nat.le_of_ble_eq_true rfl) (Nat.le_of_ble_eq_true rfl) nr_I h_o (by decide) rfl (fun r1 M2 => ?_)
  refine j_if_ne (pc := 5) (tgt := 40) d_Sheet_put_5 (by decide) (fun _ => ?_) (fun _ => ?_)
  · exact j_return (pc := 40) d_Sheet_put_40 rfl
  · refine j_aload_n (pc := 8) (q := 0) d_Sheet_put_8 rfl rfl ?_
    refine j_getA (pc := 9) d_Sheet_put_9 fl_Sheet_9 h_o (by decide) rfl ?_
    refine j_iload_n (pc := 12) (q := 1) d_Sheet_put_12 rfl rfl ?_
    refine j_aload_n (pc := 13) (q := 0) d_Sheet_put_13 rfl rfl ?_
    refine j_getI (pc := 14) d_Sheet_put_14 fl_Sheet_17 h_o (by decide) rfl ?_
    refine j_nmk (fun k => ∀ (u3 : Int32), J (mt_Sheet_put) wU 39 [] [Value.int u3, Value.int p1, Value.ref (o + 1)] M2 (k u3)) (fun u3 => ?_) (fun k39 hk39 => ?_)
    · refine j_iast (pc := 39) d_Sheet_put_39 h_o1 (fun _ => ?_)
      exact j_return (pc := 40) d_Sheet_put_40 rfl
    · refine j_if_ne (pc := 17) (tgt := 25) d_Sheet_put_17 (by decide) (fun _ => ?_) (fun _ => ?_)
      · refine j_aload_n (pc := 25) (q := 0) d_Sheet_put_25 rfl rfl ?_
        refine j_getI (pc := 26) d_Sheet_put_26 fl_Sheet_17 h_o (by decide) rfl ?_
        refine j_iconst (pc := 29) d_Sheet_put_29 k_i_1 ?_
        refine j_icmp_ne (pc := 30) (tgt := 38) d_Sheet_put_30 (by decide) (fun _ => ?_) (fun _ => ?_)
        · refine j_iload_n (pc := 38) (q := 2) d_Sheet_put_38 rfl rfl ?_
          refine j_lv [] rfl ?_
          exact hk39 p2
        · refine j_iload_n (pc := 33) (q := 2) d_Sheet_put_33 rfl rfl ?_
          refine j_i2s (pc := 34) d_Sheet_put_34 ?_
          refine j_goto (pc := 35) (tgt := 39) d_Sheet_put_35 (by decide) ?_
          refine j_lv [] rfl ?_
          exact hk39 (p2.toInt16.toInt32)
      · refine j_iload_n (pc := 20) (q := 2) d_Sheet_put_20 rfl rfl ?_
        refine j_i2b (pc := 21) d_Sheet_put_21 ?_
        refine j_goto (pc := 22) (tgt := 39) d_Sheet_put_22 (by decide) ?_
        refine j_lv [] rfl ?_
        exact hk39 (p2.toInt8.toInt32)
-- Sheet.faultOfTwo (II)I
def mt_Sheet_faultOfTwo : Mt := ("ShakeHands$Sheet", b_Sheet_faultOfTwo, 4, some .int, 3, SHx)
theorem d_Sheet_faultOfTwo_0 : decode b_Sheet_faultOfTwo 0 = .ok (.aload_n 0, 1) := by decide +kernel
theorem d_Sheet_faultOfTwo_1 : decode b_Sheet_faultOfTwo 1 = .ok (.getfield 13, 3) := by decide +kernel
theorem d_Sheet_faultOfTwo_4 : decode b_Sheet_faultOfTwo 4 = .ok (.ifCond .eq 13, 3) := by decide +kernel
theorem d_Sheet_faultOfTwo_7 : decode b_Sheet_faultOfTwo 7 = .ok (.aload_n 0, 1) := by decide +kernel
theorem d_Sheet_faultOfTwo_8 : decode b_Sheet_faultOfTwo 8 = .ok (.getfield 17, 3) := by decide +kernel
theorem d_Sheet_faultOfTwo_11 : decode b_Sheet_faultOfTwo 11 = .ok (.iload_n 1, 1) := by decide +kernel
theorem d_Sheet_faultOfTwo_12 : decode b_Sheet_faultOfTwo 12 = .ok (.if_icmp .eq 5, 3) := by decide +kernel
theorem d_Sheet_faultOfTwo_15 : decode b_Sheet_faultOfTwo 15 = .ok (.iconst 3, 1) := by decide +kernel
theorem d_Sheet_faultOfTwo_16 : decode b_Sheet_faultOfTwo 16 = .ok (.ireturn, 1) := by decide +kernel
theorem d_Sheet_faultOfTwo_17 : decode b_Sheet_faultOfTwo 17 = .ok (.aload_n 0, 1) := by decide +kernel
theorem d_Sheet_faultOfTwo_18 : decode b_Sheet_faultOfTwo 18 = .ok (.iload_n 2, 1) := by decide +kernel
theorem d_Sheet_faultOfTwo_19 : decode b_Sheet_faultOfTwo 19 = .ok (.invokevirtual 24, 3) := by decide +kernel
theorem d_Sheet_faultOfTwo_22 : decode b_Sheet_faultOfTwo 22 = .ok (.istore_n 3, 1) := by decide +kernel
theorem d_Sheet_faultOfTwo_23 : decode b_Sheet_faultOfTwo 23 = .ok (.iload_n 3, 1) := by decide +kernel
theorem d_Sheet_faultOfTwo_24 : decode b_Sheet_faultOfTwo 24 = .ok (.ifCond .eq 7, 3) := by decide +kernel
theorem d_Sheet_faultOfTwo_27 : decode b_Sheet_faultOfTwo 27 = .ok (.iload_n 3, 1) := by decide +kernel
theorem d_Sheet_faultOfTwo_28 : decode b_Sheet_faultOfTwo 28 = .ok (.goto 10, 3) := by decide +kernel
theorem d_Sheet_faultOfTwo_31 : decode b_Sheet_faultOfTwo 31 = .ok (.aload_n 0, 1) := by decide +kernel
theorem d_Sheet_faultOfTwo_32 : decode b_Sheet_faultOfTwo 32 = .ok (.iload_n 2, 1) := by decide +kernel
theorem d_Sheet_faultOfTwo_33 : decode b_Sheet_faultOfTwo 33 = .ok (.iconst 1, 1) := by decide +kernel
theorem d_Sheet_faultOfTwo_34 : decode b_Sheet_faultOfTwo 34 = .ok (.iadd, 1) := by decide +kernel
theorem d_Sheet_faultOfTwo_35 : decode b_Sheet_faultOfTwo 35 = .ok (.invokevirtual 24, 3) := by decide +kernel
theorem d_Sheet_faultOfTwo_38 : decode b_Sheet_faultOfTwo 38 = .ok (.ireturn, 1) := by decide +kernel
def X_Sheet_faultOfTwo (n : Nat) (o : Nat) (p1 : Int32) (p2 : Int32) (M : Mem) : Option (Int32 × Mem) :=
  nm (bd (X_Sheet_faultAt n o p2 M) fun r1 M2 =>
    (if r1 = 0 then
      bd (X_Sheet_faultAt n o (p2 + 1) M2) fun r3 M4 =>
      some (r3, M4)
      else
      some (r1, M2))) fun k17 =>
  (if (M.1 o 0) = 0 then
    k17
    else
    (if (M.1 o 2) = p1 then
      k17
      else
      some (3, M)))
set_option maxRecDepth 20000 in
set_option maxHeartbeats 4000000 in
theorem C_Sheet_faultOfTwo (n : Nat) (o : Nat) (h_o : SHx[o]? = some (5, [0, 0, 0, o + 1 + 2])) (h_o1 : SHx[o + 1]? = some (100, [40])) (p1 : Int32) (p2 : Int32) (M : Mem) : Ct y_Sheet_faultOfTwo mt_Sheet_faultOfTwo wI [Value.ref o, Value.int p1, Value.int p2] M (X_Sheet_faultOfTwo n o p1 p2 M) := by
  refine ct_of (by decide +kernel) rfl (Nat.le_of_ble_eq_true rfl) ?_
  show J _ _ _ [(0, Value.ref o), (1, Value.int p1), (2, Value.int p2)] _ _ _
  unfold X_Sheet_faultOfTwo
  refine j_aload_n (pc := 0) (q := 0) d_Sheet_faultOfTwo_0 rfl rfl ?_
  refine j_getI (pc := 1) d_Sheet_faultOfTwo_1 fl_Sheet_13 h_o (by decide) rfl ?_
  refine j_nmk (fun k => J (mt_Sheet_faultOfTwo) wI 17 [(0, Value.ref o), (2, Value.int p2)] [] M k) (?_) (fun k17 hk17 => ?_)
  · refine j_aload_n (pc := 17) (q := 0) d_Sheet_faultOfTwo_17 rfl rfl ?_
    refine j_iload_n (pc := 18) (q := 1) d_Sheet_faultOfTwo_18 rfl rfl ?_
    refine j_callV1 (pc := 19) d_Sheet_faultOfTwo_19 (C_Sheet_faultAt n o h_o h_o1 p2 M) cV_Sheet_24 cd_Sheet_faultAt dn_Sheet_faultAt rfl (by decide) (Nat.le_of_ble_eq_true rfl) (Nat.le_of_ble_eq_true rfl) nr_I h_o (by decide) rfl (fun r1 M2 => ?_)
    refine j_istore_n (pc := 22) d_Sheet_faultOfTwo_22 rfl (by decide) rfl ?_
    refine j_iload_n (pc := 23) (q := 0) d_Sheet_faultOfTwo_23 rfl rfl ?_
    refine j_if_eq (pc := 24) (tgt := 31) d_Sheet_faultOfTwo_24 (by decide) (fun _ => ?_) (fun _ => ?_)
    · refine j_aload_n (pc := 31) (q := 1) d_Sheet_faultOfTwo_31 rfl rfl ?_
      refine j_iload_n (pc := 32) (q := 2) d_Sheet_faultOfTwo_32 rfl rfl ?_
      refine j_iconst (pc := 33) d_Sheet_faultOfTwo_33 k_i_1 ?_
      refine j_iadd (pc := 34) d_Sheet_faultOfTwo_34 ?_
      refine j_callV1 (pc := 35) d_Sheet_faultOfTwo_35 (C_Sheet_faultAt n o h_o h_o1 (p2 + 1) M2) cV_Sheet_24 cd_Sheet_faultAt dn_Sheet_faultAt rfl (by decide) (Nat.le_of_ble_eq_true rfl) (Nat.le_of_ble_eq_true rfl) nr_I h_o (by decide) rfl (fun r3 M4 => ?_)
      exact j_ireturn (pc := 38) d_Sheet_faultOfTwo_38 rfl
    · refine j_iload_n (pc := 27) (q := 0) d_Sheet_faultOfTwo_27 rfl rfl ?_
      refine j_goto (pc := 28) (tgt := 38) d_Sheet_faultOfTwo_28 (by decide) ?_
      exact j_ireturn (pc := 38) d_Sheet_faultOfTwo_38 rfl
  · refine j_if_eq (pc := 4) (tgt := 17) d_Sheet_faultOfTwo_4 (by decide) (fun _ => ?_) (fun _ => ?_)
    · refine j_lv [0, 2] rfl ?_
      exact hk17
    · refine j_aload_n (pc := 7) (q := 0) d_Sheet_faultOfTwo_7 rfl rfl ?_
      refine j_getI (pc := 8) d_Sheet_faultOfTwo_8 fl_Sheet_17 h_o (by decide) rfl ?_
      refine j_iload_n (pc := 11) (q := 1) d_Sheet_faultOfTwo_11 rfl rfl ?_
      refine j_icmp_eq (pc := 12) (tgt := 17) d_Sheet_faultOfTwo_12 (by decide) (fun _ => ?_) (fun _ => ?_)
      · refine j_lv [0, 2] rfl ?_
        exact hk17
      · refine j_iconst (pc := 15) d_Sheet_faultOfTwo_15 k_i_3 ?_
        exact j_ireturn (pc := 16) d_Sheet_faultOfTwo_16 rfl
-- Sheet.cellAt (I)I
def mt_Sheet_cellAt : Mt := ("ShakeHands$Sheet", b_Sheet_cellAt, 2, some .int, 3, SHx)
theorem d_Sheet_cellAt_0 : decode b_Sheet_cellAt 0 = .ok (.aload_n 0, 1) := by decide +kernel
theorem d_Sheet_cellAt_1 : decode b_Sheet_cellAt 1 = .ok (.iload_n 1, 1) := by decide +kernel
theorem d_Sheet_cellAt_2 : decode b_Sheet_cellAt 2 = .ok (.invokevirtual 24, 3) := by decide +kernel
theorem d_Sheet_cellAt_5 : decode b_Sheet_cellAt 5 = .ok (.ifCond .ne 12, 3) := by decide +kernel
theorem d_Sheet_cellAt_8 : decode b_Sheet_cellAt 8 = .ok (.aload_n 0, 1) := by decide +kernel
theorem d_Sheet_cellAt_9 : decode b_Sheet_cellAt 9 = .ok (.getfield 9, 3) := by decide +kernel
theorem d_Sheet_cellAt_12 : decode b_Sheet_cellAt 12 = .ok (.iload_n 1, 1) := by decide +kernel
theorem d_Sheet_cellAt_13 : decode b_Sheet_cellAt 13 = .ok (.iaload, 1) := by decide +kernel
theorem d_Sheet_cellAt_14 : decode b_Sheet_cellAt 14 = .ok (.goto 4, 3) := by decide +kernel
theorem d_Sheet_cellAt_17 : decode b_Sheet_cellAt 17 = .ok (.iconst 0, 1) := by decide +kernel
theorem d_Sheet_cellAt_18 : decode b_Sheet_cellAt 18 = .ok (.ireturn, 1) := by decide +kernel
def X_Sheet_cellAt (n : Nat) (o : Nat) (p1 : Int32) (M : Mem) : Option (Int32 × Mem) :=
  bd (X_Sheet_faultAt n o p1 M) fun r1 M2 =>
  (if r1 = 0 then
    gd p1 40 (
      some ((M2.1 (o + 1) p1.toNatClampNeg), M2))
    else
    some (0, M2))
set_option maxRecDepth 20000 in
set_option maxHeartbeats 4000000 in
theorem C_Sheet_cellAt (n : Nat) (o : Nat) (h_o : SHx[o]? = some (5, [0, 0, 0, o + 1 + 2])) (h_o1 : SHx[o + 1]? = some (100, [40])) (p1 : Int32) (M : Mem) : Ct y_Sheet_cellAt mt_Sheet_cellAt wI [Value.ref o, Value.int p1] M (X_Sheet_cellAt n o p1 M) := by
  refine ct_of (by decide +kernel) rfl (Nat.le_of_ble_eq_true rfl) ?_
  show J _ _ _ [(0, Value.ref o), (1, Value.int p1)] _ _ _
  unfold X_Sheet_cellAt
  refine j_aload_n (pc := 0) (q := 0) d_Sheet_cellAt_0 rfl rfl ?_
  refine j_iload_n (pc := 1) (q := 1) d_Sheet_cellAt_1 rfl rfl ?_
  refine j_callV1 (pc := 2) d_Sheet_cellAt_2 (C_Sheet_faultAt n o h_o h_o1 p1 M) cV_Sheet_24 cd_Sheet_faultAt dn_Sheet_faultAt rfl (by decide) (Nat.le_of_ble_eq_true rfl) (Nat.le_of_ble_eq_true rfl) nr_I h_o (by decide) rfl (fun r1 M2 => ?_)
  refine j_if_ne (pc := 5) (tgt := 17) d_Sheet_cellAt_5 (by decide) (fun _ => ?_) (fun _ => ?_)
  · refine j_iconst (pc := 17) d_Sheet_cellAt_17 k_i_0 ?_
    exact j_ireturn (pc := 18) d_Sheet_cellAt_18 rfl
  · refine j_aload_n (pc := 8) (q := 0) d_Sheet_cellAt_8 rfl rfl ?_
    refine j_getA (pc := 9) d_Sheet_cellAt_9 fl_Sheet_9 h_o (by decide) rfl ?_
    refine j_iload_n (pc := 12) (q := 1) d_Sheet_cellAt_12 rfl rfl ?_
    refine j_iald (pc := 13) d_Sheet_cellAt_13 h_o1 (fun _ => ?_)
    refine j_goto (pc := 14) (tgt := 18) d_Sheet_cellAt_14 (by decide) ?_
    exact j_ireturn (pc := 18) d_Sheet_cellAt_18 rfl
-- Tape.append (J)Z
def mt_Tape_append : Mt := ("ShakeHands$Tape", b_Tape_append, 4, some .boolean, 2, SHx)
theorem d_Tape_append_0 : decode b_Tape_append 0 = .ok (.aload_n 0, 1) := by decide +kernel
theorem d_Tape_append_1 : decode b_Tape_append 1 = .ok (.getfield 13, 3) := by decide +kernel
theorem d_Tape_append_4 : decode b_Tape_append 4 = .ok (.sipush 312, 3) := by decide +kernel
theorem d_Tape_append_7 : decode b_Tape_append 7 = .ok (.if_icmp .le 5, 3) := by decide +kernel
theorem d_Tape_append_10 : decode b_Tape_append 10 = .ok (.iconst 0, 1) := by decide +kernel
theorem d_Tape_append_11 : decode b_Tape_append 11 = .ok (.ireturn, 1) := by decide +kernel
theorem d_Tape_append_12 : decode b_Tape_append 12 = .ok (.iconst 0, 1) := by decide +kernel
theorem d_Tape_append_13 : decode b_Tape_append 13 = .ok (.istore_n 3, 1) := by decide +kernel
theorem d_Tape_append_14 : decode b_Tape_append 14 = .ok (.iload_n 3, 1) := by decide +kernel
theorem d_Tape_append_15 : decode b_Tape_append 15 = .ok (.bipush 8, 2) := by decide +kernel
theorem d_Tape_append_17 : decode b_Tape_append 17 = .ok (.if_icmp .ge 31, 3) := by decide +kernel
theorem d_Tape_append_20 : decode b_Tape_append 20 = .ok (.aload_n 0, 1) := by decide +kernel
theorem d_Tape_append_21 : decode b_Tape_append 21 = .ok (.getfield 9, 3) := by decide +kernel
theorem d_Tape_append_24 : decode b_Tape_append 24 = .ok (.aload_n 0, 1) := by decide +kernel
theorem d_Tape_append_25 : decode b_Tape_append 25 = .ok (.getfield 13, 3) := by decide +kernel
theorem d_Tape_append_28 : decode b_Tape_append 28 = .ok (.iload_n 3, 1) := by decide +kernel
theorem d_Tape_append_29 : decode b_Tape_append 29 = .ok (.iadd, 1) := by decide +kernel
theorem d_Tape_append_30 : decode b_Tape_append 30 = .ok (.lload_n 1, 1) := by decide +kernel
theorem d_Tape_append_31 : decode b_Tape_append 31 = .ok (.bipush 56, 2) := by decide +kernel
theorem d_Tape_append_33 : decode b_Tape_append 33 = .ok (.bipush 8, 2) := by decide +kernel
theorem d_Tape_append_35 : decode b_Tape_append 35 = .ok (.iload_n 3, 1) := by decide +kernel
theorem d_Tape_append_36 : decode b_Tape_append 36 = .ok (.imul, 1) := by decide +kernel
theorem d_Tape_append_37 : decode b_Tape_append 37 = .ok (.isub, 1) := by decide +kernel
theorem d_Tape_append_38 : decode b_Tape_append 38 = .ok (.lushr, 1) := by decide +kernel
theorem d_Tape_append_39 : decode b_Tape_append 39 = .ok (.l2i, 1) := by decide +kernel
theorem d_Tape_append_40 : decode b_Tape_append 40 = .ok (.i2b, 1) := by decide +kernel
theorem d_Tape_append_41 : decode b_Tape_append 41 = .ok (.bastore, 1) := by decide +kernel
theorem d_Tape_append_42 : decode b_Tape_append 42 = .ok (.iinc 3 1, 3) := by decide +kernel
theorem d_Tape_append_45 : decode b_Tape_append 45 = .ok (.goto (-31), 3) := by decide +kernel
theorem d_Tape_append_48 : decode b_Tape_append 48 = .ok (.aload_n 0, 1) := by decide +kernel
theorem d_Tape_append_49 : decode b_Tape_append 49 = .ok (.dup, 1) := by decide +kernel
theorem d_Tape_append_50 : decode b_Tape_append 50 = .ok (.getfield 13, 3) := by decide +kernel
theorem d_Tape_append_53 : decode b_Tape_append 53 = .ok (.bipush 8, 2) := by decide +kernel
theorem d_Tape_append_55 : decode b_Tape_append 55 = .ok (.iadd, 1) := by decide +kernel
theorem d_Tape_append_56 : decode b_Tape_append 56 = .ok (.putfield 13, 3) := by decide +kernel
theorem d_Tape_append_59 : decode b_Tape_append 59 = .ok (.iconst 1, 1) := by decide +kernel
theorem d_Tape_append_60 : decode b_Tape_append 60 = .ok (.ireturn, 1) := by decide +kernel
def X_Tape_append_L14 (n : Nat) (a1 : Int64) (kx48 : Mem → Option (Int32 × Mem)) : Nat → Int32 → Mem → Option (Int32 × Mem)
    | 0, _, _ => none
    | m + 1, v3, M => (if 8 ≤ v3 then
    kx48 M
    else
    gd ((M.1 1 1) + v3) 320 (
      X_Tape_append_L14 n a1 kx48 m (v3 + 1) (si M 2 (((M.1 1 1) + v3).toNatClampNeg) (vp_nar .byte ((((((a1.toUInt64 >>> ((56 - (8 * v3)).toInt64.toUInt64 &&& Int64.toUInt64 63)).toInt64) : Int64).toInt32) : Int32).toInt8.toInt32)))))
def X_Tape_append (n : Nat) (p1 : Int64) (M : Mem) : Option (Int32 × Mem) :=
  (if (M.1 1 1) ≤ 312 then
    X_Tape_append_L14 n p1 (fun M1 => some (1, si M1 1 1 ((M1.1 1 1) + 8))) n 0 M
    else
    some (0, M))
set_option maxRecDepth 20000 in
set_option maxHeartbeats 4000000 in
theorem X_Tape_append_L14_ok {n : Nat} {a1 : Int64} {kx48 : Mem → Option (Int32 × Mem)} (hkx48 : ∀ (M : Mem), J (mt_Tape_append) wI 48 [(0, Value.ref 1)] [] M (kx48 M)) : ∀ (m : Nat) (v3 : Int32) (M : Mem), J (mt_Tape_append) wI 14 [(0, Value.ref 1), (1, Value.long a1), (3, Value.int v3)] [] M (X_Tape_append_L14 n a1 kx48 m v3 M) := by
  intro m
  induction m with
  | zero => intro _ _; exact j_none
  | succ m ih =>
    intro v3 M
    show J _ _ _ _ _ _ ((if 8 ≤ v3 then
kx48 M
else
gd ((M.1 1 1) + v3) 320 (
X_Tape_append_L14 n a1 kx48 m (v3 + 1) (si M 2 (((M.1 1 1) + v3).toNatClampNeg) (vp_nar .byte ((((((a1.toUInt64 >>> ((56 - (8 * v3)).toInt64.toUInt64 &&& Int64.toUInt64 63)).toInt64) : Int64).toInt32) : Int32).toInt8.toInt32))))))
    refine j_iload_n (pc := 14) (q := 2) d_Tape_append_14 rfl rfl ?_
    refine j_bipush (pc := 15) d_Tape_append_15 k_b_8 ?_
    refine j_icmp_ge (pc := 17) (tgt := 48) d_Tape_append_17 (by decide) (fun _ => ?_) (fun _ => ?_)
    · refine j_lv [0] rfl ?_
      exact hkx48 M
    · refine j_aload_n (pc := 20) (q := 0) d_Tape_append_20 rfl rfl ?_
      refine j_getA (pc := 21) d_Tape_append_21 fl_Tape_9 sx_1 (by decide) rfl ?_
      refine j_aload_n (pc := 24) (q := 0) d_Tape_append_24 rfl rfl ?_
      refine j_getI (pc := 25) d_Tape_append_25 fl_Tape_13 sx_1 (by decide) rfl ?_
      refine j_iload_n (pc := 28) (q := 2) d_Tape_append_28 rfl rfl ?_
      refine j_iadd (pc := 29) d_Tape_append_29 ?_
      refine j_lload_n (pc := 30) (q := 1) d_Tape_append_30 rfl rfl ?_
      refine j_bipush (pc := 31) d_Tape_append_31 k_b_56 ?_
      refine j_bipush (pc := 33) d_Tape_append_33 k_b_8 ?_
      refine j_iload_n (pc := 35) (q := 2) d_Tape_append_35 rfl rfl ?_
      refine j_imul (pc := 36) d_Tape_append_36 ?_
      refine j_isub (pc := 37) d_Tape_append_37 ?_
      refine j_lushr (pc := 38) d_Tape_append_38 ?_
      refine j_l2i (pc := 39) d_Tape_append_39 ?_
      refine j_i2b (pc := 40) d_Tape_append_40 ?_
      refine j_bast (pc := 41) d_Tape_append_41 sx_2 (fun _ => ?_)
      refine j_iinc (pc := 42) (q := 2) d_Tape_append_42 rfl (congrArg (v3 + ·) k_i_1) (by decide) rfl ?_
      refine j_goto (pc := 45) (tgt := 14) d_Tape_append_45 (by decide) ?_
      refine j_lv [1, 2, 0] rfl ?_
      exact ih (v3 + 1) (si M 2 (((M.1 1 1) + v3).toNatClampNeg) (vp_nar .byte ((((((a1.toUInt64 >>> ((56 - (8 * v3)).toInt64.toUInt64 &&& Int64.toUInt64 63)).toInt64) : Int64).toInt32) : Int32).toInt8.toInt32)))
set_option maxRecDepth 20000 in
set_option maxHeartbeats 4000000 in
theorem C_Tape_append (n : Nat)   (p1 : Int64) (M : Mem) : Ct y_Tape_append mt_Tape_append wI [Value.ref 1, Value.long p1] M (X_Tape_append n p1 M) := by
  refine ct_of (by decide +kernel) rfl (Nat.le_of_ble_eq_true rfl) ?_
  show J _ _ _ [(0, Value.ref 1), (1, Value.long p1)] _ _ _
  unfold X_Tape_append
  refine j_aload_n (pc := 0) (q := 0) d_Tape_append_0 rfl rfl ?_
  refine j_getI (pc := 1) d_Tape_append_1 fl_Tape_13 sx_1 (by decide) rfl ?_
  refine j_sipush (pc := 4) d_Tape_append_4 k_s_312 ?_
  refine j_icmp_le (pc := 7) (tgt := 12) d_Tape_append_7 (by decide) (fun _ => ?_) (fun _ => ?_)
  · refine j_iconst (pc := 12) d_Tape_append_12 k_i_0 ?_
    refine j_istore_n (pc := 13) d_Tape_append_13 rfl (by decide) rfl ?_
    refine j_lv [1, 2, 0] rfl ?_
    refine X_Tape_append_L14_ok  (fun M1 => ?_) n 0 M
    refine j_aload_n (pc := 48) (q := 0) d_Tape_append_48 rfl rfl ?_
    refine j_dup (pc := 49) d_Tape_append_49 rfl ?_
    refine j_getI (pc := 50) d_Tape_append_50 fl_Tape_13 sx_1 (by decide) rfl ?_
    refine j_bipush (pc := 53) d_Tape_append_53 k_b_8 ?_
    refine j_iadd (pc := 55) d_Tape_append_55 ?_
    refine j_putI (pc := 56) d_Tape_append_56 fl_Tape_13 rfl sx_1 (by decide) rfl ?_
    refine j_iconst (pc := 59) d_Tape_append_59 k_i_1 ?_
    exact j_zreturn (pc := 60) d_Tape_append_60 rfl rfl
  · refine j_iconst (pc := 10) d_Tape_append_10 k_i_0 ?_
    exact j_zreturn (pc := 11) d_Tape_append_11 rfl rfl
-- ShakeHands.pairOf (II)I
def mt_ShakeHands_pairOf : Mt := ("ShakeHands", b_ShakeHands_pairOf, 3, some .int, 2, SHx)
theorem d_ShakeHands_pairOf_0 : decode b_ShakeHands_pairOf 0 = .ok (.iload_n 0, 1) := by decide +kernel
theorem d_ShakeHands_pairOf_1 : decode b_ShakeHands_pairOf 1 = .ok (.iload_n 1, 1) := by decide +kernel
theorem d_ShakeHands_pairOf_2 : decode b_ShakeHands_pairOf 2 = .ok (.invokestatic 305, 3) := by decide +kernel
theorem d_ShakeHands_pairOf_5 : decode b_ShakeHands_pairOf 5 = .ok (.istore_n 2, 1) := by decide +kernel
theorem d_ShakeHands_pairOf_6 : decode b_ShakeHands_pairOf 6 = .ok (.iload_n 2, 1) := by decide +kernel
theorem d_ShakeHands_pairOf_7 : decode b_ShakeHands_pairOf 7 = .ok (.iload_n 2, 1) := by decide +kernel
theorem d_ShakeHands_pairOf_8 : decode b_ShakeHands_pairOf 8 = .ok (.iconst 1, 1) := by decide +kernel
theorem d_ShakeHands_pairOf_9 : decode b_ShakeHands_pairOf 9 = .ok (.isub, 1) := by decide +kernel
theorem d_ShakeHands_pairOf_10 : decode b_ShakeHands_pairOf 10 = .ok (.imul, 1) := by decide +kernel
theorem d_ShakeHands_pairOf_11 : decode b_ShakeHands_pairOf 11 = .ok (.iconst 2, 1) := by decide +kernel
theorem d_ShakeHands_pairOf_12 : decode b_ShakeHands_pairOf 12 = .ok (.idiv, 1) := by decide +kernel
theorem d_ShakeHands_pairOf_13 : decode b_ShakeHands_pairOf 13 = .ok (.iload_n 0, 1) := by decide +kernel
theorem d_ShakeHands_pairOf_14 : decode b_ShakeHands_pairOf 14 = .ok (.iload_n 1, 1) := by decide +kernel
theorem d_ShakeHands_pairOf_15 : decode b_ShakeHands_pairOf 15 = .ok (.invokestatic 310, 3) := by decide +kernel
theorem d_ShakeHands_pairOf_18 : decode b_ShakeHands_pairOf 18 = .ok (.iadd, 1) := by decide +kernel
theorem d_ShakeHands_pairOf_19 : decode b_ShakeHands_pairOf 19 = .ok (.ireturn, 1) := by decide +kernel
def X_ShakeHands_pairOf (n : Nat) (p0 : Int32) (p1 : Int32) (M : Mem) : Option (Int32 × Mem) :=
  nm (if p0 < p1 then p1 else p0) fun x1 =>
  (if 2 = 0 then none else
    some ((((x1 * (x1 - 1)) / 2) + (if p1 < p0 then p1 else p0)), M))
set_option maxRecDepth 20000 in
set_option maxHeartbeats 4000000 in
theorem C_ShakeHands_pairOf (n : Nat)   (p0 : Int32) (p1 : Int32) (M : Mem) : Ct y_ShakeHands_pairOf mt_ShakeHands_pairOf wI [Value.int p0, Value.int p1] M (X_ShakeHands_pairOf n p0 p1 M) := by
  refine ct_of (by decide +kernel) rfl (Nat.le_of_ble_eq_true rfl) ?_
  show J _ _ _ [(0, Value.int p0), (1, Value.int p1)] _ _ _
  unfold X_ShakeHands_pairOf
  refine j_iload_n (pc := 0) (q := 0) d_ShakeHands_pairOf_0 rfl rfl ?_
  refine j_iload_n (pc := 1) (q := 1) d_ShakeHands_pairOf_1 rfl rfl ?_
  refine j_mmax (pc := 2) d_ShakeHands_pairOf_2 mw_ShakeHands_305 ms_max mc_max (by decide) (Nat.le_of_ble_eq_true rfl) ?_
  refine j_nmi (fun x1 => ?_)
  refine j_istore_n (pc := 5) d_ShakeHands_pairOf_5 rfl (by decide) rfl ?_
  refine j_iload_n (pc := 6) (q := 0) d_ShakeHands_pairOf_6 rfl rfl ?_
  refine j_iload_n (pc := 7) (q := 0) d_ShakeHands_pairOf_7 rfl rfl ?_
  refine j_iconst (pc := 8) d_ShakeHands_pairOf_8 k_i_1 ?_
  refine j_isub (pc := 9) d_ShakeHands_pairOf_9 ?_
  refine j_imul (pc := 10) d_ShakeHands_pairOf_10 ?_
  refine j_iconst (pc := 11) d_ShakeHands_pairOf_11 k_i_2 ?_
  refine j_idiv (pc := 12) d_ShakeHands_pairOf_12 (fun _ => ?_)
  refine j_iload_n (pc := 13) (q := 1) d_ShakeHands_pairOf_13 rfl rfl ?_
  refine j_iload_n (pc := 14) (q := 2) d_ShakeHands_pairOf_14 rfl rfl ?_
  refine j_mmin (pc := 15) d_ShakeHands_pairOf_15 mw_ShakeHands_310 ms_min mc_min (by decide) (Nat.le_of_ble_eq_true rfl) ?_
  refine j_iadd (pc := 18) d_ShakeHands_pairOf_18 ?_
  exact j_ireturn (pc := 19) d_ShakeHands_pairOf_19 rfl
end
section
-- Circle.beAsAtFirst ()V
def mt_Circle_beAsAtFirst : Mt := ("ShakeHands$Circle", b_Circle_beAsAtFirst, 1, none, 2, SHx)
theorem d_Circle_beAsAtFirst_0 : decode b_Circle_beAsAtFirst 0 = .ok (.aload_n 0, 1) := by decide +kernel
theorem d_Circle_beAsAtFirst_1 : decode b_Circle_beAsAtFirst 1 = .ok (.iconst 3, 1) := by decide +kernel
theorem d_Circle_beAsAtFirst_2 : decode b_Circle_beAsAtFirst 2 = .ok (.putfield 13, 3) := by decide +kernel
theorem d_Circle_beAsAtFirst_5 : decode b_Circle_beAsAtFirst 5 = .ok (.aload_n 0, 1) := by decide +kernel
theorem d_Circle_beAsAtFirst_6 : decode b_Circle_beAsAtFirst 6 = .ok (.bipush 9, 2) := by decide +kernel
theorem d_Circle_beAsAtFirst_8 : decode b_Circle_beAsAtFirst 8 = .ok (.putfield 17, 3) := by decide +kernel
theorem d_Circle_beAsAtFirst_11 : decode b_Circle_beAsAtFirst 11 = .ok (.aload_n 0, 1) := by decide +kernel
theorem d_Circle_beAsAtFirst_12 : decode b_Circle_beAsAtFirst 12 = .ok (.iconst 0, 1) := by decide +kernel
theorem d_Circle_beAsAtFirst_13 : decode b_Circle_beAsAtFirst 13 = .ok (.putfield 35, 3) := by decide +kernel
theorem d_Circle_beAsAtFirst_16 : decode b_Circle_beAsAtFirst 16 = .ok (.aload_n 0, 1) := by decide +kernel
theorem d_Circle_beAsAtFirst_17 : decode b_Circle_beAsAtFirst 17 = .ok (.iconst 0, 1) := by decide +kernel
theorem d_Circle_beAsAtFirst_18 : decode b_Circle_beAsAtFirst 18 = .ok (.putfield 38, 3) := by decide +kernel
theorem d_Circle_beAsAtFirst_21 : decode b_Circle_beAsAtFirst 21 = .ok (.aload_n 0, 1) := by decide +kernel
theorem d_Circle_beAsAtFirst_22 : decode b_Circle_beAsAtFirst 22 = .ok (.iconst 0, 1) := by decide +kernel
theorem d_Circle_beAsAtFirst_23 : decode b_Circle_beAsAtFirst 23 = .ok (.putfield 41, 3) := by decide +kernel
theorem d_Circle_beAsAtFirst_26 : decode b_Circle_beAsAtFirst 26 = .ok (.return_, 1) := by decide +kernel
def X_Circle_beAsAtFirst (n : Nat) (M : Mem) : Option (Unit × Mem) :=
  some ((), si (si (si (si (si M 4 0 3) 4 1 9) 4 3 0) 4 5 0) 4 7 0)
set_option maxRecDepth 20000 in
set_option maxHeartbeats 4000000 in
theorem C_Circle_beAsAtFirst (n : Nat)    (M : Mem) : Ct y_Circle_beAsAtFirst mt_Circle_beAsAtFirst wU [Value.ref 4] M (X_Circle_beAsAtFirst n M) := by
  refine ct_of (by decide +kernel) rfl (Nat.le_of_ble_eq_true rfl) ?_
  show J _ _ _ [(0, Value.ref 4)] _ _ _
  unfold X_Circle_beAsAtFirst
  refine j_aload_n (pc := 0) (q := 0) d_Circle_beAsAtFirst_0 rfl rfl ?_
  refine j_iconst (pc := 1) d_Circle_beAsAtFirst_1 k_i_3 ?_
  refine j_putI (pc := 2) d_Circle_beAsAtFirst_2 fl_Circle_13 rfl sx_4 (by decide) rfl ?_
  refine j_aload_n (pc := 5) (q := 0) d_Circle_beAsAtFirst_5 rfl rfl ?_
  refine j_bipush (pc := 6) d_Circle_beAsAtFirst_6 k_b_9 ?_
  refine j_putI (pc := 8) d_Circle_beAsAtFirst_8 fl_Circle_17 rfl sx_4 (by decide) rfl ?_
  refine j_aload_n (pc := 11) (q := 0) d_Circle_beAsAtFirst_11 rfl rfl ?_
  refine j_iconst (pc := 12) d_Circle_beAsAtFirst_12 k_i_0 ?_
  refine j_putI (pc := 13) d_Circle_beAsAtFirst_13 fl_Circle_35 rfl sx_4 (by decide) rfl ?_
  refine j_aload_n (pc := 16) (q := 0) d_Circle_beAsAtFirst_16 rfl rfl ?_
  refine j_iconst (pc := 17) d_Circle_beAsAtFirst_17 k_i_0 ?_
  refine j_putI (pc := 18) d_Circle_beAsAtFirst_18 fl_Circle_38 rfl sx_4 (by decide) rfl ?_
  refine j_aload_n (pc := 21) (q := 0) d_Circle_beAsAtFirst_21 rfl rfl ?_
  refine j_iconst (pc := 22) d_Circle_beAsAtFirst_22 k_i_0 ?_
  refine j_putI (pc := 23) d_Circle_beAsAtFirst_23 fl_Circle_41 rfl sx_4 (by decide) rfl ?_
  exact j_return (pc := 26) d_Circle_beAsAtFirst_26 rfl
-- Circle.copy (LShakeHands$Circle;)V
def mt_Circle_copy : Mt := ("ShakeHands$Circle", b_Circle_copy, 2, none, 2, SHx)
theorem d_Circle_copy_0 : decode b_Circle_copy 0 = .ok (.aload_n 0, 1) := by decide +kernel
theorem d_Circle_copy_1 : decode b_Circle_copy 1 = .ok (.aload_n 1, 1) := by decide +kernel
theorem d_Circle_copy_2 : decode b_Circle_copy 2 = .ok (.getfield 13, 3) := by decide +kernel
theorem d_Circle_copy_5 : decode b_Circle_copy 5 = .ok (.putfield 13, 3) := by decide +kernel
theorem d_Circle_copy_8 : decode b_Circle_copy 8 = .ok (.aload_n 0, 1) := by decide +kernel
theorem d_Circle_copy_9 : decode b_Circle_copy 9 = .ok (.aload_n 1, 1) := by decide +kernel
theorem d_Circle_copy_10 : decode b_Circle_copy 10 = .ok (.getfield 17, 3) := by decide +kernel
theorem d_Circle_copy_13 : decode b_Circle_copy 13 = .ok (.putfield 17, 3) := by decide +kernel
theorem d_Circle_copy_16 : decode b_Circle_copy 16 = .ok (.aload_n 0, 1) := by decide +kernel
theorem d_Circle_copy_17 : decode b_Circle_copy 17 = .ok (.aload_n 1, 1) := by decide +kernel
theorem d_Circle_copy_18 : decode b_Circle_copy 18 = .ok (.getfield 35, 3) := by decide +kernel
theorem d_Circle_copy_21 : decode b_Circle_copy 21 = .ok (.putfield 35, 3) := by decide +kernel
theorem d_Circle_copy_24 : decode b_Circle_copy 24 = .ok (.aload_n 0, 1) := by decide +kernel
theorem d_Circle_copy_25 : decode b_Circle_copy 25 = .ok (.aload_n 1, 1) := by decide +kernel
theorem d_Circle_copy_26 : decode b_Circle_copy 26 = .ok (.getfield 38, 3) := by decide +kernel
theorem d_Circle_copy_29 : decode b_Circle_copy 29 = .ok (.putfield 38, 3) := by decide +kernel
theorem d_Circle_copy_32 : decode b_Circle_copy 32 = .ok (.aload_n 0, 1) := by decide +kernel
theorem d_Circle_copy_33 : decode b_Circle_copy 33 = .ok (.aload_n 1, 1) := by decide +kernel
theorem d_Circle_copy_34 : decode b_Circle_copy 34 = .ok (.getfield 41, 3) := by decide +kernel
theorem d_Circle_copy_37 : decode b_Circle_copy 37 = .ok (.putfield 41, 3) := by decide +kernel
theorem d_Circle_copy_40 : decode b_Circle_copy 40 = .ok (.aload_n 1, 1) := by decide +kernel
theorem d_Circle_copy_41 : decode b_Circle_copy 41 = .ok (.getfield 20, 3) := by decide +kernel
theorem d_Circle_copy_44 : decode b_Circle_copy 44 = .ok (.iconst 0, 1) := by decide +kernel
theorem d_Circle_copy_45 : decode b_Circle_copy 45 = .ok (.aload_n 0, 1) := by decide +kernel
theorem d_Circle_copy_46 : decode b_Circle_copy 46 = .ok (.getfield 20, 3) := by decide +kernel
theorem d_Circle_copy_49 : decode b_Circle_copy 49 = .ok (.iconst 0, 1) := by decide +kernel
theorem d_Circle_copy_50 : decode b_Circle_copy 50 = .ok (.bipush 12, 2) := by decide +kernel
theorem d_Circle_copy_52 : decode b_Circle_copy 52 = .ok (.invokestatic 44, 3) := by decide +kernel
theorem d_Circle_copy_55 : decode b_Circle_copy 55 = .ok (.aload_n 1, 1) := by decide +kernel
theorem d_Circle_copy_56 : decode b_Circle_copy 56 = .ok (.getfield 24, 3) := by decide +kernel
theorem d_Circle_copy_59 : decode b_Circle_copy 59 = .ok (.iconst 0, 1) := by decide +kernel
theorem d_Circle_copy_60 : decode b_Circle_copy 60 = .ok (.aload_n 0, 1) := by decide +kernel
theorem d_Circle_copy_61 : decode b_Circle_copy 61 = .ok (.getfield 24, 3) := by decide +kernel
theorem d_Circle_copy_64 : decode b_Circle_copy 64 = .ok (.iconst 0, 1) := by decide +kernel
theorem d_Circle_copy_65 : decode b_Circle_copy 65 = .ok (.bipush 16, 2) := by decide +kernel
theorem d_Circle_copy_67 : decode b_Circle_copy 67 = .ok (.invokestatic 44, 3) := by decide +kernel
theorem d_Circle_copy_70 : decode b_Circle_copy 70 = .ok (.aload_n 1, 1) := by decide +kernel
theorem d_Circle_copy_71 : decode b_Circle_copy 71 = .ok (.getfield 27, 3) := by decide +kernel
theorem d_Circle_copy_74 : decode b_Circle_copy 74 = .ok (.iconst 0, 1) := by decide +kernel
theorem d_Circle_copy_75 : decode b_Circle_copy 75 = .ok (.aload_n 0, 1) := by decide +kernel
theorem d_Circle_copy_76 : decode b_Circle_copy 76 = .ok (.getfield 27, 3) := by decide +kernel
theorem d_Circle_copy_79 : decode b_Circle_copy 79 = .ok (.iconst 0, 1) := by decide +kernel
theorem d_Circle_copy_80 : decode b_Circle_copy 80 = .ok (.bipush 8, 2) := by decide +kernel
theorem d_Circle_copy_82 : decode b_Circle_copy 82 = .ok (.invokestatic 44, 3) := by decide +kernel
theorem d_Circle_copy_85 : decode b_Circle_copy 85 = .ok (.return_, 1) := by decide +kernel
def X_Circle_copy (n : Nat) (M : Mem) : Option (Unit × Mem) :=
  nm (si M 11 0 (M.1 4 0)) fun N1 =>
  nm (si N1 11 1 (N1.1 4 1)) fun N2 =>
  nm (si N2 11 3 (N2.1 4 3)) fun N3 =>
  nm (si N3 11 5 (N3.1 4 5)) fun N4 =>
  nm (si N4 11 7 (N4.1 4 7)) fun N5 =>
  gc (0 : Int32) (0 : Int32) (12 : Int32) 12 12 (
    nm (cpI N5 5 ((0 : Int32).toNatClampNeg) 12 ((0 : Int32).toNatClampNeg) ((12 : Int32).toNatClampNeg)) fun N6 =>
    gc (0 : Int32) (0 : Int32) (16 : Int32) 16 16 (
      nm (cpI N6 6 ((0 : Int32).toNatClampNeg) 13 ((0 : Int32).toNatClampNeg) ((16 : Int32).toNatClampNeg)) fun N7 =>
      gc (0 : Int32) (0 : Int32) (8 : Int32) 8 8 (
        some ((), cpI N7 7 ((0 : Int32).toNatClampNeg) 14 ((0 : Int32).toNatClampNeg) ((8 : Int32).toNatClampNeg)))))
set_option maxRecDepth 20000 in
set_option maxHeartbeats 4000000 in
theorem C_Circle_copy (n : Nat)    (M : Mem) : Ct y_Circle_copy mt_Circle_copy wU [Value.ref 11, Value.ref 4] M (X_Circle_copy n M) := by
  refine ct_of (by decide +kernel) rfl (Nat.le_of_ble_eq_true rfl) ?_
  show J _ _ _ [(0, Value.ref 11), (1, Value.ref 4)] _ _ _
  unfold X_Circle_copy
  refine j_aload_n (pc := 0) (q := 0) d_Circle_copy_0 rfl rfl ?_
  refine j_aload_n (pc := 1) (q := 1) d_Circle_copy_1 rfl rfl ?_
  refine j_getI (pc := 2) d_Circle_copy_2 fl_Circle_13 sx_4 (by decide) rfl ?_
  refine j_putI (pc := 5) d_Circle_copy_5 fl_Circle_13 rfl sx_11 (by decide) rfl ?_
  refine j_aload_n (pc := 8) (q := 0) d_Circle_copy_8 rfl rfl ?_
  refine j_aload_n (pc := 9) (q := 1) d_Circle_copy_9 rfl rfl ?_
  refine j_nmM (fun N1 => ?_)
  refine j_getI (pc := 10) d_Circle_copy_10 fl_Circle_17 sx_4 (by decide) rfl ?_
  refine j_putI (pc := 13) d_Circle_copy_13 fl_Circle_17 rfl sx_11 (by decide) rfl ?_
  refine j_aload_n (pc := 16) (q := 0) d_Circle_copy_16 rfl rfl ?_
  refine j_aload_n (pc := 17) (q := 1) d_Circle_copy_17 rfl rfl ?_
  refine j_nmM (fun N2 => ?_)
  refine j_getI (pc := 18) d_Circle_copy_18 fl_Circle_35 sx_4 (by decide) rfl ?_
  refine j_putI (pc := 21) d_Circle_copy_21 fl_Circle_35 rfl sx_11 (by decide) rfl ?_
  refine j_aload_n (pc := 24) (q := 0) d_Circle_copy_24 rfl rfl ?_
  refine j_aload_n (pc := 25) (q := 1) d_Circle_copy_25 rfl rfl ?_
  refine j_nmM (fun N3 => ?_)
  refine j_getI (pc := 26) d_Circle_copy_26 fl_Circle_38 sx_4 (by decide) rfl ?_
  refine j_putI (pc := 29) d_Circle_copy_29 fl_Circle_38 rfl sx_11 (by decide) rfl ?_
  refine j_aload_n (pc := 32) (q := 0) d_Circle_copy_32 rfl rfl ?_
  refine j_aload_n (pc := 33) (q := 1) d_Circle_copy_33 rfl rfl ?_
  refine j_nmM (fun N4 => ?_)
  refine j_getI (pc := 34) d_Circle_copy_34 fl_Circle_41 sx_4 (by decide) rfl ?_
  refine j_putI (pc := 37) d_Circle_copy_37 fl_Circle_41 rfl sx_11 (by decide) rfl ?_
  refine j_aload_n (pc := 40) (q := 1) d_Circle_copy_40 rfl rfl ?_
  refine j_getA (pc := 41) d_Circle_copy_41 fl_Circle_20 sx_4 (by decide) rfl ?_
  refine j_iconst (pc := 44) d_Circle_copy_44 k_i_0 ?_
  refine j_aload_n (pc := 45) (q := 0) d_Circle_copy_45 rfl rfl ?_
  refine j_getA (pc := 46) d_Circle_copy_46 fl_Circle_20 sx_11 (by decide) rfl ?_
  refine j_iconst (pc := 49) d_Circle_copy_49 k_i_0 ?_
  refine j_bipush (pc := 50) d_Circle_copy_50 k_b_12 ?_
  refine j_nmM (fun N5 => ?_)
  refine j_copyI (pc := 52) d_Circle_copy_52 cw_Circle_44 cw_nat cw_st sx_5 sx_12 (by decide) (Nat.le_of_ble_eq_true rfl) ?_
  refine j_aload_n (pc := 55) (q := 1) d_Circle_copy_55 rfl rfl ?_
  refine j_getA (pc := 56) d_Circle_copy_56 fl_Circle_24 sx_4 (by decide) rfl ?_
  refine j_iconst (pc := 59) d_Circle_copy_59 k_i_0 ?_
  refine j_aload_n (pc := 60) (q := 0) d_Circle_copy_60 rfl rfl ?_
  refine j_getA (pc := 61) d_Circle_copy_61 fl_Circle_24 sx_11 (by decide) rfl ?_
  refine j_iconst (pc := 64) d_Circle_copy_64 k_i_0 ?_
  refine j_bipush (pc := 65) d_Circle_copy_65 k_b_16 ?_
  refine j_nmM (fun N6 => ?_)
  refine j_copyI (pc := 67) d_Circle_copy_67 cw_Circle_44 cw_nat cw_st sx_6 sx_13 (by decide) (Nat.le_of_ble_eq_true rfl) ?_
  refine j_aload_n (pc := 70) (q := 1) d_Circle_copy_70 rfl rfl ?_
  refine j_getA (pc := 71) d_Circle_copy_71 fl_Circle_27 sx_4 (by decide) rfl ?_
  refine j_iconst (pc := 74) d_Circle_copy_74 k_i_0 ?_
  refine j_aload_n (pc := 75) (q := 0) d_Circle_copy_75 rfl rfl ?_
  refine j_getA (pc := 76) d_Circle_copy_76 fl_Circle_27 sx_11 (by decide) rfl ?_
  refine j_iconst (pc := 79) d_Circle_copy_79 k_i_0 ?_
  refine j_bipush (pc := 80) d_Circle_copy_80 k_b_8 ?_
  refine j_nmM (fun N7 => ?_)
  refine j_copyI (pc := 82) d_Circle_copy_82 cw_Circle_44 cw_nat cw_st sx_7 sx_14 (by decide) (Nat.le_of_ble_eq_true rfl) ?_
  exact j_return (pc := 85) d_Circle_copy_85 rfl
-- Circle.firstJoin ()I
def mt_Circle_firstJoin : Mt := ("ShakeHands$Circle", b_Circle_firstJoin, 2, some .int, 2, SHx)
theorem d_Circle_firstJoin_0 : decode b_Circle_firstJoin 0 = .ok (.iconst 0, 1) := by decide +kernel
theorem d_Circle_firstJoin_1 : decode b_Circle_firstJoin 1 = .ok (.istore_n 1, 1) := by decide +kernel
theorem d_Circle_firstJoin_2 : decode b_Circle_firstJoin 2 = .ok (.iload_n 1, 1) := by decide +kernel
theorem d_Circle_firstJoin_3 : decode b_Circle_firstJoin 3 = .ok (.aload_n 0, 1) := by decide +kernel
theorem d_Circle_firstJoin_4 : decode b_Circle_firstJoin 4 = .ok (.getfield 35, 3) := by decide +kernel
theorem d_Circle_firstJoin_7 : decode b_Circle_firstJoin 7 = .ok (.if_icmp .ge 53, 3) := by decide +kernel
theorem d_Circle_firstJoin_10 : decode b_Circle_firstJoin 10 = .ok (.aload_n 0, 1) := by decide +kernel
theorem d_Circle_firstJoin_11 : decode b_Circle_firstJoin 11 = .ok (.getfield 31, 3) := by decide +kernel
theorem d_Circle_firstJoin_14 : decode b_Circle_firstJoin 14 = .ok (.getfield 88, 3) := by decide +kernel
theorem d_Circle_firstJoin_17 : decode b_Circle_firstJoin 17 = .ok (.aload_n 0, 1) := by decide +kernel
theorem d_Circle_firstJoin_18 : decode b_Circle_firstJoin 18 = .ok (.getfield 20, 3) := by decide +kernel
theorem d_Circle_firstJoin_21 : decode b_Circle_firstJoin 21 = .ok (.iconst 3, 1) := by decide +kernel
theorem d_Circle_firstJoin_22 : decode b_Circle_firstJoin 22 = .ok (.iload_n 1, 1) := by decide +kernel
theorem d_Circle_firstJoin_23 : decode b_Circle_firstJoin 23 = .ok (.imul, 1) := by decide +kernel
theorem d_Circle_firstJoin_24 : decode b_Circle_firstJoin 24 = .ok (.iaload, 1) := by decide +kernel
theorem d_Circle_firstJoin_25 : decode b_Circle_firstJoin 25 = .ok (.iushr, 1) := by decide +kernel
theorem d_Circle_firstJoin_26 : decode b_Circle_firstJoin 26 = .ok (.aload_n 0, 1) := by decide +kernel
theorem d_Circle_firstJoin_27 : decode b_Circle_firstJoin 27 = .ok (.getfield 31, 3) := by decide +kernel
theorem d_Circle_firstJoin_30 : decode b_Circle_firstJoin 30 = .ok (.getfield 88, 3) := by decide +kernel
theorem d_Circle_firstJoin_33 : decode b_Circle_firstJoin 33 = .ok (.aload_n 0, 1) := by decide +kernel
theorem d_Circle_firstJoin_34 : decode b_Circle_firstJoin 34 = .ok (.getfield 20, 3) := by decide +kernel
theorem d_Circle_firstJoin_37 : decode b_Circle_firstJoin 37 = .ok (.iconst 3, 1) := by decide +kernel
theorem d_Circle_firstJoin_38 : decode b_Circle_firstJoin 38 = .ok (.iload_n 1, 1) := by decide +kernel
theorem d_Circle_firstJoin_39 : decode b_Circle_firstJoin 39 = .ok (.imul, 1) := by decide +kernel
theorem d_Circle_firstJoin_40 : decode b_Circle_firstJoin 40 = .ok (.iconst 1, 1) := by decide +kernel
theorem d_Circle_firstJoin_41 : decode b_Circle_firstJoin 41 = .ok (.iadd, 1) := by decide +kernel
theorem d_Circle_firstJoin_42 : decode b_Circle_firstJoin 42 = .ok (.iaload, 1) := by decide +kernel
theorem d_Circle_firstJoin_43 : decode b_Circle_firstJoin 43 = .ok (.iushr, 1) := by decide +kernel
theorem d_Circle_firstJoin_44 : decode b_Circle_firstJoin 44 = .ok (.iand, 1) := by decide +kernel
theorem d_Circle_firstJoin_45 : decode b_Circle_firstJoin 45 = .ok (.iconst 1, 1) := by decide +kernel
theorem d_Circle_firstJoin_46 : decode b_Circle_firstJoin 46 = .ok (.iand, 1) := by decide +kernel
theorem d_Circle_firstJoin_47 : decode b_Circle_firstJoin 47 = .ok (.ifCond .eq 7, 3) := by decide +kernel
theorem d_Circle_firstJoin_50 : decode b_Circle_firstJoin 50 = .ok (.iconst 3, 1) := by decide +kernel
theorem d_Circle_firstJoin_51 : decode b_Circle_firstJoin 51 = .ok (.iload_n 1, 1) := by decide +kernel
theorem d_Circle_firstJoin_52 : decode b_Circle_firstJoin 52 = .ok (.imul, 1) := by decide +kernel
theorem d_Circle_firstJoin_53 : decode b_Circle_firstJoin 53 = .ok (.ireturn, 1) := by decide +kernel
theorem d_Circle_firstJoin_54 : decode b_Circle_firstJoin 54 = .ok (.iinc 1 1, 3) := by decide +kernel
theorem d_Circle_firstJoin_57 : decode b_Circle_firstJoin 57 = .ok (.goto (-55), 3) := by decide +kernel
theorem d_Circle_firstJoin_60 : decode b_Circle_firstJoin 60 = .ok (.iconst (-1), 1) := by decide +kernel
theorem d_Circle_firstJoin_61 : decode b_Circle_firstJoin 61 = .ok (.ireturn, 1) := by decide +kernel
def X_Circle_firstJoin_L2 (n : Nat) (M : Mem) : Nat → Int32 → Option (Int32 × Mem)
    | 0, _ => none
    | m + 1, v1 => (if (M.1 11 3) ≤ v1 then
    some ((-1), M)
    else
    gd (3 * v1) 12 (
      gd ((3 * v1) + 1) 12 (
        (if (((((M.1 15 1).toUInt32 >>> ((M.1 12 (3 * v1).toNatClampNeg).toUInt32 &&& Int32.toUInt32 31)).toInt32) &&& (((M.1 15 1).toUInt32 >>> ((M.1 12 ((3 * v1) + 1).toNatClampNeg).toUInt32 &&& Int32.toUInt32 31)).toInt32)) &&& 1) = 0 then
          X_Circle_firstJoin_L2 n M m (v1 + 1)
          else
          some ((3 * v1), M)))))
def X_Circle_firstJoin (n : Nat) (M : Mem) : Option (Int32 × Mem) :=
  X_Circle_firstJoin_L2 n M n 0
set_option maxRecDepth 20000 in
set_option maxHeartbeats 4000000 in
theorem X_Circle_firstJoin_L2_ok {n : Nat} {M : Mem} : ∀ (m : Nat) (v1 : Int32), J (mt_Circle_firstJoin) wI 2 [(0, Value.ref 11), (1, Value.int v1)] [] M (X_Circle_firstJoin_L2 n M m v1) := by
  intro m
  induction m with
  | zero => intro _; exact j_none
  | succ m ih =>
    intro v1
    show J _ _ _ _ _ _ ((if (M.1 11 3) ≤ v1 then
some ((-1), M)
else
gd (3 * v1) 12 (
gd ((3 * v1) + 1) 12 (
(if (((((M.1 15 1).toUInt32 >>> ((M.1 12 (3 * v1).toNatClampNeg).toUInt32 &&& Int32.toUInt32 31)).toInt32) &&& (((M.1 15 1).toUInt32 >>> ((M.1 12 ((3 * v1) + 1).toNatClampNeg).toUInt32 &&& Int32.toUInt32 31)).toInt32)) &&& 1) = 0 then
X_Circle_firstJoin_L2 n M m (v1 + 1)
else
some ((3 * v1), M))))))
    refine j_iload_n (pc := 2) (q := 1) d_Circle_firstJoin_2 rfl rfl ?_
    refine j_aload_n (pc := 3) (q := 0) d_Circle_firstJoin_3 rfl rfl ?_
    refine j_getI (pc := 4) d_Circle_firstJoin_4 fl_Circle_35 sx_11 (by decide) rfl ?_
    refine j_icmp_ge (pc := 7) (tgt := 60) d_Circle_firstJoin_7 (by decide) (fun _ => ?_) (fun _ => ?_)
    · refine j_iconst (pc := 60) d_Circle_firstJoin_60 k_i_m1 ?_
      exact j_ireturn (pc := 61) d_Circle_firstJoin_61 rfl
    · refine j_aload_n (pc := 10) (q := 0) d_Circle_firstJoin_10 rfl rfl ?_
      refine j_getA (pc := 11) d_Circle_firstJoin_11 fl_Circle_31 sx_11 (by decide) rfl ?_
      refine j_getI (pc := 14) d_Circle_firstJoin_14 fl_Circle_88 sx_15 (by decide) rfl ?_
      refine j_aload_n (pc := 17) (q := 0) d_Circle_firstJoin_17 rfl rfl ?_
      refine j_getA (pc := 18) d_Circle_firstJoin_18 fl_Circle_20 sx_11 (by decide) rfl ?_
      refine j_iconst (pc := 21) d_Circle_firstJoin_21 k_i_3 ?_
      refine j_iload_n (pc := 22) (q := 1) d_Circle_firstJoin_22 rfl rfl ?_
      refine j_imul (pc := 23) d_Circle_firstJoin_23 ?_
      refine j_iald (pc := 24) d_Circle_firstJoin_24 sx_12 (fun _ => ?_)
      refine j_iushr (pc := 25) d_Circle_firstJoin_25 ?_
      refine j_aload_n (pc := 26) (q := 0) d_Circle_firstJoin_26 rfl rfl ?_
      refine j_getA (pc := 27) d_Circle_firstJoin_27 fl_Circle_31 sx_11 (by decide) rfl ?_
      refine j_getI (pc := 30) d_Circle_firstJoin_30 fl_Circle_88 sx_15 (by decide) rfl ?_
      refine j_aload_n (pc := 33) (q := 0) d_Circle_firstJoin_33 rfl rfl ?_
      refine j_getA (pc := 34) d_Circle_firstJoin_34 fl_Circle_20 sx_11 (by decide) rfl ?_
      refine j_iconst (pc := 37) d_Circle_firstJoin_37 k_i_3 ?_
      refine j_iload_n (pc := 38) (q := 1) d_Circle_firstJoin_38 rfl rfl ?_
      refine j_imul (pc := 39) d_Circle_firstJoin_39 ?_
      refine j_iconst (pc := 40) d_Circle_firstJoin_40 k_i_1 ?_
      refine j_iadd (pc := 41) d_Circle_firstJoin_41 ?_
      refine j_iald (pc := 42) d_Circle_firstJoin_42 sx_12 (fun _ => ?_)
      refine j_iushr (pc := 43) d_Circle_firstJoin_43 ?_
      refine j_iand (pc := 44) d_Circle_firstJoin_44 ?_
      refine j_iconst (pc := 45) d_Circle_firstJoin_45 k_i_1 ?_
      refine j_iand (pc := 46) d_Circle_firstJoin_46 ?_
      refine j_if_eq (pc := 47) (tgt := 54) d_Circle_firstJoin_47 (by decide) (fun _ => ?_) (fun _ => ?_)
      · refine j_iinc (pc := 54) (q := 1) d_Circle_firstJoin_54 rfl (congrArg (v1 + ·) k_i_1) (by decide) rfl ?_
        refine j_goto (pc := 57) (tgt := 2) d_Circle_firstJoin_57 (by decide) ?_
        refine j_lv [1, 0] rfl ?_
        exact ih (v1 + 1)
      · refine j_iconst (pc := 50) d_Circle_firstJoin_50 k_i_3 ?_
        refine j_iload_n (pc := 51) (q := 1) d_Circle_firstJoin_51 rfl rfl ?_
        refine j_imul (pc := 52) d_Circle_firstJoin_52 ?_
        exact j_ireturn (pc := 53) d_Circle_firstJoin_53 rfl
set_option maxRecDepth 20000 in
set_option maxHeartbeats 4000000 in
theorem C_Circle_firstJoin (n : Nat)    (M : Mem) : Ct y_Circle_firstJoin mt_Circle_firstJoin wI [Value.ref 11] M (X_Circle_firstJoin n M) := by
  refine ct_of (by decide +kernel) rfl (Nat.le_of_ble_eq_true rfl) ?_
  show J _ _ _ [(0, Value.ref 11)] _ _ _
  unfold X_Circle_firstJoin
  refine j_iconst (pc := 0) d_Circle_firstJoin_0 k_i_0 ?_
  refine j_istore_n (pc := 1) d_Circle_firstJoin_1 rfl (by decide) rfl ?_
  refine j_lv [1, 0] rfl ?_
  exact X_Circle_firstJoin_L2_ok   n 0
-- Circle.settle ()V
def mt_Circle_settle : Mt := ("ShakeHands$Circle", b_Circle_settle, 3, none, 4, SHx)
theorem d_Circle_settle_0 : decode b_Circle_settle 0 = .ok (.aload_n 0, 1) := by decide +kernel
theorem d_Circle_settle_1 : decode b_Circle_settle 1 = .ok (.invokevirtual 81, 3) := by decide +kernel
theorem d_Circle_settle_4 : decode b_Circle_settle 4 = .ok (.istore_n 1, 1) := by decide +kernel
theorem d_Circle_settle_5 : decode b_Circle_settle 5 = .ok (.iconst 0, 1) := by decide +kernel
theorem d_Circle_settle_6 : decode b_Circle_settle 6 = .ok (.istore_n 2, 1) := by decide +kernel
theorem d_Circle_settle_7 : decode b_Circle_settle 7 = .ok (.iload_n 2, 1) := by decide +kernel
theorem d_Circle_settle_8 : decode b_Circle_settle 8 = .ok (.bipush 16, 2) := by decide +kernel
theorem d_Circle_settle_10 : decode b_Circle_settle 10 = .ok (.if_icmp .ge 61, 3) := by decide +kernel
theorem d_Circle_settle_13 : decode b_Circle_settle 13 = .ok (.iload_n 1, 1) := by decide +kernel
theorem d_Circle_settle_14 : decode b_Circle_settle 14 = .ok (.ifCond .lt 57, 3) := by decide +kernel
theorem d_Circle_settle_17 : decode b_Circle_settle 17 = .ok (.aload_n 0, 1) := by decide +kernel
theorem d_Circle_settle_18 : decode b_Circle_settle 18 = .ok (.getfield 31, 3) := by decide +kernel
theorem d_Circle_settle_21 : decode b_Circle_settle 21 = .ok (.aload_n 0, 1) := by decide +kernel
theorem d_Circle_settle_22 : decode b_Circle_settle 22 = .ok (.getfield 20, 3) := by decide +kernel
theorem d_Circle_settle_25 : decode b_Circle_settle 25 = .ok (.iload_n 1, 1) := by decide +kernel
theorem d_Circle_settle_26 : decode b_Circle_settle 26 = .ok (.iaload, 1) := by decide +kernel
theorem d_Circle_settle_27 : decode b_Circle_settle 27 = .ok (.invokevirtual 74, 3) := by decide +kernel
theorem d_Circle_settle_30 : decode b_Circle_settle 30 = .ok (.aload_n 0, 1) := by decide +kernel
theorem d_Circle_settle_31 : decode b_Circle_settle 31 = .ok (.getfield 31, 3) := by decide +kernel
theorem d_Circle_settle_34 : decode b_Circle_settle 34 = .ok (.aload_n 0, 1) := by decide +kernel
theorem d_Circle_settle_35 : decode b_Circle_settle 35 = .ok (.getfield 20, 3) := by decide +kernel
theorem d_Circle_settle_38 : decode b_Circle_settle 38 = .ok (.iload_n 1, 1) := by decide +kernel
theorem d_Circle_settle_39 : decode b_Circle_settle 39 = .ok (.iconst 1, 1) := by decide +kernel
theorem d_Circle_settle_40 : decode b_Circle_settle 40 = .ok (.iadd, 1) := by decide +kernel
theorem d_Circle_settle_41 : decode b_Circle_settle 41 = .ok (.iaload, 1) := by decide +kernel
theorem d_Circle_settle_42 : decode b_Circle_settle 42 = .ok (.invokevirtual 74, 3) := by decide +kernel
theorem d_Circle_settle_45 : decode b_Circle_settle 45 = .ok (.aload_n 0, 1) := by decide +kernel
theorem d_Circle_settle_46 : decode b_Circle_settle 46 = .ok (.getfield 31, 3) := by decide +kernel
theorem d_Circle_settle_49 : decode b_Circle_settle 49 = .ok (.aload_n 0, 1) := by decide +kernel
theorem d_Circle_settle_50 : decode b_Circle_settle 50 = .ok (.getfield 20, 3) := by decide +kernel
theorem d_Circle_settle_53 : decode b_Circle_settle 53 = .ok (.iload_n 1, 1) := by decide +kernel
theorem d_Circle_settle_54 : decode b_Circle_settle 54 = .ok (.iconst 2, 1) := by decide +kernel
theorem d_Circle_settle_55 : decode b_Circle_settle 55 = .ok (.iadd, 1) := by decide +kernel
theorem d_Circle_settle_56 : decode b_Circle_settle 56 = .ok (.iaload, 1) := by decide +kernel
theorem d_Circle_settle_57 : decode b_Circle_settle 57 = .ok (.invokevirtual 70, 3) := by decide +kernel
theorem d_Circle_settle_60 : decode b_Circle_settle 60 = .ok (.aload_n 0, 1) := by decide +kernel
theorem d_Circle_settle_61 : decode b_Circle_settle 61 = .ok (.invokevirtual 81, 3) := by decide +kernel
theorem d_Circle_settle_64 : decode b_Circle_settle 64 = .ok (.istore_n 1, 1) := by decide +kernel
theorem d_Circle_settle_65 : decode b_Circle_settle 65 = .ok (.iinc 2 1, 3) := by decide +kernel
theorem d_Circle_settle_68 : decode b_Circle_settle 68 = .ok (.goto (-61), 3) := by decide +kernel
theorem d_Circle_settle_71 : decode b_Circle_settle 71 = .ok (.aload_n 0, 1) := by decide +kernel
theorem d_Circle_settle_72 : decode b_Circle_settle 72 = .ok (.getfield 31, 3) := by decide +kernel
theorem d_Circle_settle_75 : decode b_Circle_settle 75 = .ok (.aload_n 0, 1) := by decide +kernel
theorem d_Circle_settle_76 : decode b_Circle_settle 76 = .ok (.getfield 17, 3) := by decide +kernel
theorem d_Circle_settle_79 : decode b_Circle_settle 79 = .ok (.invokevirtual 85, 3) := by decide +kernel
theorem d_Circle_settle_82 : decode b_Circle_settle 82 = .ok (.return_, 1) := by decide +kernel
def X_Circle_settle_L7 (n : Nat) (kx71 : Mem → Option (Unit × Mem)) : Nat → Int32 → Int32 → Mem → Option (Unit × Mem)
    | 0, _, _, _ => none
    | m + 1, v1, v2, M => (if 16 ≤ v2 then
    kx71 M
    else
    (if v1 < 0 then
      kx71 M
      else
      gd v1 12 (
        bd (X_Row_drop n 15 (M.1 12 v1.toNatClampNeg) M) fun _ M4 =>
        gd (v1 + 1) 12 (
          bd (X_Row_drop n 15 (M4.1 12 (v1 + 1).toNatClampNeg) M4) fun _ M6 =>
          gd (v1 + 2) 12 (
            bd (X_Row_add n 15 (M6.1 12 (v1 + 2).toNatClampNeg) M6) fun _ M8 =>
            bd (X_Circle_firstJoin n M8) fun r9 M10 =>
            X_Circle_settle_L7 n kx71 m r9 (v2 + 1) M10)))))
def X_Circle_settle (n : Nat) (M : Mem) : Option (Unit × Mem) :=
  bd (X_Circle_firstJoin n M) fun r1 M2 =>
  X_Circle_settle_L7 n (fun M11 => bd (X_Row_shorten n 15 (M11.1 11 1) M11) fun _ M13 =>
    some ((), M13)) n r1 0 M2
set_option maxRecDepth 20000 in
set_option maxHeartbeats 4000000 in
theorem X_Circle_settle_L7_ok {n : Nat} {kx71 : Mem → Option (Unit × Mem)} (hkx71 : ∀ (M : Mem), J (mt_Circle_settle) wU 71 [(0, Value.ref 11)] [] M (kx71 M)) : ∀ (m : Nat) (v1 : Int32) (v2 : Int32) (M : Mem), J (mt_Circle_settle) wU 7 [(0, Value.ref 11), (1, Value.int v1), (2, Value.int v2)] [] M (X_Circle_settle_L7 n kx71 m v1 v2 M) := by
  intro m
  induction m with
  | zero => intro _ _ _; exact j_none
  | succ m ih =>
    intro v1 v2 M
    show J _ _ _ _ _ _ ((if 16 ≤ v2 then
kx71 M
else
(if v1 < 0 then
kx71 M
else
gd v1 12 (
bd (X_Row_drop n 15 (M.1 12 v1.toNatClampNeg) M) fun _ M4 =>
gd (v1 + 1) 12 (
bd (X_Row_drop n 15 (M4.1 12 (v1 + 1).toNatClampNeg) M4) fun _ M6 =>
gd (v1 + 2) 12 (
bd (X_Row_add n 15 (M6.1 12 (v1 + 2).toNatClampNeg) M6) fun _ M8 =>
bd (X_Circle_firstJoin n M8) fun r9 M10 =>
X_Circle_settle_L7 n kx71 m r9 (v2 + 1) M10))))))
    refine j_iload_n (pc := 7) (q := 2) d_Circle_settle_7 rfl rfl ?_
    refine j_bipush (pc := 8) d_Circle_settle_8 k_b_16 ?_
    refine j_icmp_ge (pc := 10) (tgt := 71) d_Circle_settle_10 (by decide) (fun _ => ?_) (fun _ => ?_)
    · refine j_lv [0] rfl ?_
      exact hkx71 M
    · refine j_iload_n (pc := 13) (q := 1) d_Circle_settle_13 rfl rfl ?_
      refine j_if_lt (pc := 14) (tgt := 71) d_Circle_settle_14 (by decide) (fun _ => ?_) (fun _ => ?_)
      · refine j_lv [0] rfl ?_
        exact hkx71 M
      · refine j_aload_n (pc := 17) (q := 0) d_Circle_settle_17 rfl rfl ?_
        refine j_getA (pc := 18) d_Circle_settle_18 fl_Circle_31 sx_11 (by decide) rfl ?_
        refine j_aload_n (pc := 21) (q := 0) d_Circle_settle_21 rfl rfl ?_
        refine j_getA (pc := 22) d_Circle_settle_22 fl_Circle_20 sx_11 (by decide) rfl ?_
        refine j_iload_n (pc := 25) (q := 1) d_Circle_settle_25 rfl rfl ?_
        refine j_iald (pc := 26) d_Circle_settle_26 sx_12 (fun _ => ?_)
        refine j_callV1 (pc := 27) d_Circle_settle_27 (C_Row_drop n 15 sx_15 (M.1 12 v1.toNatClampNeg) M) cV_Circle_74 cd_Row_drop dn_Row_drop rfl (by decide) (Nat.le_of_ble_eq_true rfl) (Nat.le_of_ble_eq_true rfl) nr_U sx_15 (by decide) rfl (fun r3 M4 => ?_)
        refine j_aload_n (pc := 30) (q := 0) d_Circle_settle_30 rfl rfl ?_
        refine j_getA (pc := 31) d_Circle_settle_31 fl_Circle_31 sx_11 (by decide) rfl ?_
        refine j_aload_n (pc := 34) (q := 0) d_Circle_settle_34 rfl rfl ?_
        refine j_getA (pc := 35) d_Circle_settle_35 fl_Circle_20 sx_11 (by decide) rfl ?_
        refine j_iload_n (pc := 38) (q := 1) d_Circle_settle_38 rfl rfl ?_
        refine j_iconst (pc := 39) d_Circle_settle_39 k_i_1 ?_
        refine j_iadd (pc := 40) d_Circle_settle_40 ?_
        refine j_iald (pc := 41) d_Circle_settle_41 sx_12 (fun _ => ?_)
        refine j_callV1 (pc := 42) d_Circle_settle_42 (C_Row_drop n 15 sx_15 (M4.1 12 (v1 + 1).toNatClampNeg) M4) cV_Circle_74 cd_Row_drop dn_Row_drop rfl (by decide) (Nat.le_of_ble_eq_true rfl) (Nat.le_of_ble_eq_true rfl) nr_U sx_15 (by decide) rfl (fun r5 M6 => ?_)
        refine j_aload_n (pc := 45) (q := 0) d_Circle_settle_45 rfl rfl ?_
        refine j_getA (pc := 46) d_Circle_settle_46 fl_Circle_31 sx_11 (by decide) rfl ?_
        refine j_aload_n (pc := 49) (q := 0) d_Circle_settle_49 rfl rfl ?_
        refine j_getA (pc := 50) d_Circle_settle_50 fl_Circle_20 sx_11 (by decide) rfl ?_
        refine j_iload_n (pc := 53) (q := 1) d_Circle_settle_53 rfl rfl ?_
        refine j_iconst (pc := 54) d_Circle_settle_54 k_i_2 ?_
        refine j_iadd (pc := 55) d_Circle_settle_55 ?_
        refine j_iald (pc := 56) d_Circle_settle_56 sx_12 (fun _ => ?_)
        refine j_callV1 (pc := 57) d_Circle_settle_57 (C_Row_add n 15 sx_15 (M6.1 12 (v1 + 2).toNatClampNeg) M6) cV_Circle_70 cd_Row_add dn_Row_add rfl (by decide) (Nat.le_of_ble_eq_true rfl) (Nat.le_of_ble_eq_true rfl) nr_U sx_15 (by decide) rfl (fun r7 M8 => ?_)
        refine j_aload_n (pc := 60) (q := 0) d_Circle_settle_60 rfl rfl ?_
        refine j_callV0 (pc := 61) d_Circle_settle_61 (C_Circle_firstJoin n M8) cV_Circle_81 cd_Circle_firstJoin dn_Circle_firstJoin rfl (by decide) (Nat.le_of_ble_eq_true rfl) (Nat.le_of_ble_eq_true rfl) nr_I sx_11 (by decide) rfl (fun r9 M10 => ?_)
        refine j_istore_n (pc := 64) d_Circle_settle_64 rfl (by decide) rfl ?_
        refine j_iinc (pc := 65) (q := 2) d_Circle_settle_65 rfl (congrArg (v2 + ·) k_i_1) (by decide) rfl ?_
        refine j_goto (pc := 68) (tgt := 7) d_Circle_settle_68 (by decide) ?_
        refine j_lv [2, 1, 0] rfl ?_
        exact ih r9 (v2 + 1) M10
set_option maxRecDepth 20000 in
set_option maxHeartbeats 4000000 in
theorem C_Circle_settle (n : Nat)    (M : Mem) : Ct y_Circle_settle mt_Circle_settle wU [Value.ref 11] M (X_Circle_settle n M) := by
  refine ct_of (by decide +kernel) rfl (Nat.le_of_ble_eq_true rfl) ?_
  show J _ _ _ [(0, Value.ref 11)] _ _ _
  unfold X_Circle_settle
  refine j_aload_n (pc := 0) (q := 0) d_Circle_settle_0 rfl rfl ?_
  refine j_callV0 (pc := 1) d_Circle_settle_1 (C_Circle_firstJoin n M) cV_Circle_81 cd_Circle_firstJoin dn_Circle_firstJoin rfl (by decide) (Nat.le_of_ble_eq_true rfl) (Nat.le_of_ble_eq_true rfl) nr_I sx_11 (by decide) rfl (fun r1 M2 => ?_)
  refine j_istore_n (pc := 4) d_Circle_settle_4 rfl (by decide) rfl ?_
  refine j_iconst (pc := 5) d_Circle_settle_5 k_i_0 ?_
  refine j_istore_n (pc := 6) d_Circle_settle_6 rfl (by decide) rfl ?_
  refine j_lv [2, 1, 0] rfl ?_
  refine X_Circle_settle_L7_ok  (fun M11 => ?_) n r1 0 M2
  refine j_aload_n (pc := 71) (q := 0) d_Circle_settle_71 rfl rfl ?_
  refine j_getA (pc := 72) d_Circle_settle_72 fl_Circle_31 sx_11 (by decide) rfl ?_
  refine j_aload_n (pc := 75) (q := 0) d_Circle_settle_75 rfl rfl ?_
  refine j_getI (pc := 76) d_Circle_settle_76 fl_Circle_17 sx_11 (by decide) rfl ?_
  refine j_callV1 (pc := 79) d_Circle_settle_79 (C_Row_shorten n 15 sx_15 (M11.1 11 1) M11) cV_Circle_85 cd_Row_shorten dn_Row_shorten rfl (by decide) (Nat.le_of_ble_eq_true rfl) (Nat.le_of_ble_eq_true rfl) nr_U sx_15 (by decide) rfl (fun r12 M13 => ?_)
  exact j_return (pc := 82) d_Circle_settle_82 rfl
-- Circle.taught (JI)J
def mt_Circle_taught : Mt := ("ShakeHands$Circle", b_Circle_taught, 4, some .long, 5, SHx)
theorem d_Circle_taught_0 : decode b_Circle_taught 0 = .ok (.aload_n 0, 1) := by decide +kernel
theorem d_Circle_taught_1 : decode b_Circle_taught 1 = .ok (.getfield 31, 3) := by decide +kernel
theorem d_Circle_taught_4 : decode b_Circle_taught 4 = .ok (.lload_n 1, 1) := by decide +kernel
theorem d_Circle_taught_5 : decode b_Circle_taught 5 = .ok (.invokevirtual 56, 3) := by decide +kernel
theorem d_Circle_taught_8 : decode b_Circle_taught 8 = .ok (.aload_n 0, 1) := by decide +kernel
theorem d_Circle_taught_9 : decode b_Circle_taught 9 = .ok (.getfield 31, 3) := by decide +kernel
theorem d_Circle_taught_12 : decode b_Circle_taught 12 = .ok (.iload_n 3, 1) := by decide +kernel
theorem d_Circle_taught_13 : decode b_Circle_taught 13 = .ok (.invokevirtual 70, 3) := by decide +kernel
theorem d_Circle_taught_16 : decode b_Circle_taught 16 = .ok (.aload_n 0, 1) := by decide +kernel
theorem d_Circle_taught_17 : decode b_Circle_taught 17 = .ok (.invokevirtual 63, 3) := by decide +kernel
theorem d_Circle_taught_20 : decode b_Circle_taught 20 = .ok (.aload_n 0, 1) := by decide +kernel
theorem d_Circle_taught_21 : decode b_Circle_taught 21 = .ok (.getfield 31, 3) := by decide +kernel
theorem d_Circle_taught_24 : decode b_Circle_taught 24 = .ok (.invokevirtual 66, 3) := by decide +kernel
theorem d_Circle_taught_27 : decode b_Circle_taught 27 = .ok (.lreturn, 1) := by decide +kernel
def X_Circle_taught (n : Nat) (p1 : Int64) (p3 : Int32) (M : Mem) : Option (Int64 × Mem) :=
  bd (X_Row_take n 15 p1 M) fun _ M2 =>
  bd (X_Row_add n 15 p3 M2) fun _ M4 =>
  bd (X_Circle_settle n M4) fun _ M6 =>
  bd (X_Row_atRest n 15 M6) fun r7 M8 =>
  some (r7, M8)
set_option maxRecDepth 20000 in
set_option maxHeartbeats 4000000 in
theorem C_Circle_taught (n : Nat)   (p1 : Int64) (p3 : Int32) (M : Mem) : Ct y_Circle_taught mt_Circle_taught wL [Value.ref 11, Value.long p1, Value.int p3] M (X_Circle_taught n p1 p3 M) := by
  refine ct_of (by decide +kernel) rfl (Nat.le_of_ble_eq_true rfl) ?_
  show J _ _ _ [(0, Value.ref 11), (1, Value.long p1), (3, Value.int p3)] _ _ _
  unfold X_Circle_taught
  refine j_aload_n (pc := 0) (q := 0) d_Circle_taught_0 rfl rfl ?_
  refine j_getA (pc := 1) d_Circle_taught_1 fl_Circle_31 sx_11 (by decide) rfl ?_
  refine j_lload_n (pc := 4) (q := 1) d_Circle_taught_4 rfl rfl ?_
  refine j_callV1 (pc := 5) d_Circle_taught_5 (C_Row_take n 15 sx_15 p1 M) cV_Circle_56 cd_Row_take dn_Row_take rfl (by decide) (Nat.le_of_ble_eq_true rfl) (Nat.le_of_ble_eq_true rfl) nr_U sx_15 (by decide) rfl (fun r1 M2 => ?_)
  refine j_aload_n (pc := 8) (q := 0) d_Circle_taught_8 rfl rfl ?_
  refine j_getA (pc := 9) d_Circle_taught_9 fl_Circle_31 sx_11 (by decide) rfl ?_
  refine j_iload_n (pc := 12) (q := 2) d_Circle_taught_12 rfl rfl ?_
  refine j_callV1 (pc := 13) d_Circle_taught_13 (C_Row_add n 15 sx_15 p3 M2) cV_Circle_70 cd_Row_add dn_Row_add rfl (by decide) (Nat.le_of_ble_eq_true rfl) (Nat.le_of_ble_eq_true rfl) nr_U sx_15 (by decide) rfl (fun r3 M4 => ?_)
  refine j_aload_n (pc := 16) (q := 0) d_Circle_taught_16 rfl rfl ?_
  refine j_callV0 (pc := 17) d_Circle_taught_17 (C_Circle_settle n M4) cV_Circle_63 cd_Circle_settle dn_Circle_settle rfl (by decide) (Nat.le_of_ble_eq_true rfl) (Nat.le_of_ble_eq_true rfl) nr_U sx_11 (by decide) rfl (fun r5 M6 => ?_)
  refine j_aload_n (pc := 20) (q := 0) d_Circle_taught_20 rfl rfl ?_
  refine j_getA (pc := 21) d_Circle_taught_21 fl_Circle_31 sx_11 (by decide) rfl ?_
  refine j_callV0 (pc := 24) d_Circle_taught_24 (C_Row_atRest n 15 sx_15 M6) cV_Circle_66 cd_Row_atRest dn_Row_atRest rfl (by decide) (Nat.le_of_ble_eq_true rfl) (Nat.le_of_ble_eq_true rfl) nr_L sx_15 (by decide) rfl (fun r7 M8 => ?_)
  exact j_lreturn (pc := 27) d_Circle_taught_27 rfl
-- Circle.without (JI)J
def mt_Circle_without : Mt := ("ShakeHands$Circle", b_Circle_without, 4, some .long, 4, SHx)
theorem d_Circle_without_0 : decode b_Circle_without 0 = .ok (.aload_n 0, 1) := by decide +kernel
theorem d_Circle_without_1 : decode b_Circle_without 1 = .ok (.getfield 31, 3) := by decide +kernel
theorem d_Circle_without_4 : decode b_Circle_without 4 = .ok (.lload_n 1, 1) := by decide +kernel
theorem d_Circle_without_5 : decode b_Circle_without 5 = .ok (.invokevirtual 56, 3) := by decide +kernel
theorem d_Circle_without_8 : decode b_Circle_without 8 = .ok (.aload_n 0, 1) := by decide +kernel
theorem d_Circle_without_9 : decode b_Circle_without 9 = .ok (.getfield 31, 3) := by decide +kernel
theorem d_Circle_without_12 : decode b_Circle_without 12 = .ok (.iload_n 3, 1) := by decide +kernel
theorem d_Circle_without_13 : decode b_Circle_without 13 = .ok (.invokevirtual 74, 3) := by decide +kernel
theorem d_Circle_without_16 : decode b_Circle_without 16 = .ok (.aload_n 0, 1) := by decide +kernel
theorem d_Circle_without_17 : decode b_Circle_without 17 = .ok (.getfield 31, 3) := by decide +kernel
theorem d_Circle_without_20 : decode b_Circle_without 20 = .ok (.invokevirtual 66, 3) := by decide +kernel
theorem d_Circle_without_23 : decode b_Circle_without 23 = .ok (.lreturn, 1) := by decide +kernel
def X_Circle_without (n : Nat) (p1 : Int64) (p3 : Int32) (M : Mem) : Option (Int64 × Mem) :=
  bd (X_Row_take n 15 p1 M) fun _ M2 =>
  bd (X_Row_drop n 15 p3 M2) fun _ M4 =>
  bd (X_Row_atRest n 15 M4) fun r5 M6 =>
  some (r5, M6)
set_option maxRecDepth 20000 in
set_option maxHeartbeats 4000000 in
theorem C_Circle_without (n : Nat)   (p1 : Int64) (p3 : Int32) (M : Mem) : Ct y_Circle_without mt_Circle_without wL [Value.ref 11, Value.long p1, Value.int p3] M (X_Circle_without n p1 p3 M) := by
  refine ct_of (by decide +kernel) rfl (Nat.le_of_ble_eq_true rfl) ?_
  show J _ _ _ [(0, Value.ref 11), (1, Value.long p1), (3, Value.int p3)] _ _ _
  unfold X_Circle_without
  refine j_aload_n (pc := 0) (q := 0) d_Circle_without_0 rfl rfl ?_
  refine j_getA (pc := 1) d_Circle_without_1 fl_Circle_31 sx_11 (by decide) rfl ?_
  refine j_lload_n (pc := 4) (q := 1) d_Circle_without_4 rfl rfl ?_
  refine j_callV1 (pc := 5) d_Circle_without_5 (C_Row_take n 15 sx_15 p1 M) cV_Circle_56 cd_Row_take dn_Row_take rfl (by decide) (Nat.le_of_ble_eq_true rfl) (Nat.le_of_ble_eq_true rfl) nr_U sx_15 (by decide) rfl (fun r1 M2 => ?_)
  refine j_aload_n (pc := 8) (q := 0) d_Circle_without_8 rfl rfl ?_
  refine j_getA (pc := 9) d_Circle_without_9 fl_Circle_31 sx_11 (by decide) rfl ?_
  refine j_iload_n (pc := 12) (q := 2) d_Circle_without_12 rfl rfl ?_
  refine j_callV1 (pc := 13) d_Circle_without_13 (C_Row_drop n 15 sx_15 p3 M2) cV_Circle_74 cd_Row_drop dn_Row_drop rfl (by decide) (Nat.le_of_ble_eq_true rfl) (Nat.le_of_ble_eq_true rfl) nr_U sx_15 (by decide) rfl (fun r3 M4 => ?_)
  refine j_aload_n (pc := 16) (q := 0) d_Circle_without_16 rfl rfl ?_
  refine j_getA (pc := 17) d_Circle_without_17 fl_Circle_31 sx_11 (by decide) rfl ?_
  refine j_callV0 (pc := 20) d_Circle_without_20 (C_Row_atRest n 15 sx_15 M4) cV_Circle_66 cd_Row_atRest dn_Row_atRest rfl (by decide) (Nat.le_of_ble_eq_true rfl) (Nat.le_of_ble_eq_true rfl) nr_L sx_15 (by decide) rfl (fun r5 M6 => ?_)
  exact j_lreturn (pc := 23) d_Circle_without_23 rfl
-- Circle.meet ([JII)Z
def mt_Circle_meet : Mt := ("ShakeHands$Circle", b_Circle_meet, 9, some .boolean, 5, SHx)
theorem d_Circle_meet_0 : decode b_Circle_meet 0 = .ok (.iload_n 3, 1) := by decide +kernel
theorem d_Circle_meet_1 : decode b_Circle_meet 1 = .ok (.ifCond .lt 9, 3) := by decide +kernel
theorem d_Circle_meet_4 : decode b_Circle_meet 4 = .ok (.iload_n 3, 1) := by decide +kernel
theorem d_Circle_meet_5 : decode b_Circle_meet 5 = .ok (.bipush 15, 2) := by decide +kernel
theorem d_Circle_meet_7 : decode b_Circle_meet 7 = .ok (.if_icmp .lt 5, 3) := by decide +kernel
theorem d_Circle_meet_10 : decode b_Circle_meet 10 = .ok (.iconst 0, 1) := by decide +kernel
theorem d_Circle_meet_11 : decode b_Circle_meet 11 = .ok (.ireturn, 1) := by decide +kernel
theorem d_Circle_meet_12 : decode b_Circle_meet 12 = .ok (.getstatic 50, 3) := by decide +kernel
theorem d_Circle_meet_15 : decode b_Circle_meet 15 = .ok (.iload_n 3, 1) := by decide +kernel
theorem d_Circle_meet_16 : decode b_Circle_meet 16 = .ok (.iaload, 1) := by decide +kernel
theorem d_Circle_meet_17 : decode b_Circle_meet 17 = .ok (.istore 4, 2) := by decide +kernel
theorem d_Circle_meet_19 : decode b_Circle_meet 19 = .ok (.getstatic 53, 3) := by decide +kernel
theorem d_Circle_meet_22 : decode b_Circle_meet 22 = .ok (.iload_n 3, 1) := by decide +kernel
theorem d_Circle_meet_23 : decode b_Circle_meet 23 = .ok (.iaload, 1) := by decide +kernel
theorem d_Circle_meet_24 : decode b_Circle_meet 24 = .ok (.istore 5, 2) := by decide +kernel
theorem d_Circle_meet_26 : decode b_Circle_meet 26 = .ok (.iload_n 2, 1) := by decide +kernel
theorem d_Circle_meet_27 : decode b_Circle_meet 27 = .ok (.iload 4, 2) := by decide +kernel
theorem d_Circle_meet_29 : decode b_Circle_meet 29 = .ok (.iushr, 1) := by decide +kernel
theorem d_Circle_meet_30 : decode b_Circle_meet 30 = .ok (.iload_n 2, 1) := by decide +kernel
theorem d_Circle_meet_31 : decode b_Circle_meet 31 = .ok (.iload 5, 2) := by decide +kernel
theorem d_Circle_meet_33 : decode b_Circle_meet 33 = .ok (.iushr, 1) := by decide +kernel
theorem d_Circle_meet_34 : decode b_Circle_meet 34 = .ok (.ior, 1) := by decide +kernel
theorem d_Circle_meet_35 : decode b_Circle_meet 35 = .ok (.iconst 1, 1) := by decide +kernel
theorem d_Circle_meet_36 : decode b_Circle_meet 36 = .ok (.iand, 1) := by decide +kernel
theorem d_Circle_meet_37 : decode b_Circle_meet 37 = .ok (.ifCond .eq 5, 3) := by decide +kernel
theorem d_Circle_meet_40 : decode b_Circle_meet 40 = .ok (.iconst 0, 1) := by decide +kernel
theorem d_Circle_meet_41 : decode b_Circle_meet 41 = .ok (.ireturn, 1) := by decide +kernel
theorem d_Circle_meet_42 : decode b_Circle_meet 42 = .ok (.aload_n 0, 1) := by decide +kernel
theorem d_Circle_meet_43 : decode b_Circle_meet 43 = .ok (.getfield 31, 3) := by decide +kernel
theorem d_Circle_meet_46 : decode b_Circle_meet 46 = .ok (.aload_n 1, 1) := by decide +kernel
theorem d_Circle_meet_47 : decode b_Circle_meet 47 = .ok (.iload 4, 2) := by decide +kernel
theorem d_Circle_meet_49 : decode b_Circle_meet 49 = .ok (.laload, 1) := by decide +kernel
theorem d_Circle_meet_50 : decode b_Circle_meet 50 = .ok (.invokevirtual 56, 3) := by decide +kernel
theorem d_Circle_meet_53 : decode b_Circle_meet 53 = .ok (.aload_n 0, 1) := by decide +kernel
theorem d_Circle_meet_54 : decode b_Circle_meet 54 = .ok (.getfield 31, 3) := by decide +kernel
theorem d_Circle_meet_57 : decode b_Circle_meet 57 = .ok (.aload_n 1, 1) := by decide +kernel
theorem d_Circle_meet_58 : decode b_Circle_meet 58 = .ok (.iload 5, 2) := by decide +kernel
theorem d_Circle_meet_60 : decode b_Circle_meet 60 = .ok (.laload, 1) := by decide +kernel
theorem d_Circle_meet_61 : decode b_Circle_meet 61 = .ok (.invokevirtual 60, 3) := by decide +kernel
theorem d_Circle_meet_64 : decode b_Circle_meet 64 = .ok (.aload_n 0, 1) := by decide +kernel
theorem d_Circle_meet_65 : decode b_Circle_meet 65 = .ok (.invokevirtual 63, 3) := by decide +kernel
theorem d_Circle_meet_68 : decode b_Circle_meet 68 = .ok (.aload_n 0, 1) := by decide +kernel
theorem d_Circle_meet_69 : decode b_Circle_meet 69 = .ok (.getfield 31, 3) := by decide +kernel
theorem d_Circle_meet_72 : decode b_Circle_meet 72 = .ok (.invokevirtual 66, 3) := by decide +kernel
theorem d_Circle_meet_75 : decode b_Circle_meet 75 = .ok (.lstore 6, 2) := by decide +kernel
theorem d_Circle_meet_77 : decode b_Circle_meet 77 = .ok (.lload 6, 2) := by decide +kernel
theorem d_Circle_meet_79 : decode b_Circle_meet 79 = .ok (.aload_n 1, 1) := by decide +kernel
theorem d_Circle_meet_80 : decode b_Circle_meet 80 = .ok (.iload 4, 2) := by decide +kernel
theorem d_Circle_meet_82 : decode b_Circle_meet 82 = .ok (.laload, 1) := by decide +kernel
theorem d_Circle_meet_83 : decode b_Circle_meet 83 = .ok (.lcmp, 1) := by decide +kernel
theorem d_Circle_meet_84 : decode b_Circle_meet 84 = .ok (.ifCond .ne 13, 3) := by decide +kernel
theorem d_Circle_meet_87 : decode b_Circle_meet 87 = .ok (.lload 6, 2) := by decide +kernel
theorem d_Circle_meet_89 : decode b_Circle_meet 89 = .ok (.aload_n 1, 1) := by decide +kernel
theorem d_Circle_meet_90 : decode b_Circle_meet 90 = .ok (.iload 5, 2) := by decide +kernel
theorem d_Circle_meet_92 : decode b_Circle_meet 92 = .ok (.laload, 1) := by decide +kernel
theorem d_Circle_meet_93 : decode b_Circle_meet 93 = .ok (.lcmp, 1) := by decide +kernel
theorem d_Circle_meet_94 : decode b_Circle_meet 94 = .ok (.ifCond .eq 7, 3) := by decide +kernel
theorem d_Circle_meet_97 : decode b_Circle_meet 97 = .ok (.iconst 1, 1) := by decide +kernel
theorem d_Circle_meet_98 : decode b_Circle_meet 98 = .ok (.goto 4, 3) := by decide +kernel
theorem d_Circle_meet_101 : decode b_Circle_meet 101 = .ok (.iconst 0, 1) := by decide +kernel
theorem d_Circle_meet_102 : decode b_Circle_meet 102 = .ok (.istore 8, 2) := by decide +kernel
theorem d_Circle_meet_104 : decode b_Circle_meet 104 = .ok (.aload_n 1, 1) := by decide +kernel
theorem d_Circle_meet_105 : decode b_Circle_meet 105 = .ok (.iload 4, 2) := by decide +kernel
theorem d_Circle_meet_107 : decode b_Circle_meet 107 = .ok (.lload 6, 2) := by decide +kernel
theorem d_Circle_meet_109 : decode b_Circle_meet 109 = .ok (.lastore, 1) := by decide +kernel
theorem d_Circle_meet_110 : decode b_Circle_meet 110 = .ok (.aload_n 1, 1) := by decide +kernel
theorem d_Circle_meet_111 : decode b_Circle_meet 111 = .ok (.iload 5, 2) := by decide +kernel
theorem d_Circle_meet_113 : decode b_Circle_meet 113 = .ok (.lload 6, 2) := by decide +kernel
theorem d_Circle_meet_115 : decode b_Circle_meet 115 = .ok (.lastore, 1) := by decide +kernel
theorem d_Circle_meet_116 : decode b_Circle_meet 116 = .ok (.iload 8, 2) := by decide +kernel
theorem d_Circle_meet_118 : decode b_Circle_meet 118 = .ok (.ireturn, 1) := by decide +kernel
def X_Circle_meet (n : Nat) (rows : Nat) (p2 : Int32) (p3 : Int32) (M : Mem) : Option (Int32 × Mem) :=
  (if p3 < 0 then
    some (0, M)
    else
    (if p3 < 15 then
      gd p3 15 (
        nm (lsr p3.toNatClampNeg) fun x1 =>
        gd p3 15 (
          nm (grt p3.toNatClampNeg) fun x2 =>
          (if ((((p2.toUInt32 >>> (x1.toUInt32 &&& Int32.toUInt32 31)).toInt32) ||| ((p2.toUInt32 >>> (x2.toUInt32 &&& Int32.toUInt32 31)).toInt32)) &&& 1) = 0 then
            gd x1 6 (
              bd (X_Row_take n 15 (M.2 rows x1.toNatClampNeg) M) fun _ M4 =>
              gd x2 6 (
                bd (X_Row_addAll n 15 (M4.2 rows x2.toNatClampNeg) M4) fun _ M6 =>
                bd (X_Circle_settle n M6) fun _ M8 =>
                bd (X_Row_atRest n 15 M8) fun r9 M10 =>
                gd x1 6 (
                  nm (fun (u11 : Int32) => gd x1 6 (
                      gd x2 6 (
                        zr u11 (sl (sl M10 rows (x1.toNatClampNeg) r9) rows (x2.toNatClampNeg) r9)))) fun k102 =>
                  (if (lg_cmp r9 (M10.2 rows x1.toNatClampNeg)) = 0 then
                    gd x2 6 (
                      (if (lg_cmp r9 (M10.2 rows x2.toNatClampNeg)) = 0 then
                        k102 0
                        else
                        k102 1))
                    else
                    k102 1))))
            else
            some (0, M))))
      else
      some (0, M)))
set_option maxRecDepth 20000 in
set_option maxHeartbeats 4000000 in
theorem C_Circle_meet (n : Nat) (rows : Nat) (h_rows : SHx[rows]? = some (103, [6])) (p2 : Int32) (p3 : Int32) (M : Mem) : Ct y_Circle_meet mt_Circle_meet wI [Value.ref 11, Value.ref rows, Value.int p2, Value.int p3] M (X_Circle_meet n rows p2 p3 M) := by
  refine ct_of (by decide +kernel) rfl (Nat.le_of_ble_eq_true rfl) ?_
  show J _ _ _ [(0, Value.ref 11), (1, Value.ref rows), (2, Value.int p2), (3, Value.int p3)] _ _ _
  unfold X_Circle_meet
  refine j_iload_n (pc := 0) (q := 3) d_Circle_meet_0 rfl rfl ?_
  refine j_if_lt (pc := 1) (tgt := 10) d_Circle_meet_1 (by decide) (fun _ => ?_) (fun _ => ?_)
  · refine j_iconst (pc := 10) d_Circle_meet_10 k_i_0 ?_
    exact j_zreturn (pc := 11) d_Circle_meet_11 rfl rfl
  · refine j_iload_n (pc := 4) (q := 3) d_Circle_meet_4 rfl rfl ?_
    refine j_bipush (pc := 5) d_Circle_meet_5 k_b_15 ?_
    refine j_icmp_lt (pc := 7) (tgt := 12) d_Circle_meet_7 (by decide) (fun _ => ?_) (fun _ => ?_)
    · refine j_gets200 (pc := 12) d_Circle_meet_12 gs_Circle_50 ?_
      refine j_iload_n (pc := 15) (q := 3) d_Circle_meet_15 rfl rfl ?_
      refine j_ialdS200 (pc := 16) d_Circle_meet_16 (fun _ => ?_)
      refine j_nmi (fun x1 => ?_)
      refine j_istore (pc := 17) d_Circle_meet_17 (by decide) rfl ?_
      refine j_gets201 (pc := 19) d_Circle_meet_19 gs_Circle_53 ?_
      refine j_iload_n (pc := 22) (q := 4) d_Circle_meet_22 rfl rfl ?_
      refine j_ialdS201 (pc := 23) d_Circle_meet_23 (fun _ => ?_)
      refine j_nmi (fun x2 => ?_)
      refine j_istore (pc := 24) d_Circle_meet_24 (by decide) rfl ?_
      refine j_iload_n (pc := 26) (q := 4) d_Circle_meet_26 rfl rfl ?_
      refine j_iload (pc := 27) (q := 1) d_Circle_meet_27 rfl ?_
      refine j_iushr (pc := 29) d_Circle_meet_29 ?_
      refine j_iload_n (pc := 30) (q := 4) d_Circle_meet_30 rfl rfl ?_
      refine j_iload (pc := 31) (q := 0) d_Circle_meet_31 rfl ?_
      refine j_iushr (pc := 33) d_Circle_meet_33 ?_
      refine j_ior (pc := 34) d_Circle_meet_34 ?_
      refine j_iconst (pc := 35) d_Circle_meet_35 k_i_1 ?_
      refine j_iand (pc := 36) d_Circle_meet_36 ?_
      refine j_if_eq (pc := 37) (tgt := 42) d_Circle_meet_37 (by decide) (fun _ => ?_) (fun _ => ?_)
      · refine j_aload_n (pc := 42) (q := 2) d_Circle_meet_42 rfl rfl ?_
        refine j_getA (pc := 43) d_Circle_meet_43 fl_Circle_31 sx_11 (by decide) rfl ?_
        refine j_aload_n (pc := 46) (q := 3) d_Circle_meet_46 rfl rfl ?_
        refine j_iload (pc := 47) (q := 1) d_Circle_meet_47 rfl ?_
        refine j_lald (pc := 49) d_Circle_meet_49 h_rows (fun _ => ?_)
        refine j_callV1 (pc := 50) d_Circle_meet_50 (C_Row_take n 15 sx_15 (M.2 rows x1.toNatClampNeg) M) cV_Circle_56 cd_Row_take dn_Row_take rfl (by decide) (Nat.le_of_ble_eq_true rfl) (Nat.le_of_ble_eq_true rfl) nr_U sx_15 (by decide) rfl (fun r3 M4 => ?_)
        refine j_aload_n (pc := 53) (q := 2) d_Circle_meet_53 rfl rfl ?_
        refine j_getA (pc := 54) d_Circle_meet_54 fl_Circle_31 sx_11 (by decide) rfl ?_
        refine j_aload_n (pc := 57) (q := 3) d_Circle_meet_57 rfl rfl ?_
        refine j_iload (pc := 58) (q := 0) d_Circle_meet_58 rfl ?_
        refine j_lald (pc := 60) d_Circle_meet_60 h_rows (fun _ => ?_)
        refine j_callV1 (pc := 61) d_Circle_meet_61 (C_Row_addAll n 15 sx_15 (M4.2 rows x2.toNatClampNeg) M4) cV_Circle_60 cd_Row_addAll dn_Row_addAll rfl (by decide) (Nat.le_of_ble_eq_true rfl) (Nat.le_of_ble_eq_true rfl) nr_U sx_15 (by decide) rfl (fun r5 M6 => ?_)
        refine j_aload_n (pc := 64) (q := 2) d_Circle_meet_64 rfl rfl ?_
        refine j_callV0 (pc := 65) d_Circle_meet_65 (C_Circle_settle n M6) cV_Circle_63 cd_Circle_settle dn_Circle_settle rfl (by decide) (Nat.le_of_ble_eq_true rfl) (Nat.le_of_ble_eq_true rfl) nr_U sx_11 (by decide) rfl (fun r7 M8 => ?_)
        refine j_aload_n (pc := 68) (q := 2) d_Circle_meet_68 rfl rfl ?_
        refine j_getA (pc := 69) d_Circle_meet_69 fl_Circle_31 sx_11 (by decide) rfl ?_
        refine j_callV0 (pc := 72) d_Circle_meet_72 (C_Row_atRest n 15 sx_15 M8) cV_Circle_66 cd_Row_atRest dn_Row_atRest rfl (by decide) (Nat.le_of_ble_eq_true rfl) (Nat.le_of_ble_eq_true rfl) nr_L sx_15 (by decide) rfl (fun r9 M10 => ?_)
        refine j_lstore (pc := 75) d_Circle_meet_75 (by decide) rfl ?_
        refine j_lload (pc := 77) (q := 0) d_Circle_meet_77 rfl ?_
        refine j_aload_n (pc := 79) (q := 4) d_Circle_meet_79 rfl rfl ?_
        refine j_iload (pc := 80) (q := 2) d_Circle_meet_80 rfl ?_
        refine j_lald (pc := 82) d_Circle_meet_82 h_rows (fun _ => ?_)
        refine j_lcmp (pc := 83) d_Circle_meet_83 ?_
        refine j_nmk (fun k => ∀ (u11 : Int32), J (mt_Circle_meet) wI 102 [(1, Value.ref rows), (4, Value.int x1), (5, Value.int x2), (6, Value.long r9)] [Value.int u11] M10 (k u11)) (fun u11 => ?_) (fun k102 hk102 => ?_)
        · refine j_istore (pc := 102) d_Circle_meet_102 (by decide) rfl ?_
          refine j_aload_n (pc := 104) (q := 1) d_Circle_meet_104 rfl rfl ?_
          refine j_iload (pc := 105) (q := 2) d_Circle_meet_105 rfl ?_
          refine j_lload (pc := 107) (q := 4) d_Circle_meet_107 rfl ?_
          refine j_last (pc := 109) d_Circle_meet_109 h_rows (fun _ => ?_)
          refine j_aload_n (pc := 110) (q := 1) d_Circle_meet_110 rfl rfl ?_
          refine j_iload (pc := 111) (q := 3) d_Circle_meet_111 rfl ?_
          refine j_lload (pc := 113) (q := 4) d_Circle_meet_113 rfl ?_
          refine j_last (pc := 115) d_Circle_meet_115 h_rows (fun _ => ?_)
          refine j_iload (pc := 116) (q := 0) d_Circle_meet_116 rfl ?_
          exact j_zr (pc := 118) d_Circle_meet_118 rfl
        · refine j_if_ne (pc := 84) (tgt := 97) d_Circle_meet_84 (by decide) (fun _ => ?_) (fun _ => ?_)
          · refine j_iconst (pc := 97) d_Circle_meet_97 k_i_1 ?_
            refine j_goto (pc := 98) (tgt := 102) d_Circle_meet_98 (by decide) ?_
            refine j_lv [4, 2, 1, 0] rfl ?_
            exact hk102 1
          · refine j_lload (pc := 87) (q := 0) d_Circle_meet_87 rfl ?_
            refine j_aload_n (pc := 89) (q := 4) d_Circle_meet_89 rfl rfl ?_
            refine j_iload (pc := 90) (q := 1) d_Circle_meet_90 rfl ?_
            refine j_lald (pc := 92) d_Circle_meet_92 h_rows (fun _ => ?_)
            refine j_lcmp (pc := 93) d_Circle_meet_93 ?_
            refine j_if_eq (pc := 94) (tgt := 101) d_Circle_meet_94 (by decide) (fun _ => ?_) (fun _ => ?_)
            · refine j_iconst (pc := 101) d_Circle_meet_101 k_i_0 ?_
              refine j_lv [4, 2, 1, 0] rfl ?_
              exact hk102 0
            · refine j_iconst (pc := 97) d_Circle_meet_97 k_i_1 ?_
              refine j_goto (pc := 98) (tgt := 102) d_Circle_meet_98 (by decide) ?_
              refine j_lv [4, 2, 1, 0] rfl ?_
              exact hk102 1
      · refine j_iconst (pc := 40) d_Circle_meet_40 k_i_0 ?_
        exact j_zreturn (pc := 41) d_Circle_meet_41 rfl rfl
    · refine j_iconst (pc := 10) d_Circle_meet_10 k_i_0 ?_
      exact j_zreturn (pc := 11) d_Circle_meet_11 rfl rfl
-- Circle.celebrate ([JII)V
def mt_Circle_celebrate : Mt := ("ShakeHands$Circle", b_Circle_celebrate, 5, none, 6, SHx)
theorem d_Circle_celebrate_0 : decode b_Circle_celebrate 0 = .ok (.iconst 0, 1) := by decide +kernel
theorem d_Circle_celebrate_1 : decode b_Circle_celebrate 1 = .ok (.istore 4, 2) := by decide +kernel
theorem d_Circle_celebrate_3 : decode b_Circle_celebrate 3 = .ok (.iload 4, 2) := by decide +kernel
theorem d_Circle_celebrate_5 : decode b_Circle_celebrate 5 = .ok (.iload_n 3, 1) := by decide +kernel
theorem d_Circle_celebrate_6 : decode b_Circle_celebrate 6 = .ok (.if_icmp .ge 32, 3) := by decide +kernel
theorem d_Circle_celebrate_9 : decode b_Circle_celebrate 9 = .ok (.iload 4, 2) := by decide +kernel
theorem d_Circle_celebrate_11 : decode b_Circle_celebrate 11 = .ok (.aload_n 0, 1) := by decide +kernel
theorem d_Circle_celebrate_12 : decode b_Circle_celebrate 12 = .ok (.getfield 38, 3) := by decide +kernel
theorem d_Circle_celebrate_15 : decode b_Circle_celebrate 15 = .ok (.if_icmp .ge 23, 3) := by decide +kernel
theorem d_Circle_celebrate_18 : decode b_Circle_celebrate 18 = .ok (.aload_n 0, 1) := by decide +kernel
theorem d_Circle_celebrate_19 : decode b_Circle_celebrate 19 = .ok (.aload_n 1, 1) := by decide +kernel
theorem d_Circle_celebrate_20 : decode b_Circle_celebrate 20 = .ok (.iload_n 2, 1) := by decide +kernel
theorem d_Circle_celebrate_21 : decode b_Circle_celebrate 21 = .ok (.aload_n 0, 1) := by decide +kernel
theorem d_Circle_celebrate_22 : decode b_Circle_celebrate 22 = .ok (.getfield 24, 3) := by decide +kernel
theorem d_Circle_celebrate_25 : decode b_Circle_celebrate 25 = .ok (.iload 4, 2) := by decide +kernel
theorem d_Circle_celebrate_27 : decode b_Circle_celebrate 27 = .ok (.iaload, 1) := by decide +kernel
theorem d_Circle_celebrate_28 : decode b_Circle_celebrate 28 = .ok (.invokevirtual 77, 3) := by decide +kernel
theorem d_Circle_celebrate_31 : decode b_Circle_celebrate 31 = .ok (.pop, 1) := by decide +kernel
theorem d_Circle_celebrate_32 : decode b_Circle_celebrate 32 = .ok (.iinc 4 1, 3) := by decide +kernel
theorem d_Circle_celebrate_35 : decode b_Circle_celebrate 35 = .ok (.goto (-32), 3) := by decide +kernel
theorem d_Circle_celebrate_38 : decode b_Circle_celebrate 38 = .ok (.return_, 1) := by decide +kernel
def X_Circle_celebrate_L3 (n : Nat) (rows : Nat) (a2 : Int32) (a3 : Int32) : Nat → Int32 → Mem → Option (Unit × Mem)
    | 0, _, _ => none
    | m + 1, v4, M => (if a3 ≤ v4 then
    some ((), M)
    else
    (if (M.1 11 5) ≤ v4 then
      some ((), M)
      else
      gd v4 16 (
        bd (X_Circle_meet n rows a2 (M.1 13 v4.toNatClampNeg) M) fun r1 M2 =>
        X_Circle_celebrate_L3 n rows a2 a3 m (v4 + 1) M2)))
def X_Circle_celebrate (n : Nat) (rows : Nat) (p2 : Int32) (p3 : Int32) (M : Mem) : Option (Unit × Mem) :=
  X_Circle_celebrate_L3 n rows p2 p3 n 0 M
set_option maxRecDepth 20000 in
set_option maxHeartbeats 4000000 in
theorem X_Circle_celebrate_L3_ok {n : Nat} {rows : Nat} {a2 : Int32} {a3 : Int32} (h_rows : SHx[rows]? = some (103, [6])) : ∀ (m : Nat) (v4 : Int32) (M : Mem), J (mt_Circle_celebrate) wU 3 [(0, Value.ref 11), (1, Value.ref rows), (2, Value.int a2), (3, Value.int a3), (4, Value.int v4)] [] M (X_Circle_celebrate_L3 n rows a2 a3 m v4 M) := by
  intro m
  induction m with
  | zero => intro _ _; exact j_none
  | succ m ih =>
    intro v4 M
    show J _ _ _ _ _ _ ((if a3 ≤ v4 then
some ((), M)
else
(if (M.1 11 5) ≤ v4 then
some ((), M)
else
gd v4 16 (
bd (X_Circle_meet n rows a2 (M.1 13 v4.toNatClampNeg) M) fun r1 M2 =>
X_Circle_celebrate_L3 n rows a2 a3 m (v4 + 1) M2))))
    refine j_iload (pc := 3) (q := 4) d_Circle_celebrate_3 rfl ?_
    refine j_iload_n (pc := 5) (q := 3) d_Circle_celebrate_5 rfl rfl ?_
    refine j_icmp_ge (pc := 6) (tgt := 38) d_Circle_celebrate_6 (by decide) (fun _ => ?_) (fun _ => ?_)
    · exact j_return (pc := 38) d_Circle_celebrate_38 rfl
    · refine j_iload (pc := 9) (q := 4) d_Circle_celebrate_9 rfl ?_
      refine j_aload_n (pc := 11) (q := 0) d_Circle_celebrate_11 rfl rfl ?_
      refine j_getI (pc := 12) d_Circle_celebrate_12 fl_Circle_38 sx_11 (by decide) rfl ?_
      refine j_icmp_ge (pc := 15) (tgt := 38) d_Circle_celebrate_15 (by decide) (fun _ => ?_) (fun _ => ?_)
      · exact j_return (pc := 38) d_Circle_celebrate_38 rfl
      · refine j_aload_n (pc := 18) (q := 0) d_Circle_celebrate_18 rfl rfl ?_
        refine j_aload_n (pc := 19) (q := 1) d_Circle_celebrate_19 rfl rfl ?_
        refine j_iload_n (pc := 20) (q := 2) d_Circle_celebrate_20 rfl rfl ?_
        refine j_aload_n (pc := 21) (q := 0) d_Circle_celebrate_21 rfl rfl ?_
        refine j_getA (pc := 22) d_Circle_celebrate_22 fl_Circle_24 sx_11 (by decide) rfl ?_
        refine j_iload (pc := 25) (q := 4) d_Circle_celebrate_25 rfl ?_
        refine j_iald (pc := 27) d_Circle_celebrate_27 sx_13 (fun _ => ?_)
        refine j_callV3 (pc := 28) d_Circle_celebrate_28 (C_Circle_meet n rows h_rows a2 (M.1 13 v4.toNatClampNeg) M) cV_Circle_77 cd_Circle_meet dn_Circle_meet rfl (by decide) (Nat.le_of_ble_eq_true rfl) (Nat.le_of_ble_eq_true rfl) nr_I sx_11 (by decide) rfl (fun r1 M2 => ?_)
        refine j_pop (pc := 31) d_Circle_celebrate_31 rfl ?_
        refine j_iinc (pc := 32) (q := 4) d_Circle_celebrate_32 rfl (congrArg (v4 + ·) k_i_1) (by decide) rfl ?_
        refine j_goto (pc := 35) (tgt := 3) d_Circle_celebrate_35 (by decide) ?_
        refine j_lv [1, 2, 3, 4, 0] rfl ?_
        exact ih (v4 + 1) M2
set_option maxRecDepth 20000 in
set_option maxHeartbeats 4000000 in
theorem C_Circle_celebrate (n : Nat) (rows : Nat) (h_rows : SHx[rows]? = some (103, [6])) (p2 : Int32) (p3 : Int32) (M : Mem) : Ct y_Circle_celebrate mt_Circle_celebrate wU [Value.ref 11, Value.ref rows, Value.int p2, Value.int p3] M (X_Circle_celebrate n rows p2 p3 M) := by
  refine ct_of (by decide +kernel) rfl (Nat.le_of_ble_eq_true rfl) ?_
  show J _ _ _ [(0, Value.ref 11), (1, Value.ref rows), (2, Value.int p2), (3, Value.int p3)] _ _ _
  unfold X_Circle_celebrate
  refine j_iconst (pc := 0) d_Circle_celebrate_0 k_i_0 ?_
  refine j_istore (pc := 1) d_Circle_celebrate_1 (by decide) rfl ?_
  refine j_lv [1, 2, 3, 4, 0] rfl ?_
  exact X_Circle_celebrate_L3_ok h_rows  n 0 M
-- Circle.liveDay ([JI)V
def mt_Circle_liveDay : Mt := ("ShakeHands$Circle", b_Circle_liveDay, 4, none, 6, SHx)
theorem d_Circle_liveDay_0 : decode b_Circle_liveDay 0 = .ok (.iconst 0, 1) := by decide +kernel
theorem d_Circle_liveDay_1 : decode b_Circle_liveDay 1 = .ok (.istore_n 3, 1) := by decide +kernel
theorem d_Circle_liveDay_2 : decode b_Circle_liveDay 2 = .ok (.iload_n 3, 1) := by decide +kernel
theorem d_Circle_liveDay_3 : decode b_Circle_liveDay 3 = .ok (.aload_n 0, 1) := by decide +kernel
theorem d_Circle_liveDay_4 : decode b_Circle_liveDay 4 = .ok (.getfield 41, 3) := by decide +kernel
theorem d_Circle_liveDay_7 : decode b_Circle_liveDay 7 = .ok (.if_icmp .ge 22, 3) := by decide +kernel
theorem d_Circle_liveDay_10 : decode b_Circle_liveDay 10 = .ok (.aload_n 0, 1) := by decide +kernel
theorem d_Circle_liveDay_11 : decode b_Circle_liveDay 11 = .ok (.aload_n 1, 1) := by decide +kernel
theorem d_Circle_liveDay_12 : decode b_Circle_liveDay 12 = .ok (.iload_n 2, 1) := by decide +kernel
theorem d_Circle_liveDay_13 : decode b_Circle_liveDay 13 = .ok (.aload_n 0, 1) := by decide +kernel
theorem d_Circle_liveDay_14 : decode b_Circle_liveDay 14 = .ok (.getfield 27, 3) := by decide +kernel
theorem d_Circle_liveDay_17 : decode b_Circle_liveDay 17 = .ok (.iload_n 3, 1) := by decide +kernel
theorem d_Circle_liveDay_18 : decode b_Circle_liveDay 18 = .ok (.iaload, 1) := by decide +kernel
theorem d_Circle_liveDay_19 : decode b_Circle_liveDay 19 = .ok (.invokevirtual 77, 3) := by decide +kernel
theorem d_Circle_liveDay_22 : decode b_Circle_liveDay 22 = .ok (.pop, 1) := by decide +kernel
theorem d_Circle_liveDay_23 : decode b_Circle_liveDay 23 = .ok (.iinc 3 1, 3) := by decide +kernel
theorem d_Circle_liveDay_26 : decode b_Circle_liveDay 26 = .ok (.goto (-24), 3) := by decide +kernel
theorem d_Circle_liveDay_29 : decode b_Circle_liveDay 29 = .ok (.return_, 1) := by decide +kernel
def X_Circle_liveDay_L2 (n : Nat) (rows : Nat) (a2 : Int32) : Nat → Int32 → Mem → Option (Unit × Mem)
    | 0, _, _ => none
    | m + 1, v3, M => (if (M.1 11 7) ≤ v3 then
    some ((), M)
    else
    gd v3 8 (
      bd (X_Circle_meet n rows a2 (M.1 14 v3.toNatClampNeg) M) fun r1 M2 =>
      X_Circle_liveDay_L2 n rows a2 m (v3 + 1) M2))
def X_Circle_liveDay (n : Nat) (rows : Nat) (p2 : Int32) (M : Mem) : Option (Unit × Mem) :=
  X_Circle_liveDay_L2 n rows p2 n 0 M
set_option maxRecDepth 20000 in
set_option maxHeartbeats 4000000 in
theorem X_Circle_liveDay_L2_ok {n : Nat} {rows : Nat} {a2 : Int32} (h_rows : SHx[rows]? = some (103, [6])) : ∀ (m : Nat) (v3 : Int32) (M : Mem), J (mt_Circle_liveDay) wU 2 [(0, Value.ref 11), (1, Value.ref rows), (2, Value.int a2), (3, Value.int v3)] [] M (X_Circle_liveDay_L2 n rows a2 m v3 M) := by
  intro m
  induction m with
  | zero => intro _ _; exact j_none
  | succ m ih =>
    intro v3 M
    show J _ _ _ _ _ _ ((if (M.1 11 7) ≤ v3 then
some ((), M)
else
gd v3 8 (
bd (X_Circle_meet n rows a2 (M.1 14 v3.toNatClampNeg) M) fun r1 M2 =>
X_Circle_liveDay_L2 n rows a2 m (v3 + 1) M2)))
    refine j_iload_n (pc := 2) (q := 3) d_Circle_liveDay_2 rfl rfl ?_
    refine j_aload_n (pc := 3) (q := 0) d_Circle_liveDay_3 rfl rfl ?_
    refine j_getI (pc := 4) d_Circle_liveDay_4 fl_Circle_41 sx_11 (by decide) rfl ?_
    refine j_icmp_ge (pc := 7) (tgt := 29) d_Circle_liveDay_7 (by decide) (fun _ => ?_) (fun _ => ?_)
    · exact j_return (pc := 29) d_Circle_liveDay_29 rfl
    · refine j_aload_n (pc := 10) (q := 0) d_Circle_liveDay_10 rfl rfl ?_
      refine j_aload_n (pc := 11) (q := 1) d_Circle_liveDay_11 rfl rfl ?_
      refine j_iload_n (pc := 12) (q := 2) d_Circle_liveDay_12 rfl rfl ?_
      refine j_aload_n (pc := 13) (q := 0) d_Circle_liveDay_13 rfl rfl ?_
      refine j_getA (pc := 14) d_Circle_liveDay_14 fl_Circle_27 sx_11 (by decide) rfl ?_
      refine j_iload_n (pc := 17) (q := 3) d_Circle_liveDay_17 rfl rfl ?_
      refine j_iald (pc := 18) d_Circle_liveDay_18 sx_14 (fun _ => ?_)
      refine j_callV3 (pc := 19) d_Circle_liveDay_19 (C_Circle_meet n rows h_rows a2 (M.1 14 v3.toNatClampNeg) M) cV_Circle_77 cd_Circle_meet dn_Circle_meet rfl (by decide) (Nat.le_of_ble_eq_true rfl) (Nat.le_of_ble_eq_true rfl) nr_I sx_11 (by decide) rfl (fun r1 M2 => ?_)
      refine j_pop (pc := 22) d_Circle_liveDay_22 rfl ?_
      refine j_iinc (pc := 23) (q := 3) d_Circle_liveDay_23 rfl (congrArg (v3 + ·) k_i_1) (by decide) rfl ?_
      refine j_goto (pc := 26) (tgt := 2) d_Circle_liveDay_26 (by decide) ?_
      refine j_lv [1, 2, 3, 0] rfl ?_
      exact ih (v3 + 1) M2
set_option maxRecDepth 20000 in
set_option maxHeartbeats 4000000 in
theorem C_Circle_liveDay (n : Nat) (rows : Nat) (h_rows : SHx[rows]? = some (103, [6])) (p2 : Int32) (M : Mem) : Ct y_Circle_liveDay mt_Circle_liveDay wU [Value.ref 11, Value.ref rows, Value.int p2] M (X_Circle_liveDay n rows p2 M) := by
  refine ct_of (by decide +kernel) rfl (Nat.le_of_ble_eq_true rfl) ?_
  show J _ _ _ [(0, Value.ref 11), (1, Value.ref rows), (2, Value.int p2)] _ _ _
  unfold X_Circle_liveDay
  refine j_iconst (pc := 0) d_Circle_liveDay_0 k_i_0 ?_
  refine j_istore_n (pc := 1) d_Circle_liveDay_1 rfl (by decide) rfl ?_
  refine j_lv [1, 2, 3, 0] rfl ?_
  exact X_Circle_liveDay_L2_ok h_rows  n 0 M
-- Habit.lastDay (I)I
def mt_Habit_lastDay : Mt := ("ShakeHands$Habit", b_Habit_lastDay, 3, some .int, 7, SHx)
theorem d_Habit_lastDay_0 : decode b_Habit_lastDay 0 = .ok (.aload_n 0, 1) := by decide +kernel
theorem d_Habit_lastDay_1 : decode b_Habit_lastDay 1 = .ok (.getfield 22, 3) := by decide +kernel
theorem d_Habit_lastDay_4 : decode b_Habit_lastDay 4 = .ok (.getfield 26, 3) := by decide +kernel
theorem d_Habit_lastDay_7 : decode b_Habit_lastDay 7 = .ok (.iconst 0, 1) := by decide +kernel
theorem d_Habit_lastDay_8 : decode b_Habit_lastDay 8 = .ok (.aload_n 0, 1) := by decide +kernel
theorem d_Habit_lastDay_9 : decode b_Habit_lastDay 9 = .ok (.getfield 15, 3) := by decide +kernel
theorem d_Habit_lastDay_12 : decode b_Habit_lastDay 12 = .ok (.iconst 0, 1) := by decide +kernel
theorem d_Habit_lastDay_13 : decode b_Habit_lastDay 13 = .ok (.bipush 6, 2) := by decide +kernel
theorem d_Habit_lastDay_15 : decode b_Habit_lastDay 15 = .ok (.invokestatic 29, 3) := by decide +kernel
theorem d_Habit_lastDay_18 : decode b_Habit_lastDay 18 = .ok (.iconst 0, 1) := by decide +kernel
theorem d_Habit_lastDay_19 : decode b_Habit_lastDay 19 = .ok (.istore_n 2, 1) := by decide +kernel
theorem d_Habit_lastDay_20 : decode b_Habit_lastDay 20 = .ok (.iload_n 2, 1) := by decide +kernel
theorem d_Habit_lastDay_21 : decode b_Habit_lastDay 21 = .ok (.sipush 200, 3) := by decide +kernel
theorem d_Habit_lastDay_24 : decode b_Habit_lastDay 24 = .ok (.if_icmp .gt 40, 3) := by decide +kernel
theorem d_Habit_lastDay_27 : decode b_Habit_lastDay 27 = .ok (.aload_n 0, 1) := by decide +kernel
theorem d_Habit_lastDay_28 : decode b_Habit_lastDay 28 = .ok (.getfield 15, 3) := by decide +kernel
theorem d_Habit_lastDay_31 : decode b_Habit_lastDay 31 = .ok (.iload_n 1, 1) := by decide +kernel
theorem d_Habit_lastDay_32 : decode b_Habit_lastDay 32 = .ok (.invokestatic 35, 3) := by decide +kernel
theorem d_Habit_lastDay_35 : decode b_Habit_lastDay 35 = .ok (.ifCond .ne 5, 3) := by decide +kernel
theorem d_Habit_lastDay_38 : decode b_Habit_lastDay 38 = .ok (.iload_n 2, 1) := by decide +kernel
theorem d_Habit_lastDay_39 : decode b_Habit_lastDay 39 = .ok (.ireturn, 1) := by decide +kernel
theorem d_Habit_lastDay_40 : decode b_Habit_lastDay 40 = .ok (.aload_n 0, 1) := by decide +kernel
theorem d_Habit_lastDay_41 : decode b_Habit_lastDay 41 = .ok (.getfield 18, 3) := by decide +kernel
theorem d_Habit_lastDay_44 : decode b_Habit_lastDay 44 = .ok (.aload_n 0, 1) := by decide +kernel
theorem d_Habit_lastDay_45 : decode b_Habit_lastDay 45 = .ok (.getfield 15, 3) := by decide +kernel
theorem d_Habit_lastDay_48 : decode b_Habit_lastDay 48 = .ok (.aload_n 0, 1) := by decide +kernel
theorem d_Habit_lastDay_49 : decode b_Habit_lastDay 49 = .ok (.getfield 22, 3) := by decide +kernel
theorem d_Habit_lastDay_52 : decode b_Habit_lastDay 52 = .ok (.getfield 39, 3) := by decide +kernel
theorem d_Habit_lastDay_55 : decode b_Habit_lastDay 55 = .ok (.invokevirtual 43, 3) := by decide +kernel
theorem d_Habit_lastDay_58 : decode b_Habit_lastDay 58 = .ok (.iinc 2 1, 3) := by decide +kernel
theorem d_Habit_lastDay_61 : decode b_Habit_lastDay 61 = .ok (.goto (-41), 3) := by decide +kernel
theorem d_Habit_lastDay_64 : decode b_Habit_lastDay 64 = .ok (.bipush (-4), 2) := by decide +kernel
theorem d_Habit_lastDay_66 : decode b_Habit_lastDay 66 = .ok (.ireturn, 1) := by decide +kernel
def X_Habit_lastDay_L20 (n : Nat) (a1 : Int32) : Nat → Int32 → Mem → Option (Int32 × Mem)
    | 0, _, _ => none
    | m + 1, v2, M => (if 200 < v2 then
    some ((-4), M)
    else
    bd (X_Minds_knowers n 39 a1 M) fun r1 M2 =>
    (if r1 = 0 then
      some (v2, M2)
      else
      bd (X_Circle_liveDay n 39 (M2.1 16 1) M2) fun _ M4 =>
      X_Habit_lastDay_L20 n a1 m (v2 + 1) M4))
def X_Habit_lastDay (n : Nat) (p1 : Int32) (M : Mem) : Option (Int32 × Mem) :=
  gc (0 : Int32) (0 : Int32) (6 : Int32) 6 6 (
    X_Habit_lastDay_L20 n p1 n 0 (cpL M 17 ((0 : Int32).toNatClampNeg) 39 ((0 : Int32).toNatClampNeg) ((6 : Int32).toNatClampNeg)))
set_option maxRecDepth 20000 in
set_option maxHeartbeats 4000000 in
theorem X_Habit_lastDay_L20_ok {n : Nat} {a1 : Int32} : ∀ (m : Nat) (v2 : Int32) (M : Mem), J (mt_Habit_lastDay) wI 20 [(0, Value.ref 37), (1, Value.int a1), (2, Value.int v2)] [] M (X_Habit_lastDay_L20 n a1 m v2 M) := by
  intro m
  induction m with
  | zero => intro _ _; exact j_none
  | succ m ih =>
    intro v2 M
    show J _ _ _ _ _ _ ((if 200 < v2 then
some ((-4), M)
else
bd (X_Minds_knowers n 39 a1 M) fun r1 M2 =>
(if r1 = 0 then
some (v2, M2)
else
bd (X_Circle_liveDay n 39 (M2.1 16 1) M2) fun _ M4 =>
X_Habit_lastDay_L20 n a1 m (v2 + 1) M4)))
    refine j_iload_n (pc := 20) (q := 2) d_Habit_lastDay_20 rfl rfl ?_
    refine j_sipush (pc := 21) d_Habit_lastDay_21 k_s_200 ?_
    refine j_icmp_gt (pc := 24) (tgt := 64) d_Habit_lastDay_24 (by decide) (fun _ => ?_) (fun _ => ?_)
    · refine j_bipush (pc := 64) d_Habit_lastDay_64 k_b_m4 ?_
      exact j_ireturn (pc := 66) d_Habit_lastDay_66 rfl
    · refine j_aload_n (pc := 27) (q := 0) d_Habit_lastDay_27 rfl rfl ?_
      refine j_getA (pc := 28) d_Habit_lastDay_28 fl_Habit_15 sx_37 (by decide) rfl ?_
      refine j_iload_n (pc := 31) (q := 1) d_Habit_lastDay_31 rfl rfl ?_
      refine j_callS2 (pc := 32) d_Habit_lastDay_32 (C_Minds_knowers n 39 sx_39 a1 M) cS_Habit_35 cd_Minds_knowers dn_Minds_knowers rfl (by decide) (Nat.le_of_ble_eq_true rfl) (Nat.le_of_ble_eq_true rfl) nr_I (fun r1 M2 => ?_)
      refine j_if_ne (pc := 35) (tgt := 40) d_Habit_lastDay_35 (by decide) (fun _ => ?_) (fun _ => ?_)
      · refine j_aload_n (pc := 40) (q := 0) d_Habit_lastDay_40 rfl rfl ?_
        refine j_getA (pc := 41) d_Habit_lastDay_41 fl_Habit_18 sx_37 (by decide) rfl ?_
        refine j_aload_n (pc := 44) (q := 0) d_Habit_lastDay_44 rfl rfl ?_
        refine j_getA (pc := 45) d_Habit_lastDay_45 fl_Habit_15 sx_37 (by decide) rfl ?_
        refine j_aload_n (pc := 48) (q := 0) d_Habit_lastDay_48 rfl rfl ?_
        refine j_getA (pc := 49) d_Habit_lastDay_49 fl_Habit_22 sx_37 (by decide) rfl ?_
        refine j_getI (pc := 52) d_Habit_lastDay_52 fl_Habit_39 sx_16 (by decide) rfl ?_
        refine j_callV2 (pc := 55) d_Habit_lastDay_55 (C_Circle_liveDay n 39 sx_39 (M2.1 16 1) M2) cV_Habit_43 cd_Circle_liveDay dn_Circle_liveDay rfl (by decide) (Nat.le_of_ble_eq_true rfl) (Nat.le_of_ble_eq_true rfl) nr_U sx_11 (by decide) rfl (fun r3 M4 => ?_)
        refine j_iinc (pc := 58) (q := 2) d_Habit_lastDay_58 rfl (congrArg (v2 + ·) k_i_1) (by decide) rfl ?_
        refine j_goto (pc := 61) (tgt := 20) d_Habit_lastDay_61 (by decide) ?_
        refine j_lv [1, 2, 0] rfl ?_
        exact ih (v2 + 1) M4
      · refine j_iload_n (pc := 38) (q := 2) d_Habit_lastDay_38 rfl rfl ?_
        exact j_ireturn (pc := 39) d_Habit_lastDay_39 rfl
set_option maxRecDepth 20000 in
set_option maxHeartbeats 4000000 in
theorem C_Habit_lastDay (n : Nat)   (p1 : Int32) (M : Mem) : Ct y_Habit_lastDay mt_Habit_lastDay wI [Value.ref 37, Value.int p1] M (X_Habit_lastDay n p1 M) := by
  refine ct_of (by decide +kernel) rfl (Nat.le_of_ble_eq_true rfl) ?_
  show J _ _ _ [(0, Value.ref 37), (1, Value.int p1)] _ _ _
  unfold X_Habit_lastDay
  refine j_aload_n (pc := 0) (q := 0) d_Habit_lastDay_0 rfl rfl ?_
  refine j_getA (pc := 1) d_Habit_lastDay_1 fl_Habit_22 sx_37 (by decide) rfl ?_
  refine j_getA (pc := 4) d_Habit_lastDay_4 fl_Habit_26 sx_16 (by decide) rfl ?_
  refine j_iconst (pc := 7) d_Habit_lastDay_7 k_i_0 ?_
  refine j_aload_n (pc := 8) (q := 0) d_Habit_lastDay_8 rfl rfl ?_
  refine j_getA (pc := 9) d_Habit_lastDay_9 fl_Habit_15 sx_37 (by decide) rfl ?_
  refine j_iconst (pc := 12) d_Habit_lastDay_12 k_i_0 ?_
  refine j_bipush (pc := 13) d_Habit_lastDay_13 k_b_6 ?_
  refine j_copyL (pc := 15) d_Habit_lastDay_15 cw_Habit_29 cw_nat cw_st sx_17 sx_39 (by decide) (Nat.le_of_ble_eq_true rfl) ?_
  refine j_iconst (pc := 18) d_Habit_lastDay_18 k_i_0 ?_
  refine j_istore_n (pc := 19) d_Habit_lastDay_19 rfl (by decide) rfl ?_
  refine j_lv [1, 2, 0] rfl ?_
  exact X_Habit_lastDay_L20_ok   n 0 (cpL M 17 ((0 : Int32).toNatClampNeg) 39 ((0 : Int32).toNatClampNeg) ((6 : Int32).toNatClampNeg))
-- Habit.sameDay (I)I
def mt_Habit_sameDay : Mt := ("ShakeHands$Habit", b_Habit_sameDay, 4, some .int, 2, SHx)
theorem d_Habit_sameDay_0 : decode b_Habit_sameDay 0 = .ok (.iconst 0, 1) := by decide +kernel
theorem d_Habit_sameDay_1 : decode b_Habit_sameDay 1 = .ok (.istore_n 2, 1) := by decide +kernel
theorem d_Habit_sameDay_2 : decode b_Habit_sameDay 2 = .ok (.iload_n 2, 1) := by decide +kernel
theorem d_Habit_sameDay_3 : decode b_Habit_sameDay 3 = .ok (.iload_n 1, 1) := by decide +kernel
theorem d_Habit_sameDay_4 : decode b_Habit_sameDay 4 = .ok (.if_icmp .ge 52, 3) := by decide +kernel
theorem d_Habit_sameDay_7 : decode b_Habit_sameDay 7 = .ok (.iconst 0, 1) := by decide +kernel
theorem d_Habit_sameDay_8 : decode b_Habit_sameDay 8 = .ok (.istore_n 3, 1) := by decide +kernel
theorem d_Habit_sameDay_9 : decode b_Habit_sameDay 9 = .ok (.iload_n 3, 1) := by decide +kernel
theorem d_Habit_sameDay_10 : decode b_Habit_sameDay 10 = .ok (.bipush 6, 2) := by decide +kernel
theorem d_Habit_sameDay_12 : decode b_Habit_sameDay 12 = .ok (.if_icmp .ge 30, 3) := by decide +kernel
theorem d_Habit_sameDay_15 : decode b_Habit_sameDay 15 = .ok (.aload_n 0, 1) := by decide +kernel
theorem d_Habit_sameDay_16 : decode b_Habit_sameDay 16 = .ok (.getfield 11, 3) := by decide +kernel
theorem d_Habit_sameDay_19 : decode b_Habit_sameDay 19 = .ok (.iload_n 2, 1) := by decide +kernel
theorem d_Habit_sameDay_20 : decode b_Habit_sameDay 20 = .ok (.bipush 6, 2) := by decide +kernel
theorem d_Habit_sameDay_22 : decode b_Habit_sameDay 22 = .ok (.imul, 1) := by decide +kernel
theorem d_Habit_sameDay_23 : decode b_Habit_sameDay 23 = .ok (.iload_n 3, 1) := by decide +kernel
theorem d_Habit_sameDay_24 : decode b_Habit_sameDay 24 = .ok (.iadd, 1) := by decide +kernel
theorem d_Habit_sameDay_25 : decode b_Habit_sameDay 25 = .ok (.laload, 1) := by decide +kernel
theorem d_Habit_sameDay_26 : decode b_Habit_sameDay 26 = .ok (.aload_n 0, 1) := by decide +kernel
theorem d_Habit_sameDay_27 : decode b_Habit_sameDay 27 = .ok (.getfield 15, 3) := by decide +kernel
theorem d_Habit_sameDay_30 : decode b_Habit_sameDay 30 = .ok (.iload_n 3, 1) := by decide +kernel
theorem d_Habit_sameDay_31 : decode b_Habit_sameDay 31 = .ok (.laload, 1) := by decide +kernel
theorem d_Habit_sameDay_32 : decode b_Habit_sameDay 32 = .ok (.lcmp, 1) := by decide +kernel
theorem d_Habit_sameDay_33 : decode b_Habit_sameDay 33 = .ok (.ifCond .ne 9, 3) := by decide +kernel
theorem d_Habit_sameDay_36 : decode b_Habit_sameDay 36 = .ok (.iinc 3 1, 3) := by decide +kernel
theorem d_Habit_sameDay_39 : decode b_Habit_sameDay 39 = .ok (.goto (-30), 3) := by decide +kernel
theorem d_Habit_sameDay_42 : decode b_Habit_sameDay 42 = .ok (.iload_n 3, 1) := by decide +kernel
theorem d_Habit_sameDay_43 : decode b_Habit_sameDay 43 = .ok (.bipush 6, 2) := by decide +kernel
theorem d_Habit_sameDay_45 : decode b_Habit_sameDay 45 = .ok (.if_icmp .ne 5, 3) := by decide +kernel
theorem d_Habit_sameDay_48 : decode b_Habit_sameDay 48 = .ok (.iload_n 2, 1) := by decide +kernel
theorem d_Habit_sameDay_49 : decode b_Habit_sameDay 49 = .ok (.ireturn, 1) := by decide +kernel
theorem d_Habit_sameDay_50 : decode b_Habit_sameDay 50 = .ok (.iinc 2 1, 3) := by decide +kernel
theorem d_Habit_sameDay_53 : decode b_Habit_sameDay 53 = .ok (.goto (-51), 3) := by decide +kernel
theorem d_Habit_sameDay_56 : decode b_Habit_sameDay 56 = .ok (.iconst (-1), 1) := by decide +kernel
theorem d_Habit_sameDay_57 : decode b_Habit_sameDay 57 = .ok (.ireturn, 1) := by decide +kernel
def X_Habit_sameDay_L9 (n : Nat) (a1 : Int32) (a2 : Int32) (kx42 : Int32 → Option (Int32 × Mem)) (M : Mem) : Nat → Int32 → Option (Int32 × Mem)
    | 0, _ => none
    | m + 1, v3 => (if 6 ≤ v3 then
    kx42 v3
    else
    gd ((a2 * 6) + v3) 1206 (
      gd v3 6 (
        (if (lg_cmp (M.2 38 ((a2 * 6) + v3).toNatClampNeg) (M.2 39 v3.toNatClampNeg)) = 0 then
          X_Habit_sameDay_L9 n a1 a2 kx42 M m (v3 + 1)
          else
          kx42 v3))))
def X_Habit_sameDay_L2 (n : Nat) (a1 : Int32) (M : Mem) : Nat → Int32 → Option (Int32 × Mem)
    | 0, _ => none
    | m + 1, v2 => (if a1 ≤ v2 then
    some ((-1), M)
    else
    X_Habit_sameDay_L9 n a1 v2 (fun y1 => (if y1 = 6 then
        some (v2, M)
        else
        X_Habit_sameDay_L2 n a1 M m (v2 + 1))) M n 0)
def X_Habit_sameDay (n : Nat) (p1 : Int32) (M : Mem) : Option (Int32 × Mem) :=
  X_Habit_sameDay_L2 n p1 M n 0
set_option maxRecDepth 20000 in
set_option maxHeartbeats 4000000 in
theorem X_Habit_sameDay_L9_ok {n : Nat} {a1 : Int32} {a2 : Int32} {kx42 : Int32 → Option (Int32 × Mem)} {M : Mem} (hkx42 : ∀ (w3 : Int32), J (mt_Habit_sameDay) wI 42 [(0, Value.ref 37), (1, Value.int a1), (2, Value.int a2), (3, Value.int w3)] [] M (kx42 w3)) : ∀ (m : Nat) (v3 : Int32), J (mt_Habit_sameDay) wI 9 [(0, Value.ref 37), (1, Value.int a1), (2, Value.int a2), (3, Value.int v3)] [] M (X_Habit_sameDay_L9 n a1 a2 kx42 M m v3) := by
  intro m
  induction m with
  | zero => intro _; exact j_none
  | succ m ih =>
    intro v3
    show J _ _ _ _ _ _ ((if 6 ≤ v3 then
kx42 v3
else
gd ((a2 * 6) + v3) 1206 (
gd v3 6 (
(if (lg_cmp (M.2 38 ((a2 * 6) + v3).toNatClampNeg) (M.2 39 v3.toNatClampNeg)) = 0 then
X_Habit_sameDay_L9 n a1 a2 kx42 M m (v3 + 1)
else
kx42 v3)))))
    refine j_iload_n (pc := 9) (q := 3) d_Habit_sameDay_9 rfl rfl ?_
    refine j_bipush (pc := 10) d_Habit_sameDay_10 k_b_6 ?_
    refine j_icmp_ge (pc := 12) (tgt := 42) d_Habit_sameDay_12 (by decide) (fun _ => ?_) (fun _ => ?_)
    · exact hkx42 v3
    · refine j_aload_n (pc := 15) (q := 0) d_Habit_sameDay_15 rfl rfl ?_
      refine j_getA (pc := 16) d_Habit_sameDay_16 fl_Habit_11 sx_37 (by decide) rfl ?_
      refine j_iload_n (pc := 19) (q := 2) d_Habit_sameDay_19 rfl rfl ?_
      refine j_bipush (pc := 20) d_Habit_sameDay_20 k_b_6 ?_
      refine j_imul (pc := 22) d_Habit_sameDay_22 ?_
      refine j_iload_n (pc := 23) (q := 3) d_Habit_sameDay_23 rfl rfl ?_
      refine j_iadd (pc := 24) d_Habit_sameDay_24 ?_
      refine j_lald (pc := 25) d_Habit_sameDay_25 sx_38 (fun _ => ?_)
      refine j_aload_n (pc := 26) (q := 0) d_Habit_sameDay_26 rfl rfl ?_
      refine j_getA (pc := 27) d_Habit_sameDay_27 fl_Habit_15 sx_37 (by decide) rfl ?_
      refine j_iload_n (pc := 30) (q := 3) d_Habit_sameDay_30 rfl rfl ?_
      refine j_lald (pc := 31) d_Habit_sameDay_31 sx_39 (fun _ => ?_)
      refine j_lcmp (pc := 32) d_Habit_sameDay_32 ?_
      refine j_if_ne (pc := 33) (tgt := 42) d_Habit_sameDay_33 (by decide) (fun _ => ?_) (fun _ => ?_)
      · exact hkx42 v3
      · refine j_iinc (pc := 36) (q := 3) d_Habit_sameDay_36 rfl (congrArg (v3 + ·) k_i_1) (by decide) rfl ?_
        refine j_goto (pc := 39) (tgt := 9) d_Habit_sameDay_39 (by decide) ?_
        refine j_lv [1, 2, 3, 0] rfl ?_
        exact ih (v3 + 1)
set_option maxRecDepth 20000 in
set_option maxHeartbeats 4000000 in
theorem X_Habit_sameDay_L2_ok {n : Nat} {a1 : Int32} {M : Mem} : ∀ (m : Nat) (v2 : Int32), J (mt_Habit_sameDay) wI 2 [(0, Value.ref 37), (1, Value.int a1), (2, Value.int v2)] [] M (X_Habit_sameDay_L2 n a1 M m v2) := by
  intro m
  induction m with
  | zero => intro _; exact j_none
  | succ m ih =>
    intro v2
    show J _ _ _ _ _ _ ((if a1 ≤ v2 then
some ((-1), M)
else
X_Habit_sameDay_L9 n a1 v2 (fun y1 => (if y1 = 6 then
some (v2, M)
else
X_Habit_sameDay_L2 n a1 M m (v2 + 1))) M n 0))
    refine j_iload_n (pc := 2) (q := 2) d_Habit_sameDay_2 rfl rfl ?_
    refine j_iload_n (pc := 3) (q := 1) d_Habit_sameDay_3 rfl rfl ?_
    refine j_icmp_ge (pc := 4) (tgt := 56) d_Habit_sameDay_4 (by decide) (fun _ => ?_) (fun _ => ?_)
    · refine j_iconst (pc := 56) d_Habit_sameDay_56 k_i_m1 ?_
      exact j_ireturn (pc := 57) d_Habit_sameDay_57 rfl
    · refine j_iconst (pc := 7) d_Habit_sameDay_7 k_i_0 ?_
      refine j_istore_n (pc := 8) d_Habit_sameDay_8 rfl (by decide) rfl ?_
      refine j_lv [1, 2, 3, 0] rfl ?_
      refine X_Habit_sameDay_L9_ok  (fun y1 => ?_) n 0
      refine j_iload_n (pc := 42) (q := 3) d_Habit_sameDay_42 rfl rfl ?_
      refine j_bipush (pc := 43) d_Habit_sameDay_43 k_b_6 ?_
      refine j_icmp_ne (pc := 45) (tgt := 50) d_Habit_sameDay_45 (by decide) (fun _ => ?_) (fun _ => ?_)
      · refine j_iinc (pc := 50) (q := 2) d_Habit_sameDay_50 rfl (congrArg (v2 + ·) k_i_1) (by decide) rfl ?_
        refine j_goto (pc := 53) (tgt := 2) d_Habit_sameDay_53 (by decide) ?_
        refine j_lv [1, 2, 0] rfl ?_
        exact ih (v2 + 1)
      · refine j_iload_n (pc := 48) (q := 2) d_Habit_sameDay_48 rfl rfl ?_
        exact j_ireturn (pc := 49) d_Habit_sameDay_49 rfl
set_option maxRecDepth 20000 in
set_option maxHeartbeats 4000000 in
theorem C_Habit_sameDay (n : Nat)   (p1 : Int32) (M : Mem) : Ct y_Habit_sameDay mt_Habit_sameDay wI [Value.ref 37, Value.int p1] M (X_Habit_sameDay n p1 M) := by
  refine ct_of (by decide +kernel) rfl (Nat.le_of_ble_eq_true rfl) ?_
  show J _ _ _ [(0, Value.ref 37), (1, Value.int p1)] _ _ _
  unfold X_Habit_sameDay
  refine j_iconst (pc := 0) d_Habit_sameDay_0 k_i_0 ?_
  refine j_istore_n (pc := 1) d_Habit_sameDay_1 rfl (by decide) rfl ?_
  refine j_lv [1, 2, 0] rfl ?_
  exact X_Habit_sameDay_L2_ok   n 0
-- Habit.comesBack (Z)I
def mt_Habit_comesBack : Mt := ("ShakeHands$Habit", b_Habit_comesBack, 4, some .int, 7, SHx)
theorem d_Habit_comesBack_0 : decode b_Habit_comesBack 0 = .ok (.aload_n 0, 1) := by decide +kernel
theorem d_Habit_comesBack_1 : decode b_Habit_comesBack 1 = .ok (.getfield 22, 3) := by decide +kernel
theorem d_Habit_comesBack_4 : decode b_Habit_comesBack 4 = .ok (.getfield 26, 3) := by decide +kernel
theorem d_Habit_comesBack_7 : decode b_Habit_comesBack 7 = .ok (.iconst 0, 1) := by decide +kernel
theorem d_Habit_comesBack_8 : decode b_Habit_comesBack 8 = .ok (.aload_n 0, 1) := by decide +kernel
theorem d_Habit_comesBack_9 : decode b_Habit_comesBack 9 = .ok (.getfield 15, 3) := by decide +kernel
theorem d_Habit_comesBack_12 : decode b_Habit_comesBack 12 = .ok (.iconst 0, 1) := by decide +kernel
theorem d_Habit_comesBack_13 : decode b_Habit_comesBack 13 = .ok (.bipush 6, 2) := by decide +kernel
theorem d_Habit_comesBack_15 : decode b_Habit_comesBack 15 = .ok (.invokestatic 29, 3) := by decide +kernel
theorem d_Habit_comesBack_18 : decode b_Habit_comesBack 18 = .ok (.iconst 0, 1) := by decide +kernel
theorem d_Habit_comesBack_19 : decode b_Habit_comesBack 19 = .ok (.istore_n 2, 1) := by decide +kernel
theorem d_Habit_comesBack_20 : decode b_Habit_comesBack 20 = .ok (.iload_n 2, 1) := by decide +kernel
theorem d_Habit_comesBack_21 : decode b_Habit_comesBack 21 = .ok (.sipush 200, 3) := by decide +kernel
theorem d_Habit_comesBack_24 : decode b_Habit_comesBack 24 = .ok (.if_icmp .gt 67, 3) := by decide +kernel
theorem d_Habit_comesBack_27 : decode b_Habit_comesBack 27 = .ok (.aload_n 0, 1) := by decide +kernel
theorem d_Habit_comesBack_28 : decode b_Habit_comesBack 28 = .ok (.iload_n 2, 1) := by decide +kernel
theorem d_Habit_comesBack_29 : decode b_Habit_comesBack 29 = .ok (.invokevirtual 49, 3) := by decide +kernel
theorem d_Habit_comesBack_32 : decode b_Habit_comesBack 32 = .ok (.istore_n 3, 1) := by decide +kernel
theorem d_Habit_comesBack_33 : decode b_Habit_comesBack 33 = .ok (.iload_n 3, 1) := by decide +kernel
theorem d_Habit_comesBack_34 : decode b_Habit_comesBack 34 = .ok (.ifCond .lt 15, 3) := by decide +kernel
theorem d_Habit_comesBack_37 : decode b_Habit_comesBack 37 = .ok (.iload_n 1, 1) := by decide +kernel
theorem d_Habit_comesBack_38 : decode b_Habit_comesBack 38 = .ok (.ifCond .eq 9, 3) := by decide +kernel
theorem d_Habit_comesBack_41 : decode b_Habit_comesBack 41 = .ok (.iload_n 2, 1) := by decide +kernel
theorem d_Habit_comesBack_42 : decode b_Habit_comesBack 42 = .ok (.iload_n 3, 1) := by decide +kernel
theorem d_Habit_comesBack_43 : decode b_Habit_comesBack 43 = .ok (.isub, 1) := by decide +kernel
theorem d_Habit_comesBack_44 : decode b_Habit_comesBack 44 = .ok (.goto 4, 3) := by decide +kernel
theorem d_Habit_comesBack_47 : decode b_Habit_comesBack 47 = .ok (.iload_n 3, 1) := by decide +kernel
theorem d_Habit_comesBack_48 : decode b_Habit_comesBack 48 = .ok (.ireturn, 1) := by decide +kernel
theorem d_Habit_comesBack_49 : decode b_Habit_comesBack 49 = .ok (.aload_n 0, 1) := by decide +kernel
theorem d_Habit_comesBack_50 : decode b_Habit_comesBack 50 = .ok (.getfield 15, 3) := by decide +kernel
theorem d_Habit_comesBack_53 : decode b_Habit_comesBack 53 = .ok (.iconst 0, 1) := by decide +kernel
theorem d_Habit_comesBack_54 : decode b_Habit_comesBack 54 = .ok (.aload_n 0, 1) := by decide +kernel
theorem d_Habit_comesBack_55 : decode b_Habit_comesBack 55 = .ok (.getfield 11, 3) := by decide +kernel
theorem d_Habit_comesBack_58 : decode b_Habit_comesBack 58 = .ok (.iload_n 2, 1) := by decide +kernel
theorem d_Habit_comesBack_59 : decode b_Habit_comesBack 59 = .ok (.bipush 6, 2) := by decide +kernel
theorem d_Habit_comesBack_61 : decode b_Habit_comesBack 61 = .ok (.imul, 1) := by decide +kernel
theorem d_Habit_comesBack_62 : decode b_Habit_comesBack 62 = .ok (.bipush 6, 2) := by decide +kernel
theorem d_Habit_comesBack_64 : decode b_Habit_comesBack 64 = .ok (.invokestatic 29, 3) := by decide +kernel
theorem d_Habit_comesBack_67 : decode b_Habit_comesBack 67 = .ok (.aload_n 0, 1) := by decide +kernel
theorem d_Habit_comesBack_68 : decode b_Habit_comesBack 68 = .ok (.getfield 18, 3) := by decide +kernel
theorem d_Habit_comesBack_71 : decode b_Habit_comesBack 71 = .ok (.aload_n 0, 1) := by decide +kernel
theorem d_Habit_comesBack_72 : decode b_Habit_comesBack 72 = .ok (.getfield 15, 3) := by decide +kernel
theorem d_Habit_comesBack_75 : decode b_Habit_comesBack 75 = .ok (.aload_n 0, 1) := by decide +kernel
theorem d_Habit_comesBack_76 : decode b_Habit_comesBack 76 = .ok (.getfield 22, 3) := by decide +kernel
theorem d_Habit_comesBack_79 : decode b_Habit_comesBack 79 = .ok (.getfield 39, 3) := by decide +kernel
theorem d_Habit_comesBack_82 : decode b_Habit_comesBack 82 = .ok (.invokevirtual 43, 3) := by decide +kernel
theorem d_Habit_comesBack_85 : decode b_Habit_comesBack 85 = .ok (.iinc 2 1, 3) := by decide +kernel
theorem d_Habit_comesBack_88 : decode b_Habit_comesBack 88 = .ok (.goto (-68), 3) := by decide +kernel
theorem d_Habit_comesBack_91 : decode b_Habit_comesBack 91 = .ok (.bipush (-4), 2) := by decide +kernel
theorem d_Habit_comesBack_93 : decode b_Habit_comesBack 93 = .ok (.ireturn, 1) := by decide +kernel
def X_Habit_comesBack_L20 (n : Nat) (a1 : Int32) (kx37 : Int32 → Int32 → Mem → Option (Int32 × Mem)) : Nat → Int32 → Mem → Option (Int32 × Mem)
    | 0, _, _ => none
    | m + 1, v2, M => (if 200 < v2 then
    some ((-4), M)
    else
    bd (X_Habit_sameDay n v2 M) fun r1 M2 =>
    (if r1 < 0 then
      gc (0 : Int32) (v2 * 6) (6 : Int32) 6 1206 (
        nm (cpL M2 39 ((0 : Int32).toNatClampNeg) 38 ((v2 * 6).toNatClampNeg) ((6 : Int32).toNatClampNeg)) fun N3 =>
        bd (X_Circle_liveDay n 39 (N3.1 16 1) N3) fun _ M5 =>
        X_Habit_comesBack_L20 n a1 kx37 m (v2 + 1) M5)
      else
      kx37 v2 r1 M2))
def X_Habit_comesBack (n : Nat) (p1 : Int32) (M : Mem) : Option (Int32 × Mem) :=
  gc (0 : Int32) (0 : Int32) (6 : Int32) 6 6 (
    X_Habit_comesBack_L20 n p1 (fun y6 y7 M8 => (if p1 = 0 then
        some (y7, M8)
        else
        some ((y6 - y7), M8))) n 0 (cpL M 17 ((0 : Int32).toNatClampNeg) 39 ((0 : Int32).toNatClampNeg) ((6 : Int32).toNatClampNeg)))
set_option maxRecDepth 20000 in
set_option maxHeartbeats 4000000 in
theorem X_Habit_comesBack_L20_ok {n : Nat} {a1 : Int32} {kx37 : Int32 → Int32 → Mem → Option (Int32 × Mem)} (hkx37 : ∀ (w2 : Int32) (w3 : Int32) (M : Mem), J (mt_Habit_comesBack) wI 37 [(1, Value.int a1), (2, Value.int w2), (3, Value.int w3)] [] M (kx37 w2 w3 M)) : ∀ (m : Nat) (v2 : Int32) (M : Mem), J (mt_Habit_comesBack) wI 20 [(0, Value.ref 37), (1, Value.int a1), (2, Value.int v2)] [] M (X_Habit_comesBack_L20 n a1 kx37 m v2 M) := by
  intro m
  induction m with
  | zero => intro _ _; exact j_none
  | succ m ih =>
    intro v2 M
    show J _ _ _ _ _ _ ((if 200 < v2 then
some ((-4), M)
else
bd (X_Habit_sameDay n v2 M) fun r1 M2 =>
(if r1 < 0 then
gc (0 : Int32) (v2 * 6) (6 : Int32) 6 1206 (
nm (cpL M2 39 ((0 : Int32).toNatClampNeg) 38 ((v2 * 6).toNatClampNeg) ((6 : Int32).toNatClampNeg)) fun N3 =>
bd (X_Circle_liveDay n 39 (N3.1 16 1) N3) fun _ M5 =>
X_Habit_comesBack_L20 n a1 kx37 m (v2 + 1) M5)
else
kx37 v2 r1 M2)))
    refine j_iload_n (pc := 20) (q := 2) d_Habit_comesBack_20 rfl rfl ?_
    refine j_sipush (pc := 21) d_Habit_comesBack_21 k_s_200 ?_
    refine j_icmp_gt (pc := 24) (tgt := 91) d_Habit_comesBack_24 (by decide) (fun _ => ?_) (fun _ => ?_)
    · refine j_bipush (pc := 91) d_Habit_comesBack_91 k_b_m4 ?_
      exact j_ireturn (pc := 93) d_Habit_comesBack_93 rfl
    · refine j_aload_n (pc := 27) (q := 0) d_Habit_comesBack_27 rfl rfl ?_
      refine j_iload_n (pc := 28) (q := 2) d_Habit_comesBack_28 rfl rfl ?_
      refine j_callV1 (pc := 29) d_Habit_comesBack_29 (C_Habit_sameDay n v2 M) cV_Habit_49 cd_Habit_sameDay dn_Habit_sameDay rfl (by decide) (Nat.le_of_ble_eq_true rfl) (Nat.le_of_ble_eq_true rfl) nr_I sx_37 (by decide) rfl (fun r1 M2 => ?_)
      refine j_istore_n (pc := 32) d_Habit_comesBack_32 rfl (by decide) rfl ?_
      refine j_iload_n (pc := 33) (q := 0) d_Habit_comesBack_33 rfl rfl ?_
      refine j_if_lt (pc := 34) (tgt := 49) d_Habit_comesBack_34 (by decide) (fun _ => ?_) (fun _ => ?_)
      · refine j_aload_n (pc := 49) (q := 1) d_Habit_comesBack_49 rfl rfl ?_
        refine j_getA (pc := 50) d_Habit_comesBack_50 fl_Habit_15 sx_37 (by decide) rfl ?_
        refine j_iconst (pc := 53) d_Habit_comesBack_53 k_i_0 ?_
        refine j_aload_n (pc := 54) (q := 1) d_Habit_comesBack_54 rfl rfl ?_
        refine j_getA (pc := 55) d_Habit_comesBack_55 fl_Habit_11 sx_37 (by decide) rfl ?_
        refine j_iload_n (pc := 58) (q := 3) d_Habit_comesBack_58 rfl rfl ?_
        refine j_bipush (pc := 59) d_Habit_comesBack_59 k_b_6 ?_
        refine j_imul (pc := 61) d_Habit_comesBack_61 ?_
        refine j_bipush (pc := 62) d_Habit_comesBack_62 k_b_6 ?_
        refine j_copyL (pc := 64) d_Habit_comesBack_64 cw_Habit_29 cw_nat cw_st sx_39 sx_38 (by decide) (Nat.le_of_ble_eq_true rfl) ?_
        refine j_aload_n (pc := 67) (q := 1) d_Habit_comesBack_67 rfl rfl ?_
        refine j_getA (pc := 68) d_Habit_comesBack_68 fl_Habit_18 sx_37 (by decide) rfl ?_
        refine j_aload_n (pc := 71) (q := 1) d_Habit_comesBack_71 rfl rfl ?_
        refine j_getA (pc := 72) d_Habit_comesBack_72 fl_Habit_15 sx_37 (by decide) rfl ?_
        refine j_aload_n (pc := 75) (q := 1) d_Habit_comesBack_75 rfl rfl ?_
        refine j_getA (pc := 76) d_Habit_comesBack_76 fl_Habit_22 sx_37 (by decide) rfl ?_
        refine j_nmM (fun N3 => ?_)
        refine j_getI (pc := 79) d_Habit_comesBack_79 fl_Habit_39 sx_16 (by decide) rfl ?_
        refine j_callV2 (pc := 82) d_Habit_comesBack_82 (C_Circle_liveDay n 39 sx_39 (N3.1 16 1) N3) cV_Habit_43 cd_Circle_liveDay dn_Circle_liveDay rfl (by decide) (Nat.le_of_ble_eq_true rfl) (Nat.le_of_ble_eq_true rfl) nr_U sx_11 (by decide) rfl (fun r4 M5 => ?_)
        refine j_iinc (pc := 85) (q := 3) d_Habit_comesBack_85 rfl (congrArg (v2 + ·) k_i_1) (by decide) rfl ?_
        refine j_goto (pc := 88) (tgt := 20) d_Habit_comesBack_88 (by decide) ?_
        refine j_lv [2, 3, 0] rfl ?_
        exact ih (v2 + 1) M5
      · refine j_lv [2, 3, 0] rfl ?_
        exact hkx37 v2 r1 M2
set_option maxRecDepth 20000 in
set_option maxHeartbeats 4000000 in
theorem C_Habit_comesBack (n : Nat)   (p1 : Int32) (M : Mem) : Ct y_Habit_comesBack mt_Habit_comesBack wI [Value.ref 37, Value.int p1] M (X_Habit_comesBack n p1 M) := by
  refine ct_of (by decide +kernel) rfl (Nat.le_of_ble_eq_true rfl) ?_
  show J _ _ _ [(0, Value.ref 37), (1, Value.int p1)] _ _ _
  unfold X_Habit_comesBack
  refine j_aload_n (pc := 0) (q := 0) d_Habit_comesBack_0 rfl rfl ?_
  refine j_getA (pc := 1) d_Habit_comesBack_1 fl_Habit_22 sx_37 (by decide) rfl ?_
  refine j_getA (pc := 4) d_Habit_comesBack_4 fl_Habit_26 sx_16 (by decide) rfl ?_
  refine j_iconst (pc := 7) d_Habit_comesBack_7 k_i_0 ?_
  refine j_aload_n (pc := 8) (q := 0) d_Habit_comesBack_8 rfl rfl ?_
  refine j_getA (pc := 9) d_Habit_comesBack_9 fl_Habit_15 sx_37 (by decide) rfl ?_
  refine j_iconst (pc := 12) d_Habit_comesBack_12 k_i_0 ?_
  refine j_bipush (pc := 13) d_Habit_comesBack_13 k_b_6 ?_
  refine j_copyL (pc := 15) d_Habit_comesBack_15 cw_Habit_29 cw_nat cw_st sx_17 sx_39 (by decide) (Nat.le_of_ble_eq_true rfl) ?_
  refine j_iconst (pc := 18) d_Habit_comesBack_18 k_i_0 ?_
  refine j_istore_n (pc := 19) d_Habit_comesBack_19 rfl (by decide) rfl ?_
  refine j_lv [1, 2, 0] rfl ?_
  refine X_Habit_comesBack_L20_ok  (fun y6 y7 M8 => ?_) n 0 (cpL M 17 ((0 : Int32).toNatClampNeg) 39 ((0 : Int32).toNatClampNeg) ((6 : Int32).toNatClampNeg))
  refine j_iload_n (pc := 37) (q := 0) d_Habit_comesBack_37 rfl rfl ?_
  refine j_if_eq (pc := 38) (tgt := 47) d_Habit_comesBack_38 (by decide) (fun _ => ?_) (fun _ => ?_)
  · refine j_iload_n (pc := 47) (q := 2) d_Habit_comesBack_47 rfl rfl ?_
    exact j_ireturn (pc := 48) d_Habit_comesBack_48 rfl
  · refine j_iload_n (pc := 41) (q := 1) d_Habit_comesBack_41 rfl rfl ?_
    refine j_iload_n (pc := 42) (q := 2) d_Habit_comesBack_42 rfl rfl ?_
    refine j_isub (pc := 43) d_Habit_comesBack_43 ?_
    refine j_goto (pc := 44) (tgt := 48) d_Habit_comesBack_44 (by decide) ?_
    exact j_ireturn (pc := 48) d_Habit_comesBack_48 rfl
end
section
-- Search.begin ()V
def mt_Search_begin : Mt := ("ShakeHands$Search", b_Search_begin, 1, none, 2, SHx)
theorem d_Search_begin_0 : decode b_Search_begin 0 = .ok (.aload_n 0, 1) := by decide +kernel
theorem d_Search_begin_1 : decode b_Search_begin 1 = .ok (.aload_n 0, 1) := by decide +kernel
theorem d_Search_begin_2 : decode b_Search_begin 2 = .ok (.getfield 23, 3) := by decide +kernel
theorem d_Search_begin_5 : decode b_Search_begin 5 = .ok (.getfield 31, 3) := by decide +kernel
theorem d_Search_begin_8 : decode b_Search_begin 8 = .ok (.aload_n 0, 1) := by decide +kernel
theorem d_Search_begin_9 : decode b_Search_begin 9 = .ok (.getfield 23, 3) := by decide +kernel
theorem d_Search_begin_12 : decode b_Search_begin 12 = .ok (.getfield 31, 3) := by decide +kernel
theorem d_Search_begin_15 : decode b_Search_begin 15 = .ok (.iconst 1, 1) := by decide +kernel
theorem d_Search_begin_16 : decode b_Search_begin 16 = .ok (.isub, 1) := by decide +kernel
theorem d_Search_begin_17 : decode b_Search_begin 17 = .ok (.imul, 1) := by decide +kernel
theorem d_Search_begin_18 : decode b_Search_begin 18 = .ok (.iconst 2, 1) := by decide +kernel
theorem d_Search_begin_19 : decode b_Search_begin 19 = .ok (.idiv, 1) := by decide +kernel
theorem d_Search_begin_20 : decode b_Search_begin 20 = .ok (.putfield 37, 3) := by decide +kernel
theorem d_Search_begin_23 : decode b_Search_begin 23 = .ok (.aload_n 0, 1) := by decide +kernel
theorem d_Search_begin_24 : decode b_Search_begin 24 = .ok (.getfield 27, 3) := by decide +kernel
theorem d_Search_begin_27 : decode b_Search_begin 27 = .ok (.getfield 40, 3) := by decide +kernel
theorem d_Search_begin_30 : decode b_Search_begin 30 = .ok (.iconst 0, 1) := by decide +kernel
theorem d_Search_begin_31 : decode b_Search_begin 31 = .ok (.aload_n 0, 1) := by decide +kernel
theorem d_Search_begin_32 : decode b_Search_begin 32 = .ok (.getfield 20, 3) := by decide +kernel
theorem d_Search_begin_35 : decode b_Search_begin 35 = .ok (.iconst 0, 1) := by decide +kernel
theorem d_Search_begin_36 : decode b_Search_begin 36 = .ok (.aaload, 1) := by decide +kernel
theorem d_Search_begin_37 : decode b_Search_begin 37 = .ok (.iconst 0, 1) := by decide +kernel
theorem d_Search_begin_38 : decode b_Search_begin 38 = .ok (.bipush 6, 2) := by decide +kernel
theorem d_Search_begin_40 : decode b_Search_begin 40 = .ok (.invokestatic 46, 3) := by decide +kernel
theorem d_Search_begin_43 : decode b_Search_begin 43 = .ok (.return_, 1) := by decide +kernel
def X_Search_begin (n : Nat) (M : Mem) : Option (Unit × Mem) :=
  (if 2 = 0 then none else
    gd (0 : Int32) 7 (
      nm (si M 26 8 (((M.1 11 0) * ((M.1 11 0) - 1)) / 2)) fun N2 =>
      gc (0 : Int32) (0 : Int32) (6 : Int32) 6 6 (
        some ((), cpL N2 17 ((0 : Int32).toNatClampNeg) (([30, 31, 32, 33, 34, 35, 36] : List Nat).getD (0 : Int32).toNatClampNeg 0) ((0 : Int32).toNatClampNeg) ((6 : Int32).toNatClampNeg)))))
set_option maxRecDepth 20000 in
set_option maxHeartbeats 4000000 in
theorem C_Search_begin (n : Nat)    (M : Mem) : Ct y_Search_begin mt_Search_begin wU [Value.ref 26] M (X_Search_begin n M) := by
  refine ct_of (by decide +kernel) rfl (Nat.le_of_ble_eq_true rfl) ?_
  show J _ _ _ [(0, Value.ref 26)] _ _ _
  unfold X_Search_begin
  refine j_aload_n (pc := 0) (q := 0) d_Search_begin_0 rfl rfl ?_
  refine j_aload_n (pc := 1) (q := 0) d_Search_begin_1 rfl rfl ?_
  refine j_getA (pc := 2) d_Search_begin_2 fl_Search_23 sx_26 (by decide) rfl ?_
  refine j_getI (pc := 5) d_Search_begin_5 fl_Search_31 sx_11 (by decide) rfl ?_
  refine j_aload_n (pc := 8) (q := 0) d_Search_begin_8 rfl rfl ?_
  refine j_getA (pc := 9) d_Search_begin_9 fl_Search_23 sx_26 (by decide) rfl ?_
  refine j_getI (pc := 12) d_Search_begin_12 fl_Search_31 sx_11 (by decide) rfl ?_
  refine j_iconst (pc := 15) d_Search_begin_15 k_i_1 ?_
  refine j_isub (pc := 16) d_Search_begin_16 ?_
  refine j_imul (pc := 17) d_Search_begin_17 ?_
  refine j_iconst (pc := 18) d_Search_begin_18 k_i_2 ?_
  refine j_idiv (pc := 19) d_Search_begin_19 (fun _ => ?_)
  refine j_putI (pc := 20) d_Search_begin_20 fl_Search_37 rfl sx_26 (by decide) rfl ?_
  refine j_aload_n (pc := 23) (q := 0) d_Search_begin_23 rfl rfl ?_
  refine j_getA (pc := 24) d_Search_begin_24 fl_Search_27 sx_26 (by decide) rfl ?_
  refine j_getA (pc := 27) d_Search_begin_27 fl_Search_40 sx_16 (by decide) rfl ?_
  refine j_iconst (pc := 30) d_Search_begin_30 k_i_0 ?_
  refine j_aload_n (pc := 31) (q := 0) d_Search_begin_31 rfl rfl ?_
  refine j_getA (pc := 32) d_Search_begin_32 fl_Search_20 sx_26 (by decide) rfl ?_
  refine j_iconst (pc := 35) d_Search_begin_35 k_i_0 ?_
  refine j_aald2 (pc := 36) (ids := [30, 31, 32, 33, 34, 35, 36]) d_Search_begin_36 sx_29 (fun h1 => ?_)
  refine j_iconst (pc := 37) d_Search_begin_37 k_i_0 ?_
  refine j_bipush (pc := 38) d_Search_begin_38 k_b_6 ?_
  refine j_nmM (fun N2 => ?_)
  refine j_copyL (pc := 40) d_Search_begin_40 cw_Search_46 cw_nat cw_st sx_17 (sh_level h1) (by decide) (Nat.le_of_ble_eq_true rfl) ?_
  exact j_return (pc := 43) d_Search_begin_43 rfl
-- Search.aim (IIII)V
def mt_Search_aim : Mt := ("ShakeHands$Search", b_Search_aim, 5, none, 2, SHx)
theorem d_Search_aim_0 : decode b_Search_aim 0 = .ok (.aload_n 0, 1) := by decide +kernel
theorem d_Search_aim_1 : decode b_Search_aim 1 = .ok (.iload_n 1, 1) := by decide +kernel
theorem d_Search_aim_2 : decode b_Search_aim 2 = .ok (.putfield 52, 3) := by decide +kernel
theorem d_Search_aim_5 : decode b_Search_aim 5 = .ok (.aload_n 0, 1) := by decide +kernel
theorem d_Search_aim_6 : decode b_Search_aim 6 = .ok (.iload_n 2, 1) := by decide +kernel
theorem d_Search_aim_7 : decode b_Search_aim 7 = .ok (.putfield 55, 3) := by decide +kernel
theorem d_Search_aim_10 : decode b_Search_aim 10 = .ok (.aload_n 0, 1) := by decide +kernel
theorem d_Search_aim_11 : decode b_Search_aim 11 = .ok (.iload_n 3, 1) := by decide +kernel
theorem d_Search_aim_12 : decode b_Search_aim 12 = .ok (.putfield 58, 3) := by decide +kernel
theorem d_Search_aim_15 : decode b_Search_aim 15 = .ok (.aload_n 0, 1) := by decide +kernel
theorem d_Search_aim_16 : decode b_Search_aim 16 = .ok (.iload 4, 2) := by decide +kernel
theorem d_Search_aim_18 : decode b_Search_aim 18 = .ok (.putfield 61, 3) := by decide +kernel
theorem d_Search_aim_21 : decode b_Search_aim 21 = .ok (.return_, 1) := by decide +kernel
def X_Search_aim (n : Nat) (p1 : Int32) (p2 : Int32) (p3 : Int32) (p4 : Int32) (M : Mem) : Option (Unit × Mem) :=
  some ((), si (si (si (si M 26 9 p1) 26 10 p2) 26 11 p3) 26 12 p4)
set_option maxRecDepth 20000 in
set_option maxHeartbeats 4000000 in
theorem C_Search_aim (n : Nat)   (p1 : Int32) (p2 : Int32) (p3 : Int32) (p4 : Int32) (M : Mem) : Ct y_Search_aim mt_Search_aim wU [Value.ref 26, Value.int p1, Value.int p2, Value.int p3, Value.int p4] M (X_Search_aim n p1 p2 p3 p4 M) := by
  refine ct_of (by decide +kernel) rfl (Nat.le_of_ble_eq_true rfl) ?_
  show J _ _ _ [(0, Value.ref 26), (1, Value.int p1), (2, Value.int p2), (3, Value.int p3), (4, Value.int p4)] _ _ _
  unfold X_Search_aim
  refine j_aload_n (pc := 0) (q := 0) d_Search_aim_0 rfl rfl ?_
  refine j_iload_n (pc := 1) (q := 1) d_Search_aim_1 rfl rfl ?_
  refine j_putI (pc := 2) d_Search_aim_2 fl_Search_52 rfl sx_26 (by decide) rfl ?_
  refine j_aload_n (pc := 5) (q := 0) d_Search_aim_5 rfl rfl ?_
  refine j_iload_n (pc := 6) (q := 2) d_Search_aim_6 rfl rfl ?_
  refine j_putI (pc := 7) d_Search_aim_7 fl_Search_55 rfl sx_26 (by decide) rfl ?_
  refine j_aload_n (pc := 10) (q := 0) d_Search_aim_10 rfl rfl ?_
  refine j_iload_n (pc := 11) (q := 3) d_Search_aim_11 rfl rfl ?_
  refine j_putI (pc := 12) d_Search_aim_12 fl_Search_58 rfl sx_26 (by decide) rfl ?_
  refine j_aload_n (pc := 15) (q := 0) d_Search_aim_15 rfl rfl ?_
  refine j_iload (pc := 16) (q := 4) d_Search_aim_16 rfl ?_
  refine j_putI (pc := 18) d_Search_aim_18 fl_Search_61 rfl sx_26 (by decide) rfl ?_
  exact j_return (pc := 21) d_Search_aim_21 rfl
-- Search.isBarred ([J)Z
def mt_Search_isBarred : Mt := ("ShakeHands$Search", b_Search_isBarred, 2, some .boolean, 3, SHx)
theorem d_Search_isBarred_0 : decode b_Search_isBarred 0 = .ok (.aload_n 1, 1) := by decide +kernel
theorem d_Search_isBarred_1 : decode b_Search_isBarred 1 = .ok (.aload_n 0, 1) := by decide +kernel
theorem d_Search_isBarred_2 : decode b_Search_isBarred 2 = .ok (.getfield 52, 3) := by decide +kernel
theorem d_Search_isBarred_5 : decode b_Search_isBarred 5 = .ok (.invokestatic 97, 3) := by decide +kernel
theorem d_Search_isBarred_8 : decode b_Search_isBarred 8 = .ok (.aload_n 0, 1) := by decide +kernel
theorem d_Search_isBarred_9 : decode b_Search_isBarred 9 = .ok (.getfield 61, 3) := by decide +kernel
theorem d_Search_isBarred_12 : decode b_Search_isBarred 12 = .ok (.iand, 1) := by decide +kernel
theorem d_Search_isBarred_13 : decode b_Search_isBarred 13 = .ok (.ifCond .eq 7, 3) := by decide +kernel
theorem d_Search_isBarred_16 : decode b_Search_isBarred 16 = .ok (.iconst 1, 1) := by decide +kernel
theorem d_Search_isBarred_17 : decode b_Search_isBarred 17 = .ok (.goto 4, 3) := by decide +kernel
theorem d_Search_isBarred_20 : decode b_Search_isBarred 20 = .ok (.iconst 0, 1) := by decide +kernel
theorem d_Search_isBarred_21 : decode b_Search_isBarred 21 = .ok (.ireturn, 1) := by decide +kernel
def X_Search_isBarred (n : Nat) (rows : Nat) (M : Mem) : Option (Int32 × Mem) :=
  bd (X_Minds_knowers n rows (M.1 26 9) M) fun r1 M2 =>
  (if (r1 &&& (M2.1 26 12)) = 0 then
    some (0, M2)
    else
    some (1, M2))
set_option maxRecDepth 20000 in
set_option maxHeartbeats 4000000 in
theorem C_Search_isBarred (n : Nat) (rows : Nat) (h_rows : SHx[rows]? = some (103, [6]))  (M : Mem) : Ct y_Search_isBarred mt_Search_isBarred wI [Value.ref 26, Value.ref rows] M (X_Search_isBarred n rows M) := by
  refine ct_of (by decide +kernel) rfl (Nat.le_of_ble_eq_true rfl) ?_
  show J _ _ _ [(0, Value.ref 26), (1, Value.ref rows)] _ _ _
  unfold X_Search_isBarred
  refine j_aload_n (pc := 0) (q := 1) d_Search_isBarred_0 rfl rfl ?_
  refine j_aload_n (pc := 1) (q := 0) d_Search_isBarred_1 rfl rfl ?_
  refine j_getI (pc := 2) d_Search_isBarred_2 fl_Search_52 sx_26 (by decide) rfl ?_
  refine j_callS2 (pc := 5) d_Search_isBarred_5 (C_Minds_knowers n rows h_rows (M.1 26 9) M) cS_Search_97 cd_Minds_knowers dn_Minds_knowers rfl (by decide) (Nat.le_of_ble_eq_true rfl) (Nat.le_of_ble_eq_true rfl) nr_I (fun r1 M2 => ?_)
  refine j_aload_n (pc := 8) (q := 0) d_Search_isBarred_8 rfl rfl ?_
  refine j_getI (pc := 9) d_Search_isBarred_9 fl_Search_61 sx_26 (by decide) rfl ?_
  refine j_iand (pc := 12) d_Search_isBarred_12 ?_
  refine j_if_eq (pc := 13) (tgt := 20) d_Search_isBarred_13 (by decide) (fun _ => ?_) (fun _ => ?_)
  · refine j_iconst (pc := 20) d_Search_isBarred_20 k_i_0 ?_
    exact j_zreturn (pc := 21) d_Search_isBarred_21 rfl rfl
  · refine j_iconst (pc := 16) d_Search_isBarred_16 k_i_1 ?_
    refine j_goto (pc := 17) (tgt := 21) d_Search_isBarred_17 (by decide) ?_
    exact j_zreturn (pc := 21) d_Search_isBarred_21 rfl rfl
-- Search.amiss ([J)I
def mt_Search_amiss : Mt := ("ShakeHands$Search", b_Search_amiss, 2, some .int, 3, SHx)
theorem d_Search_amiss_0 : decode b_Search_amiss 0 = .ok (.aload_n 1, 1) := by decide +kernel
theorem d_Search_amiss_1 : decode b_Search_amiss 1 = .ok (.aload_n 0, 1) := by decide +kernel
theorem d_Search_amiss_2 : decode b_Search_amiss 2 = .ok (.getfield 52, 3) := by decide +kernel
theorem d_Search_amiss_5 : decode b_Search_amiss 5 = .ok (.invokestatic 97, 3) := by decide +kernel
theorem d_Search_amiss_8 : decode b_Search_amiss 8 = .ok (.aload_n 0, 1) := by decide +kernel
theorem d_Search_amiss_9 : decode b_Search_amiss 9 = .ok (.getfield 55, 3) := by decide +kernel
theorem d_Search_amiss_12 : decode b_Search_amiss 12 = .ok (.ixor, 1) := by decide +kernel
theorem d_Search_amiss_13 : decode b_Search_amiss 13 = .ok (.aload_n 0, 1) := by decide +kernel
theorem d_Search_amiss_14 : decode b_Search_amiss 14 = .ok (.getfield 55, 3) := by decide +kernel
theorem d_Search_amiss_17 : decode b_Search_amiss 17 = .ok (.aload_n 0, 1) := by decide +kernel
theorem d_Search_amiss_18 : decode b_Search_amiss 18 = .ok (.getfield 58, 3) := by decide +kernel
theorem d_Search_amiss_21 : decode b_Search_amiss 21 = .ok (.ior, 1) := by decide +kernel
theorem d_Search_amiss_22 : decode b_Search_amiss 22 = .ok (.iand, 1) := by decide +kernel
theorem d_Search_amiss_23 : decode b_Search_amiss 23 = .ok (.ireturn, 1) := by decide +kernel
def X_Search_amiss (n : Nat) (rows : Nat) (M : Mem) : Option (Int32 × Mem) :=
  bd (X_Minds_knowers n rows (M.1 26 9) M) fun r1 M2 =>
  some (((r1 ^^^ (M2.1 26 10)) &&& ((M2.1 26 10) ||| (M2.1 26 11))), M2)
set_option maxRecDepth 20000 in
set_option maxHeartbeats 4000000 in
theorem C_Search_amiss (n : Nat) (rows : Nat) (h_rows : SHx[rows]? = some (103, [6]))  (M : Mem) : Ct y_Search_amiss mt_Search_amiss wI [Value.ref 26, Value.ref rows] M (X_Search_amiss n rows M) := by
  refine ct_of (by decide +kernel) rfl (Nat.le_of_ble_eq_true rfl) ?_
  show J _ _ _ [(0, Value.ref 26), (1, Value.ref rows)] _ _ _
  unfold X_Search_amiss
  refine j_aload_n (pc := 0) (q := 1) d_Search_amiss_0 rfl rfl ?_
  refine j_aload_n (pc := 1) (q := 0) d_Search_amiss_1 rfl rfl ?_
  refine j_getI (pc := 2) d_Search_amiss_2 fl_Search_52 sx_26 (by decide) rfl ?_
  refine j_callS2 (pc := 5) d_Search_amiss_5 (C_Minds_knowers n rows h_rows (M.1 26 9) M) cS_Search_97 cd_Minds_knowers dn_Minds_knowers rfl (by decide) (Nat.le_of_ble_eq_true rfl) (Nat.le_of_ble_eq_true rfl) nr_I (fun r1 M2 => ?_)
  refine j_aload_n (pc := 8) (q := 0) d_Search_amiss_8 rfl rfl ?_
  refine j_getI (pc := 9) d_Search_amiss_9 fl_Search_55 sx_26 (by decide) rfl ?_
  refine j_ixor (pc := 12) d_Search_amiss_12 ?_
  refine j_aload_n (pc := 13) (q := 0) d_Search_amiss_13 rfl rfl ?_
  refine j_getI (pc := 14) d_Search_amiss_14 fl_Search_55 sx_26 (by decide) rfl ?_
  refine j_aload_n (pc := 17) (q := 0) d_Search_amiss_17 rfl rfl ?_
  refine j_getI (pc := 18) d_Search_amiss_18 fl_Search_58 sx_26 (by decide) rfl ?_
  refine j_ior (pc := 21) d_Search_amiss_21 ?_
  refine j_iand (pc := 22) d_Search_amiss_22 ?_
  exact j_ireturn (pc := 23) d_Search_amiss_23 rfl
-- Search.bitsOf (I)I
def mt_Search_bitsOf : Mt := ("ShakeHands$Search", b_Search_bitsOf, 1, some .int, 2, SHx)
theorem d_Search_bitsOf_0 : decode b_Search_bitsOf 0 = .ok (.iload_n 0, 1) := by decide +kernel
theorem d_Search_bitsOf_1 : decode b_Search_bitsOf 1 = .ok (.ifCond .lt 9, 3) := by decide +kernel
theorem d_Search_bitsOf_4 : decode b_Search_bitsOf 4 = .ok (.iload_n 0, 1) := by decide +kernel
theorem d_Search_bitsOf_5 : decode b_Search_bitsOf 5 = .ok (.bipush 15, 2) := by decide +kernel
theorem d_Search_bitsOf_7 : decode b_Search_bitsOf 7 = .ok (.if_icmp .lt 7, 3) := by decide +kernel
theorem d_Search_bitsOf_10 : decode b_Search_bitsOf 10 = .ok (.iconst 0, 1) := by decide +kernel
theorem d_Search_bitsOf_11 : decode b_Search_bitsOf 11 = .ok (.goto 18, 3) := by decide +kernel
theorem d_Search_bitsOf_14 : decode b_Search_bitsOf 14 = .ok (.iconst 1, 1) := by decide +kernel
theorem d_Search_bitsOf_15 : decode b_Search_bitsOf 15 = .ok (.getstatic 113, 3) := by decide +kernel
theorem d_Search_bitsOf_18 : decode b_Search_bitsOf 18 = .ok (.iload_n 0, 1) := by decide +kernel
theorem d_Search_bitsOf_19 : decode b_Search_bitsOf 19 = .ok (.iaload, 1) := by decide +kernel
theorem d_Search_bitsOf_20 : decode b_Search_bitsOf 20 = .ok (.ishl, 1) := by decide +kernel
theorem d_Search_bitsOf_21 : decode b_Search_bitsOf 21 = .ok (.iconst 1, 1) := by decide +kernel
theorem d_Search_bitsOf_22 : decode b_Search_bitsOf 22 = .ok (.getstatic 116, 3) := by decide +kernel
theorem d_Search_bitsOf_25 : decode b_Search_bitsOf 25 = .ok (.iload_n 0, 1) := by decide +kernel
theorem d_Search_bitsOf_26 : decode b_Search_bitsOf 26 = .ok (.iaload, 1) := by decide +kernel
theorem d_Search_bitsOf_27 : decode b_Search_bitsOf 27 = .ok (.ishl, 1) := by decide +kernel
theorem d_Search_bitsOf_28 : decode b_Search_bitsOf 28 = .ok (.ior, 1) := by decide +kernel
theorem d_Search_bitsOf_29 : decode b_Search_bitsOf 29 = .ok (.ireturn, 1) := by decide +kernel
def X_Search_bitsOf (n : Nat) (p0 : Int32) (M : Mem) : Option (Int32 × Mem) :=
  (if p0 < 0 then
    some (0, M)
    else
    (if p0 < 15 then
      gd p0 15 (
        gd p0 15 (
          some (((1 <<< ((lsr p0.toNatClampNeg) &&& 31)) ||| (1 <<< ((grt p0.toNatClampNeg) &&& 31))), M)))
      else
      some (0, M)))
set_option maxRecDepth 20000 in
set_option maxHeartbeats 4000000 in
theorem C_Search_bitsOf (n : Nat)   (p0 : Int32) (M : Mem) : Ct y_Search_bitsOf mt_Search_bitsOf wI [Value.int p0] M (X_Search_bitsOf n p0 M) := by
  refine ct_of (by decide +kernel) rfl (Nat.le_of_ble_eq_true rfl) ?_
  show J _ _ _ [(0, Value.int p0)] _ _ _
  unfold X_Search_bitsOf
  refine j_iload_n (pc := 0) (q := 0) d_Search_bitsOf_0 rfl rfl ?_
  refine j_if_lt (pc := 1) (tgt := 10) d_Search_bitsOf_1 (by decide) (fun _ => ?_) (fun _ => ?_)
  · refine j_iconst (pc := 10) d_Search_bitsOf_10 k_i_0 ?_
    refine j_goto (pc := 11) (tgt := 29) d_Search_bitsOf_11 (by decide) ?_
    exact j_ireturn (pc := 29) d_Search_bitsOf_29 rfl
  · refine j_iload_n (pc := 4) (q := 0) d_Search_bitsOf_4 rfl rfl ?_
    refine j_bipush (pc := 5) d_Search_bitsOf_5 k_b_15 ?_
    refine j_icmp_lt (pc := 7) (tgt := 14) d_Search_bitsOf_7 (by decide) (fun _ => ?_) (fun _ => ?_)
    · refine j_iconst (pc := 14) d_Search_bitsOf_14 k_i_1 ?_
      refine j_gets200 (pc := 15) d_Search_bitsOf_15 gs_Search_113 ?_
      refine j_iload_n (pc := 18) (q := 0) d_Search_bitsOf_18 rfl rfl ?_
      refine j_ialdS200 (pc := 19) d_Search_bitsOf_19 (fun _ => ?_)
      refine j_ishl (pc := 20) d_Search_bitsOf_20 ?_
      refine j_iconst (pc := 21) d_Search_bitsOf_21 k_i_1 ?_
      refine j_gets201 (pc := 22) d_Search_bitsOf_22 gs_Search_116 ?_
      refine j_iload_n (pc := 25) (q := 0) d_Search_bitsOf_25 rfl rfl ?_
      refine j_ialdS201 (pc := 26) d_Search_bitsOf_26 (fun _ => ?_)
      refine j_ishl (pc := 27) d_Search_bitsOf_27 ?_
      refine j_ior (pc := 28) d_Search_bitsOf_28 ?_
      exact j_ireturn (pc := 29) d_Search_bitsOf_29 rfl
    · refine j_iconst (pc := 10) d_Search_bitsOf_10 k_i_0 ?_
      refine j_goto (pc := 11) (tgt := 29) d_Search_bitsOf_11 (by decide) ?_
      exact j_ireturn (pc := 29) d_Search_bitsOf_29 rfl
-- Search.canMend (III)Z
def mt_Search_canMend : Mt := ("ShakeHands$Search", b_Search_canMend, 3, some .boolean, 3, SHx)
theorem d_Search_canMend_0 : decode b_Search_canMend 0 = .ok (.iload_n 0, 1) := by decide +kernel
theorem d_Search_canMend_1 : decode b_Search_canMend 1 = .ok (.iload_n 1, 1) := by decide +kernel
theorem d_Search_canMend_2 : decode b_Search_canMend 2 = .ok (.iconst (-1), 1) := by decide +kernel
theorem d_Search_canMend_3 : decode b_Search_canMend 3 = .ok (.ixor, 1) := by decide +kernel
theorem d_Search_canMend_4 : decode b_Search_canMend 4 = .ok (.iand, 1) := by decide +kernel
theorem d_Search_canMend_5 : decode b_Search_canMend 5 = .ok (.invokestatic 119, 3) := by decide +kernel
theorem d_Search_canMend_8 : decode b_Search_canMend 8 = .ok (.iconst 2, 1) := by decide +kernel
theorem d_Search_canMend_9 : decode b_Search_canMend 9 = .ok (.iload_n 2, 1) := by decide +kernel
theorem d_Search_canMend_10 : decode b_Search_canMend 10 = .ok (.imul, 1) := by decide +kernel
theorem d_Search_canMend_11 : decode b_Search_canMend 11 = .ok (.if_icmp .gt 7, 3) := by decide +kernel
theorem d_Search_canMend_14 : decode b_Search_canMend 14 = .ok (.iconst 1, 1) := by decide +kernel
theorem d_Search_canMend_15 : decode b_Search_canMend 15 = .ok (.goto 4, 3) := by decide +kernel
theorem d_Search_canMend_18 : decode b_Search_canMend 18 = .ok (.iconst 0, 1) := by decide +kernel
theorem d_Search_canMend_19 : decode b_Search_canMend 19 = .ok (.ireturn, 1) := by decide +kernel
def X_Search_canMend (n : Nat) (p0 : Int32) (p1 : Int32) (p2 : Int32) (M : Mem) : Option (Int32 × Mem) :=
  bd (X_Integer_bitCount n (p0 &&& (p1 ^^^ (-1))) M) fun r1 M2 =>
  (if (2 * p2) < r1 then
    some (0, M2)
    else
    some (1, M2))
set_option maxRecDepth 20000 in
set_option maxHeartbeats 4000000 in
theorem C_Search_canMend (n : Nat)   (p0 : Int32) (p1 : Int32) (p2 : Int32) (M : Mem) : Ct y_Search_canMend mt_Search_canMend wI [Value.int p0, Value.int p1, Value.int p2] M (X_Search_canMend n p0 p1 p2 M) := by
  refine ct_of (by decide +kernel) rfl (Nat.le_of_ble_eq_true rfl) ?_
  show J _ _ _ [(0, Value.int p0), (1, Value.int p1), (2, Value.int p2)] _ _ _
  unfold X_Search_canMend
  refine j_iload_n (pc := 0) (q := 0) d_Search_canMend_0 rfl rfl ?_
  refine j_iload_n (pc := 1) (q := 1) d_Search_canMend_1 rfl rfl ?_
  refine j_iconst (pc := 2) d_Search_canMend_2 k_i_m1 ?_
  refine j_ixor (pc := 3) d_Search_canMend_3 ?_
  refine j_iand (pc := 4) d_Search_canMend_4 ?_
  refine j_callS1 (pc := 5) d_Search_canMend_5 (C_Integer_bitCount n (p0 &&& (p1 ^^^ (-1))) M) cS_Search_119 cd_Integer_bitCount dn_Integer_bitCount rfl (by decide) (Nat.le_of_ble_eq_true rfl) (Nat.le_of_ble_eq_true rfl) nr_I (fun r1 M2 => ?_)
  refine j_iconst (pc := 8) d_Search_canMend_8 k_i_2 ?_
  refine j_iload_n (pc := 9) (q := 2) d_Search_canMend_9 rfl rfl ?_
  refine j_imul (pc := 10) d_Search_canMend_10 ?_
  refine j_icmp_gt (pc := 11) (tgt := 18) d_Search_canMend_11 (by decide) (fun _ => ?_) (fun _ => ?_)
  · refine j_iconst (pc := 18) d_Search_canMend_18 k_i_0 ?_
    exact j_zreturn (pc := 19) d_Search_canMend_19 rfl rfl
  · refine j_iconst (pc := 14) d_Search_canMend_14 k_i_1 ?_
    refine j_goto (pc := 15) (tgt := 19) d_Search_canMend_15 (by decide) ?_
    exact j_zreturn (pc := 19) d_Search_canMend_19 rfl rfl
-- Search.step (II)Z
def mt_Search_step : Mt := ("ShakeHands$Search", b_Search_step, 3, some .boolean, 6, SHx)
theorem d_Search_step_0 : decode b_Search_step 0 = .ok (.iload_n 1, 1) := by decide +kernel
theorem d_Search_step_1 : decode b_Search_step 1 = .ok (.ifCond .lt 9, 3) := by decide +kernel
theorem d_Search_step_4 : decode b_Search_step 4 = .ok (.iload_n 1, 1) := by decide +kernel
theorem d_Search_step_5 : decode b_Search_step 5 = .ok (.bipush 6, 2) := by decide +kernel
theorem d_Search_step_7 : decode b_Search_step 7 = .ok (.if_icmp .lt 5, 3) := by decide +kernel
theorem d_Search_step_10 : decode b_Search_step 10 = .ok (.iconst 0, 1) := by decide +kernel
theorem d_Search_step_11 : decode b_Search_step 11 = .ok (.ireturn, 1) := by decide +kernel
theorem d_Search_step_12 : decode b_Search_step 12 = .ok (.aload_n 0, 1) := by decide +kernel
theorem d_Search_step_13 : decode b_Search_step 13 = .ok (.getfield 20, 3) := by decide +kernel
theorem d_Search_step_16 : decode b_Search_step 16 = .ok (.iload_n 1, 1) := by decide +kernel
theorem d_Search_step_17 : decode b_Search_step 17 = .ok (.aaload, 1) := by decide +kernel
theorem d_Search_step_18 : decode b_Search_step 18 = .ok (.iconst 0, 1) := by decide +kernel
theorem d_Search_step_19 : decode b_Search_step 19 = .ok (.aload_n 0, 1) := by decide +kernel
theorem d_Search_step_20 : decode b_Search_step 20 = .ok (.getfield 20, 3) := by decide +kernel
theorem d_Search_step_23 : decode b_Search_step 23 = .ok (.iload_n 1, 1) := by decide +kernel
theorem d_Search_step_24 : decode b_Search_step 24 = .ok (.iconst 1, 1) := by decide +kernel
theorem d_Search_step_25 : decode b_Search_step 25 = .ok (.iadd, 1) := by decide +kernel
theorem d_Search_step_26 : decode b_Search_step 26 = .ok (.aaload, 1) := by decide +kernel
theorem d_Search_step_27 : decode b_Search_step 27 = .ok (.iconst 0, 1) := by decide +kernel
theorem d_Search_step_28 : decode b_Search_step 28 = .ok (.bipush 6, 2) := by decide +kernel
theorem d_Search_step_30 : decode b_Search_step 30 = .ok (.invokestatic 46, 3) := by decide +kernel
theorem d_Search_step_33 : decode b_Search_step 33 = .ok (.aload_n 0, 1) := by decide +kernel
theorem d_Search_step_34 : decode b_Search_step 34 = .ok (.getfield 23, 3) := by decide +kernel
theorem d_Search_step_37 : decode b_Search_step 37 = .ok (.aload_n 0, 1) := by decide +kernel
theorem d_Search_step_38 : decode b_Search_step 38 = .ok (.getfield 20, 3) := by decide +kernel
theorem d_Search_step_41 : decode b_Search_step 41 = .ok (.iload_n 1, 1) := by decide +kernel
theorem d_Search_step_42 : decode b_Search_step 42 = .ok (.iconst 1, 1) := by decide +kernel
theorem d_Search_step_43 : decode b_Search_step 43 = .ok (.iadd, 1) := by decide +kernel
theorem d_Search_step_44 : decode b_Search_step 44 = .ok (.aaload, 1) := by decide +kernel
theorem d_Search_step_45 : decode b_Search_step 45 = .ok (.aload_n 0, 1) := by decide +kernel
theorem d_Search_step_46 : decode b_Search_step 46 = .ok (.getfield 27, 3) := by decide +kernel
theorem d_Search_step_49 : decode b_Search_step 49 = .ok (.getfield 125, 3) := by decide +kernel
theorem d_Search_step_52 : decode b_Search_step 52 = .ok (.iload_n 2, 1) := by decide +kernel
theorem d_Search_step_53 : decode b_Search_step 53 = .ok (.invokevirtual 128, 3) := by decide +kernel
theorem d_Search_step_56 : decode b_Search_step 56 = .ok (.ireturn, 1) := by decide +kernel
def X_Search_step (n : Nat) (p1 : Int32) (p2 : Int32) (M : Mem) : Option (Int32 × Mem) :=
  (if p1 < 0 then
    some (0, M)
    else
    (if p1 < 6 then
      gd p1 7 (
        gd (p1 + 1) 7 (
          gc (0 : Int32) (0 : Int32) (6 : Int32) 6 6 (
            gd (p1 + 1) 7 (
              nm (cpL M (([30, 31, 32, 33, 34, 35, 36] : List Nat).getD p1.toNatClampNeg 0) ((0 : Int32).toNatClampNeg) (([30, 31, 32, 33, 34, 35, 36] : List Nat).getD (p1 + 1).toNatClampNeg 0) ((0 : Int32).toNatClampNeg) ((6 : Int32).toNatClampNeg)) fun N4 =>
              bd (X_Circle_meet n (([30, 31, 32, 33, 34, 35, 36] : List Nat).getD (p1 + 1).toNatClampNeg 0) (N4.1 16 1) p2 N4) fun r5 M6 =>
              zr r5 M6))))
      else
      some (0, M)))
set_option maxRecDepth 20000 in
set_option maxHeartbeats 4000000 in
theorem C_Search_step (n : Nat)   (p1 : Int32) (p2 : Int32) (M : Mem) : Ct y_Search_step mt_Search_step wI [Value.ref 26, Value.int p1, Value.int p2] M (X_Search_step n p1 p2 M) := by
  refine ct_of (by decide +kernel) rfl (Nat.le_of_ble_eq_true rfl) ?_
  show J _ _ _ [(0, Value.ref 26), (1, Value.int p1), (2, Value.int p2)] _ _ _
  unfold X_Search_step
  refine j_iload_n (pc := 0) (q := 1) d_Search_step_0 rfl rfl ?_
  refine j_if_lt (pc := 1) (tgt := 10) d_Search_step_1 (by decide) (fun _ => ?_) (fun _ => ?_)
  · refine j_iconst (pc := 10) d_Search_step_10 k_i_0 ?_
    exact j_zreturn (pc := 11) d_Search_step_11 rfl rfl
  · refine j_iload_n (pc := 4) (q := 1) d_Search_step_4 rfl rfl ?_
    refine j_bipush (pc := 5) d_Search_step_5 k_b_6 ?_
    refine j_icmp_lt (pc := 7) (tgt := 12) d_Search_step_7 (by decide) (fun _ => ?_) (fun _ => ?_)
    · refine j_aload_n (pc := 12) (q := 0) d_Search_step_12 rfl rfl ?_
      refine j_getA (pc := 13) d_Search_step_13 fl_Search_20 sx_26 (by decide) rfl ?_
      refine j_iload_n (pc := 16) (q := 1) d_Search_step_16 rfl rfl ?_
      refine j_aald2 (pc := 17) (ids := [30, 31, 32, 33, 34, 35, 36]) d_Search_step_17 sx_29 (fun h1 => ?_)
      refine j_iconst (pc := 18) d_Search_step_18 k_i_0 ?_
      refine j_aload_n (pc := 19) (q := 0) d_Search_step_19 rfl rfl ?_
      refine j_getA (pc := 20) d_Search_step_20 fl_Search_20 sx_26 (by decide) rfl ?_
      refine j_iload_n (pc := 23) (q := 1) d_Search_step_23 rfl rfl ?_
      refine j_iconst (pc := 24) d_Search_step_24 k_i_1 ?_
      refine j_iadd (pc := 25) d_Search_step_25 ?_
      refine j_aald2 (pc := 26) (ids := [30, 31, 32, 33, 34, 35, 36]) d_Search_step_26 sx_29 (fun h2 => ?_)
      refine j_iconst (pc := 27) d_Search_step_27 k_i_0 ?_
      refine j_bipush (pc := 28) d_Search_step_28 k_b_6 ?_
      refine j_copyL (pc := 30) d_Search_step_30 cw_Search_46 cw_nat cw_st (sh_level h1) (sh_level h2) (by decide) (Nat.le_of_ble_eq_true rfl) ?_
      refine j_aload_n (pc := 33) (q := 0) d_Search_step_33 rfl rfl ?_
      refine j_getA (pc := 34) d_Search_step_34 fl_Search_23 sx_26 (by decide) rfl ?_
      refine j_aload_n (pc := 37) (q := 0) d_Search_step_37 rfl rfl ?_
      refine j_getA (pc := 38) d_Search_step_38 fl_Search_20 sx_26 (by decide) rfl ?_
      refine j_iload_n (pc := 41) (q := 1) d_Search_step_41 rfl rfl ?_
      refine j_iconst (pc := 42) d_Search_step_42 k_i_1 ?_
      refine j_iadd (pc := 43) d_Search_step_43 ?_
      refine j_aald2 (pc := 44) (ids := [30, 31, 32, 33, 34, 35, 36]) d_Search_step_44 sx_29 (fun h3 => ?_)
      refine j_aload_n (pc := 45) (q := 0) d_Search_step_45 rfl rfl ?_
      refine j_getA (pc := 46) d_Search_step_46 fl_Search_27 sx_26 (by decide) rfl ?_
      refine j_nmM (fun N4 => ?_)
      refine j_getI (pc := 49) d_Search_step_49 fl_Search_125 sx_16 (by decide) rfl ?_
      refine j_iload_n (pc := 52) (q := 2) d_Search_step_52 rfl rfl ?_
      refine j_callV3 (pc := 53) d_Search_step_53 (C_Circle_meet n (([30, 31, 32, 33, 34, 35, 36] : List Nat).getD (p1 + 1).toNatClampNeg 0) (sh_level h3) (N4.1 16 1) p2 N4) cV_Search_128 cd_Circle_meet dn_Circle_meet rfl (by decide) (Nat.le_of_ble_eq_true rfl) (Nat.le_of_ble_eq_true rfl) nr_I sx_11 (by decide) rfl (fun r5 M6 => ?_)
      exact j_zr (pc := 56) d_Search_step_56 rfl
    · refine j_iconst (pc := 10) d_Search_step_10 k_i_0 ?_
      exact j_zreturn (pc := 11) d_Search_step_11 rfl rfl
-- Search.reaches (LShakeHands$Search;II)Z
def mt_Search_reaches (f : Nat) : Mt := ("ShakeHands$Search", b_Search_reaches, 5, some .boolean, 7 + f, SHx)
theorem d_Search_reaches_0 : decode b_Search_reaches 0 = .ok (.aload_n 0, 1) := by decide +kernel
theorem d_Search_reaches_1 : decode b_Search_reaches 1 = .ok (.aload_n 0, 1) := by decide +kernel
theorem d_Search_reaches_2 : decode b_Search_reaches 2 = .ok (.getfield 20, 3) := by decide +kernel
theorem d_Search_reaches_5 : decode b_Search_reaches 5 = .ok (.iload_n 1, 1) := by decide +kernel
theorem d_Search_reaches_6 : decode b_Search_reaches 6 = .ok (.aaload, 1) := by decide +kernel
theorem d_Search_reaches_7 : decode b_Search_reaches 7 = .ok (.invokevirtual 72, 3) := by decide +kernel
theorem d_Search_reaches_10 : decode b_Search_reaches 10 = .ok (.istore_n 3, 1) := by decide +kernel
theorem d_Search_reaches_11 : decode b_Search_reaches 11 = .ok (.iload_n 1, 1) := by decide +kernel
theorem d_Search_reaches_12 : decode b_Search_reaches 12 = .ok (.iload_n 2, 1) := by decide +kernel
theorem d_Search_reaches_13 : decode b_Search_reaches 13 = .ok (.if_icmp .lt 13, 3) := by decide +kernel
theorem d_Search_reaches_16 : decode b_Search_reaches 16 = .ok (.iload_n 3, 1) := by decide +kernel
theorem d_Search_reaches_17 : decode b_Search_reaches 17 = .ok (.ifCond .ne 7, 3) := by decide +kernel
theorem d_Search_reaches_20 : decode b_Search_reaches 20 = .ok (.iconst 1, 1) := by decide +kernel
theorem d_Search_reaches_21 : decode b_Search_reaches 21 = .ok (.goto 4, 3) := by decide +kernel
theorem d_Search_reaches_24 : decode b_Search_reaches 24 = .ok (.iconst 0, 1) := by decide +kernel
theorem d_Search_reaches_25 : decode b_Search_reaches 25 = .ok (.ireturn, 1) := by decide +kernel
theorem d_Search_reaches_26 : decode b_Search_reaches 26 = .ok (.iconst 0, 1) := by decide +kernel
theorem d_Search_reaches_27 : decode b_Search_reaches 27 = .ok (.istore 4, 2) := by decide +kernel
theorem d_Search_reaches_29 : decode b_Search_reaches 29 = .ok (.iload 4, 2) := by decide +kernel
theorem d_Search_reaches_31 : decode b_Search_reaches 31 = .ok (.aload_n 0, 1) := by decide +kernel
theorem d_Search_reaches_32 : decode b_Search_reaches 32 = .ok (.getfield 37, 3) := by decide +kernel
theorem d_Search_reaches_35 : decode b_Search_reaches 35 = .ok (.if_icmp .ge 72, 3) := by decide +kernel
theorem d_Search_reaches_38 : decode b_Search_reaches 38 = .ok (.iload_n 3, 1) := by decide +kernel
theorem d_Search_reaches_39 : decode b_Search_reaches 39 = .ok (.iload 4, 2) := by decide +kernel
theorem d_Search_reaches_41 : decode b_Search_reaches 41 = .ok (.invokestatic 132, 3) := by decide +kernel
theorem d_Search_reaches_44 : decode b_Search_reaches 44 = .ok (.iload_n 2, 1) := by decide +kernel
theorem d_Search_reaches_45 : decode b_Search_reaches 45 = .ok (.iload_n 1, 1) := by decide +kernel
theorem d_Search_reaches_46 : decode b_Search_reaches 46 = .ok (.isub, 1) := by decide +kernel
theorem d_Search_reaches_47 : decode b_Search_reaches 47 = .ok (.iconst 1, 1) := by decide +kernel
theorem d_Search_reaches_48 : decode b_Search_reaches 48 = .ok (.isub, 1) := by decide +kernel
theorem d_Search_reaches_49 : decode b_Search_reaches 49 = .ok (.invokestatic 135, 3) := by decide +kernel
theorem d_Search_reaches_52 : decode b_Search_reaches 52 = .ok (.ifCond .eq 49, 3) := by decide +kernel
theorem d_Search_reaches_55 : decode b_Search_reaches 55 = .ok (.aload_n 0, 1) := by decide +kernel
theorem d_Search_reaches_56 : decode b_Search_reaches 56 = .ok (.iload_n 1, 1) := by decide +kernel
theorem d_Search_reaches_57 : decode b_Search_reaches 57 = .ok (.iload 4, 2) := by decide +kernel
theorem d_Search_reaches_59 : decode b_Search_reaches 59 = .ok (.invokevirtual 139, 3) := by decide +kernel
theorem d_Search_reaches_62 : decode b_Search_reaches 62 = .ok (.ifCond .eq 39, 3) := by decide +kernel
theorem d_Search_reaches_65 : decode b_Search_reaches 65 = .ok (.aload_n 0, 1) := by decide +kernel
theorem d_Search_reaches_66 : decode b_Search_reaches 66 = .ok (.aload_n 0, 1) := by decide +kernel
theorem d_Search_reaches_67 : decode b_Search_reaches 67 = .ok (.getfield 20, 3) := by decide +kernel
theorem d_Search_reaches_70 : decode b_Search_reaches 70 = .ok (.iload_n 1, 1) := by decide +kernel
theorem d_Search_reaches_71 : decode b_Search_reaches 71 = .ok (.iconst 1, 1) := by decide +kernel
theorem d_Search_reaches_72 : decode b_Search_reaches 72 = .ok (.iadd, 1) := by decide +kernel
theorem d_Search_reaches_73 : decode b_Search_reaches 73 = .ok (.aaload, 1) := by decide +kernel
theorem d_Search_reaches_74 : decode b_Search_reaches 74 = .ok (.invokevirtual 64, 3) := by decide +kernel
theorem d_Search_reaches_77 : decode b_Search_reaches 77 = .ok (.ifCond .ne 24, 3) := by decide +kernel
theorem d_Search_reaches_80 : decode b_Search_reaches 80 = .ok (.aload_n 0, 1) := by decide +kernel
theorem d_Search_reaches_81 : decode b_Search_reaches 81 = .ok (.getfield 11, 3) := by decide +kernel
theorem d_Search_reaches_84 : decode b_Search_reaches 84 = .ok (.iload_n 1, 1) := by decide +kernel
theorem d_Search_reaches_85 : decode b_Search_reaches 85 = .ok (.iload 4, 2) := by decide +kernel
theorem d_Search_reaches_87 : decode b_Search_reaches 87 = .ok (.iastore, 1) := by decide +kernel
theorem d_Search_reaches_88 : decode b_Search_reaches 88 = .ok (.aload_n 0, 1) := by decide +kernel
theorem d_Search_reaches_89 : decode b_Search_reaches 89 = .ok (.iload_n 1, 1) := by decide +kernel
theorem d_Search_reaches_90 : decode b_Search_reaches 90 = .ok (.iconst 1, 1) := by decide +kernel
theorem d_Search_reaches_91 : decode b_Search_reaches 91 = .ok (.iadd, 1) := by decide +kernel
theorem d_Search_reaches_92 : decode b_Search_reaches 92 = .ok (.iload_n 2, 1) := by decide +kernel
theorem d_Search_reaches_93 : decode b_Search_reaches 93 = .ok (.invokestatic 68, 3) := by decide +kernel
theorem d_Search_reaches_96 : decode b_Search_reaches 96 = .ok (.ifCond .eq 5, 3) := by decide +kernel
theorem d_Search_reaches_99 : decode b_Search_reaches 99 = .ok (.iconst 1, 1) := by decide +kernel
theorem d_Search_reaches_100 : decode b_Search_reaches 100 = .ok (.ireturn, 1) := by decide +kernel
theorem d_Search_reaches_101 : decode b_Search_reaches 101 = .ok (.iinc 4 1, 3) := by decide +kernel
theorem d_Search_reaches_104 : decode b_Search_reaches 104 = .ok (.goto (-75), 3) := by decide +kernel
theorem d_Search_reaches_107 : decode b_Search_reaches 107 = .ok (.iconst 0, 1) := by decide +kernel
theorem d_Search_reaches_108 : decode b_Search_reaches 108 = .ok (.ireturn, 1) := by decide +kernel
def X_Search_reaches_L29 (n : Nat) (self : Int32 → Int32 → Mem → Option (Int32 × Mem)) (a1 : Int32) (a2 : Int32) (a3 : Int32) : Nat → Int32 → Mem → Option (Int32 × Mem)
    | 0, _, _ => none
    | m + 1, v4, M => (if (M.1 26 8) ≤ v4 then
    some (0, M)
    else
    bd (X_Search_bitsOf n v4 M) fun r4 M5 =>
    bd (X_Search_canMend n a3 r4 ((a2 - a1) - 1) M5) fun r6 M7 =>
    nm (fun (M8 : Mem) => X_Search_reaches_L29 n self a1 a2 a3 m (v4 + 1) M8) fun k101 =>
    (if r6 = 0 then
      k101 M7
      else
      bd (X_Search_step n a1 v4 M7) fun r9 M10 =>
      (if r9 = 0 then
        k101 M10
        else
        gd (a1 + 1) 7 (
          bd (X_Search_isBarred n (([30, 31, 32, 33, 34, 35, 36] : List Nat).getD (a1 + 1).toNatClampNeg 0) M10) fun r12 M13 =>
          (if r12 = 0 then
            gd a1 6 (
              nm (si M13 27 (a1.toNatClampNeg) v4) fun N14 =>
              bd (self (a1 + 1) a2 N14) fun r15 M16 =>
              (if r15 = 0 then
                k101 M16
                else
                some (1, M16)))
            else
            k101 M13)))))
def X_Search_reaches (n : Nat) : Nat → Int32 → Int32 → Mem → Option (Int32 × Mem)
    | 0, _, _, _ => none
    | f + 1, p1, p2, M => gd p1 7 (
    bd (X_Search_amiss n (([30, 31, 32, 33, 34, 35, 36] : List Nat).getD p1.toNatClampNeg 0) M) fun r2 M3 =>
    (if p1 < p2 then
      X_Search_reaches_L29 n (X_Search_reaches n f) p1 p2 r2 n 0 M3
      else
      (if r2 = 0 then
        some (1, M3)
        else
        some (0, M3))))
set_option maxRecDepth 20000 in
set_option maxHeartbeats 4000000 in
theorem X_Search_reaches_L29_ok {n : Nat} {f : Nat} {self : Int32 → Int32 → Mem → Option (Int32 × Mem)} {a1 : Int32} {a2 : Int32} {a3 : Int32} (hself : ∀ (q0 : Int32) (q1 : Int32) (M : Mem), Ct y_Search_reaches (mt_Search_reaches f) wI [Value.ref 26, Value.int q0, Value.int q1] M (self q0 q1 M)) : ∀ (m : Nat) (v4 : Int32) (M : Mem), J (mt_Search_reaches (f + 1)) wI 29 [(0, Value.ref 26), (1, Value.int a1), (2, Value.int a2), (3, Value.int a3), (4, Value.int v4)] [] M (X_Search_reaches_L29 n self a1 a2 a3 m v4 M) := by
  intro m
  induction m with
  | zero => intro _ _; exact j_none
  | succ m ih =>
    intro v4 M
    show J _ _ _ _ _ _ ((if (M.1 26 8) ≤ v4 then
some (0, M)
else
bd (X_Search_bitsOf n v4 M) fun r4 M5 =>
bd (X_Search_canMend n a3 r4 ((a2 - a1) - 1) M5) fun r6 M7 =>
nm (fun (M8 : Mem) => X_Search_reaches_L29 n self a1 a2 a3 m (v4 + 1) M8) fun k101 =>
(if r6 = 0 then
k101 M7
else
bd (X_Search_step n a1 v4 M7) fun r9 M10 =>
(if r9 = 0 then
k101 M10
else
gd (a1 + 1) 7 (
bd (X_Search_isBarred n (([30, 31, 32, 33, 34, 35, 36] : List Nat).getD (a1 + 1).toNatClampNeg 0) M10) fun r12 M13 =>
(if r12 = 0 then
gd a1 6 (
nm (si M13 27 (a1.toNatClampNeg) v4) fun N14 =>
bd (self (a1 + 1) a2 N14) fun r15 M16 =>
(if r15 = 0 then
k101 M16
else
some (1, M16)))
else
k101 M13))))))
    refine j_iload (pc := 29) (q := 4) d_Search_reaches_29 rfl ?_
    refine j_aload_n (pc := 31) (q := 0) d_Search_reaches_31 rfl rfl ?_
    refine j_getI (pc := 32) d_Search_reaches_32 fl_Search_37 sx_26 (by decide) rfl ?_
    refine j_icmp_ge (pc := 35) (tgt := 107) d_Search_reaches_35 (by decide) (fun _ => ?_) (fun _ => ?_)
    · refine j_iconst (pc := 107) d_Search_reaches_107 k_i_0 ?_
      exact j_zreturn (pc := 108) d_Search_reaches_108 rfl rfl
    · refine j_iload_n (pc := 38) (q := 3) d_Search_reaches_38 rfl rfl ?_
      refine j_iload (pc := 39) (q := 4) d_Search_reaches_39 rfl ?_
      refine j_callS1 (pc := 41) d_Search_reaches_41 (C_Search_bitsOf n v4 M) cS_Search_132 cd_Search_bitsOf dn_Search_bitsOf rfl (by show 2 + 1 ≤ 7 + (f + 1); omega) (Nat.le_of_ble_eq_true rfl) (Nat.le_of_ble_eq_true rfl) nr_I (fun r4 M5 => ?_)
      refine j_iload_n (pc := 44) (q := 2) d_Search_reaches_44 rfl rfl ?_
      refine j_iload_n (pc := 45) (q := 1) d_Search_reaches_45 rfl rfl ?_
      refine j_isub (pc := 46) d_Search_reaches_46 ?_
      refine j_iconst (pc := 47) d_Search_reaches_47 k_i_1 ?_
      refine j_isub (pc := 48) d_Search_reaches_48 ?_
      refine j_callS3 (pc := 49) d_Search_reaches_49 (C_Search_canMend n a3 r4 ((a2 - a1) - 1) M5) cS_Search_135 cd_Search_canMend dn_Search_canMend rfl (by show 3 + 1 ≤ 7 + (f + 1); omega) (Nat.le_of_ble_eq_true rfl) (Nat.le_of_ble_eq_true rfl) nr_I (fun r6 M7 => ?_)
      refine j_nmk (fun k => ∀ (M8 : Mem), J (mt_Search_reaches (f + 1)) wI 101 [(0, Value.ref 26), (1, Value.int a1), (2, Value.int a2), (3, Value.int a3), (4, Value.int v4)] [] M8 (k M8)) (fun M8 => ?_) (fun k101 hk101 => ?_)
      · refine j_iinc (pc := 101) (q := 4) d_Search_reaches_101 rfl (congrArg (v4 + ·) k_i_1) (by show 4 < 5; decide) rfl ?_
        refine j_goto (pc := 104) (tgt := 29) d_Search_reaches_104 (by decide) ?_
        refine j_lv [1, 2, 3, 4, 0] rfl ?_
        exact ih (v4 + 1) M8
      · refine j_if_eq (pc := 52) (tgt := 101) d_Search_reaches_52 (by decide) (fun _ => ?_) (fun _ => ?_)
        · exact hk101 M7
        · refine j_aload_n (pc := 55) (q := 0) d_Search_reaches_55 rfl rfl ?_
          refine j_iload_n (pc := 56) (q := 1) d_Search_reaches_56 rfl rfl ?_
          refine j_iload (pc := 57) (q := 4) d_Search_reaches_57 rfl ?_
          refine j_callV2 (pc := 59) d_Search_reaches_59 (C_Search_step n a1 v4 M7) cV_Search_139 cd_Search_step dn_Search_step rfl (by show 6 + 1 ≤ 7 + (f + 1); omega) (Nat.le_of_ble_eq_true rfl) (Nat.le_of_ble_eq_true rfl) nr_I sx_26 (by decide) rfl (fun r9 M10 => ?_)
          refine j_if_eq (pc := 62) (tgt := 101) d_Search_reaches_62 (by decide) (fun _ => ?_) (fun _ => ?_)
          · exact hk101 M10
          · refine j_aload_n (pc := 65) (q := 0) d_Search_reaches_65 rfl rfl ?_
            refine j_aload_n (pc := 66) (q := 0) d_Search_reaches_66 rfl rfl ?_
            refine j_getA (pc := 67) d_Search_reaches_67 fl_Search_20 sx_26 (by decide) rfl ?_
            refine j_iload_n (pc := 70) (q := 1) d_Search_reaches_70 rfl rfl ?_
            refine j_iconst (pc := 71) d_Search_reaches_71 k_i_1 ?_
            refine j_iadd (pc := 72) d_Search_reaches_72 ?_
            refine j_aald2 (pc := 73) (ids := [30, 31, 32, 33, 34, 35, 36]) d_Search_reaches_73 sx_29 (fun h11 => ?_)
            refine j_callV1 (pc := 74) d_Search_reaches_74 (C_Search_isBarred n (([30, 31, 32, 33, 34, 35, 36] : List Nat).getD (a1 + 1).toNatClampNeg 0) (sh_level h11) M10) cV_Search_64 cd_Search_isBarred dn_Search_isBarred rfl (by show 3 + 1 ≤ 7 + (f + 1); omega) (Nat.le_of_ble_eq_true rfl) (Nat.le_of_ble_eq_true rfl) nr_I sx_26 (by decide) rfl (fun r12 M13 => ?_)
            refine j_if_ne (pc := 77) (tgt := 101) d_Search_reaches_77 (by decide) (fun _ => ?_) (fun _ => ?_)
            · exact hk101 M13
            · refine j_aload_n (pc := 80) (q := 0) d_Search_reaches_80 rfl rfl ?_
              refine j_getA (pc := 81) d_Search_reaches_81 fl_Search_11 sx_26 (by decide) rfl ?_
              refine j_iload_n (pc := 84) (q := 1) d_Search_reaches_84 rfl rfl ?_
              refine j_iload (pc := 85) (q := 4) d_Search_reaches_85 rfl ?_
              refine j_iast (pc := 87) d_Search_reaches_87 sx_27 (fun _ => ?_)
              refine j_aload_n (pc := 88) (q := 0) d_Search_reaches_88 rfl rfl ?_
              refine j_iload_n (pc := 89) (q := 1) d_Search_reaches_89 rfl rfl ?_
              refine j_iconst (pc := 90) d_Search_reaches_90 k_i_1 ?_
              refine j_iadd (pc := 91) d_Search_reaches_91 ?_
              refine j_iload_n (pc := 92) (q := 2) d_Search_reaches_92 rfl rfl ?_
              refine j_nmM (fun N14 => ?_)
              refine j_callS3 (pc := 93) d_Search_reaches_93 (hself (a1 + 1) a2 N14) cS_Search_68 cd_Search_reaches dn_Search_reaches rfl (Nat.le_refl _) (Nat.le_of_ble_eq_true rfl) (Nat.le_of_ble_eq_true rfl) nr_I (fun r15 M16 => ?_)
              refine j_if_eq (pc := 96) (tgt := 101) d_Search_reaches_96 (by decide) (fun _ => ?_) (fun _ => ?_)
              · exact hk101 M16
              · refine j_iconst (pc := 99) d_Search_reaches_99 k_i_1 ?_
                exact j_zreturn (pc := 100) d_Search_reaches_100 rfl rfl
set_option maxRecDepth 20000 in
set_option maxHeartbeats 4000000 in
theorem C_Search_reaches (n : Nat) : ∀ (f : Nat) (p1 : Int32) (p2 : Int32) (M : Mem), Ct y_Search_reaches (mt_Search_reaches f) wI [Value.ref 26, Value.int p1, Value.int p2] M (X_Search_reaches n f p1 p2 M) := by
  intro f
  induction f with
  | zero => intro p1 p2 M r M2 hF; cases hF
  | succ f ihf =>
    intro p1 p2 M
    refine ct_of (by decide +kernel) rfl (Nat.le_of_ble_eq_true rfl) ?_
    show J _ _ _ [(0, Value.ref 26), (1, Value.int p1), (2, Value.int p2)] _ _ (gd p1 7 (
bd (X_Search_amiss n (([30, 31, 32, 33, 34, 35, 36] : List Nat).getD p1.toNatClampNeg 0) M) fun r2 M3 =>
(if p1 < p2 then
X_Search_reaches_L29 n (X_Search_reaches n f) p1 p2 r2 n 0 M3
else
(if r2 = 0 then
some (1, M3)
else
some (0, M3)))))
    refine j_aload_n (pc := 0) (q := 0) d_Search_reaches_0 rfl rfl ?_
    refine j_aload_n (pc := 1) (q := 0) d_Search_reaches_1 rfl rfl ?_
    refine j_getA (pc := 2) d_Search_reaches_2 fl_Search_20 sx_26 (by decide) rfl ?_
    refine j_iload_n (pc := 5) (q := 1) d_Search_reaches_5 rfl rfl ?_
    refine j_aald2 (pc := 6) (ids := [30, 31, 32, 33, 34, 35, 36]) d_Search_reaches_6 sx_29 (fun h1 => ?_)
    refine j_callV1 (pc := 7) d_Search_reaches_7 (C_Search_amiss n (([30, 31, 32, 33, 34, 35, 36] : List Nat).getD p1.toNatClampNeg 0) (sh_level h1) M) cV_Search_72 cd_Search_amiss dn_Search_amiss rfl (by show 3 + 1 ≤ 7 + (f + 1); omega) (Nat.le_of_ble_eq_true rfl) (Nat.le_of_ble_eq_true rfl) nr_I sx_26 (by decide) rfl (fun r2 M3 => ?_)
    refine j_istore_n (pc := 10) d_Search_reaches_10 rfl (by show 3 < 5; decide) rfl ?_
    refine j_iload_n (pc := 11) (q := 2) d_Search_reaches_11 rfl rfl ?_
    refine j_iload_n (pc := 12) (q := 3) d_Search_reaches_12 rfl rfl ?_
    refine j_icmp_lt (pc := 13) (tgt := 26) d_Search_reaches_13 (by decide) (fun _ => ?_) (fun _ => ?_)
    · refine j_iconst (pc := 26) d_Search_reaches_26 k_i_0 ?_
      refine j_istore (pc := 27) d_Search_reaches_27 (by show 4 < 5; decide) rfl ?_
      refine j_lv [2, 3, 4, 1, 0] rfl ?_
      exact X_Search_reaches_L29_ok ihf  n 0 M3
    · refine j_iload_n (pc := 16) (q := 0) d_Search_reaches_16 rfl rfl ?_
      refine j_if_ne (pc := 17) (tgt := 24) d_Search_reaches_17 (by decide) (fun _ => ?_) (fun _ => ?_)
      · refine j_iconst (pc := 24) d_Search_reaches_24 k_i_0 ?_
        exact j_zreturn (pc := 25) d_Search_reaches_25 rfl rfl
      · refine j_iconst (pc := 20) d_Search_reaches_20 k_i_1 ?_
        refine j_goto (pc := 21) (tgt := 25) d_Search_reaches_21 (by decide) ?_
        exact j_zreturn (pc := 25) d_Search_reaches_25 rfl rfl
-- Search.fewestHands ()I
def mt_Search_fewestHands : Mt := ("ShakeHands$Search", b_Search_fewestHands, 2, some .int, 20, SHx)
theorem d_Search_fewestHands_0 : decode b_Search_fewestHands 0 = .ok (.aload_n 0, 1) := by decide +kernel
theorem d_Search_fewestHands_1 : decode b_Search_fewestHands 1 = .ok (.aload_n 0, 1) := by decide +kernel
theorem d_Search_fewestHands_2 : decode b_Search_fewestHands 2 = .ok (.getfield 20, 3) := by decide +kernel
theorem d_Search_fewestHands_5 : decode b_Search_fewestHands 5 = .ok (.iconst 0, 1) := by decide +kernel
theorem d_Search_fewestHands_6 : decode b_Search_fewestHands 6 = .ok (.aaload, 1) := by decide +kernel
theorem d_Search_fewestHands_7 : decode b_Search_fewestHands 7 = .ok (.invokevirtual 64, 3) := by decide +kernel
theorem d_Search_fewestHands_10 : decode b_Search_fewestHands 10 = .ok (.ifCond .eq 6, 3) := by decide +kernel
theorem d_Search_fewestHands_13 : decode b_Search_fewestHands 13 = .ok (.bipush (-4), 2) := by decide +kernel
theorem d_Search_fewestHands_15 : decode b_Search_fewestHands 15 = .ok (.ireturn, 1) := by decide +kernel
theorem d_Search_fewestHands_16 : decode b_Search_fewestHands 16 = .ok (.iconst 0, 1) := by decide +kernel
theorem d_Search_fewestHands_17 : decode b_Search_fewestHands 17 = .ok (.istore_n 1, 1) := by decide +kernel
theorem d_Search_fewestHands_18 : decode b_Search_fewestHands 18 = .ok (.iload_n 1, 1) := by decide +kernel
theorem d_Search_fewestHands_19 : decode b_Search_fewestHands 19 = .ok (.iconst 4, 1) := by decide +kernel
theorem d_Search_fewestHands_20 : decode b_Search_fewestHands 20 = .ok (.if_icmp .gt 20, 3) := by decide +kernel
theorem d_Search_fewestHands_23 : decode b_Search_fewestHands 23 = .ok (.aload_n 0, 1) := by decide +kernel
theorem d_Search_fewestHands_24 : decode b_Search_fewestHands 24 = .ok (.iconst 0, 1) := by decide +kernel
theorem d_Search_fewestHands_25 : decode b_Search_fewestHands 25 = .ok (.iload_n 1, 1) := by decide +kernel
theorem d_Search_fewestHands_26 : decode b_Search_fewestHands 26 = .ok (.invokestatic 68, 3) := by decide +kernel
theorem d_Search_fewestHands_29 : decode b_Search_fewestHands 29 = .ok (.ifCond .eq 5, 3) := by decide +kernel
theorem d_Search_fewestHands_32 : decode b_Search_fewestHands 32 = .ok (.iload_n 1, 1) := by decide +kernel
theorem d_Search_fewestHands_33 : decode b_Search_fewestHands 33 = .ok (.ireturn, 1) := by decide +kernel
theorem d_Search_fewestHands_34 : decode b_Search_fewestHands 34 = .ok (.iinc 1 1, 3) := by decide +kernel
theorem d_Search_fewestHands_37 : decode b_Search_fewestHands 37 = .ok (.goto (-19), 3) := by decide +kernel
theorem d_Search_fewestHands_40 : decode b_Search_fewestHands 40 = .ok (.bipush (-4), 2) := by decide +kernel
theorem d_Search_fewestHands_42 : decode b_Search_fewestHands 42 = .ok (.ireturn, 1) := by decide +kernel
def X_Search_fewestHands_L18 (n : Nat) : Nat → Int32 → Mem → Option (Int32 × Mem)
    | 0, _, _ => none
    | m + 1, v1, M => (if 4 < v1 then
    some ((-4), M)
    else
    bd (X_Search_reaches n 12 0 v1 M) fun r4 M5 =>
    (if r4 = 0 then
      X_Search_fewestHands_L18 n m (v1 + 1) M5
      else
      some (v1, M5)))
def X_Search_fewestHands (n : Nat) (M : Mem) : Option (Int32 × Mem) :=
  gd (0 : Int32) 7 (
    bd (X_Search_isBarred n (([30, 31, 32, 33, 34, 35, 36] : List Nat).getD (0 : Int32).toNatClampNeg 0) M) fun r2 M3 =>
    (if r2 = 0 then
      X_Search_fewestHands_L18 n n 0 M3
      else
      some ((-4), M3)))
set_option maxRecDepth 20000 in
set_option maxHeartbeats 4000000 in
theorem X_Search_fewestHands_L18_ok {n : Nat} : ∀ (m : Nat) (v1 : Int32) (M : Mem), J (mt_Search_fewestHands) wI 18 [(0, Value.ref 26), (1, Value.int v1)] [] M (X_Search_fewestHands_L18 n m v1 M) := by
  intro m
  induction m with
  | zero => intro _ _; exact j_none
  | succ m ih =>
    intro v1 M
    show J _ _ _ _ _ _ ((if 4 < v1 then
some ((-4), M)
else
bd (X_Search_reaches n 12 0 v1 M) fun r4 M5 =>
(if r4 = 0 then
X_Search_fewestHands_L18 n m (v1 + 1) M5
else
some (v1, M5))))
    refine j_iload_n (pc := 18) (q := 1) d_Search_fewestHands_18 rfl rfl ?_
    refine j_iconst (pc := 19) d_Search_fewestHands_19 k_i_4 ?_
    refine j_icmp_gt (pc := 20) (tgt := 40) d_Search_fewestHands_20 (by decide) (fun _ => ?_) (fun _ => ?_)
    · refine j_bipush (pc := 40) d_Search_fewestHands_40 k_b_m4 ?_
      exact j_ireturn (pc := 42) d_Search_fewestHands_42 rfl
    · refine j_aload_n (pc := 23) (q := 0) d_Search_fewestHands_23 rfl rfl ?_
      refine j_iconst (pc := 24) d_Search_fewestHands_24 k_i_0 ?_
      refine j_iload_n (pc := 25) (q := 1) d_Search_fewestHands_25 rfl rfl ?_
      refine j_callS3 (pc := 26) d_Search_fewestHands_26 (C_Search_reaches n 12 0 v1 M) cS_Search_68 cd_Search_reaches dn_Search_reaches rfl (by decide) (Nat.le_of_ble_eq_true rfl) (Nat.le_of_ble_eq_true rfl) nr_I (fun r4 M5 => ?_)
      refine j_if_eq (pc := 29) (tgt := 34) d_Search_fewestHands_29 (by decide) (fun _ => ?_) (fun _ => ?_)
      · refine j_iinc (pc := 34) (q := 1) d_Search_fewestHands_34 rfl (congrArg (v1 + ·) k_i_1) (by decide) rfl ?_
        refine j_goto (pc := 37) (tgt := 18) d_Search_fewestHands_37 (by decide) ?_
        refine j_lv [1, 0] rfl ?_
        exact ih (v1 + 1) M5
      · refine j_iload_n (pc := 32) (q := 1) d_Search_fewestHands_32 rfl rfl ?_
        exact j_ireturn (pc := 33) d_Search_fewestHands_33 rfl
set_option maxRecDepth 20000 in
set_option maxHeartbeats 4000000 in
theorem C_Search_fewestHands (n : Nat)    (M : Mem) : Ct y_Search_fewestHands mt_Search_fewestHands wI [Value.ref 26] M (X_Search_fewestHands n M) := by
  refine ct_of (by decide +kernel) rfl (Nat.le_of_ble_eq_true rfl) ?_
  show J _ _ _ [(0, Value.ref 26)] _ _ _
  unfold X_Search_fewestHands
  refine j_aload_n (pc := 0) (q := 0) d_Search_fewestHands_0 rfl rfl ?_
  refine j_aload_n (pc := 1) (q := 0) d_Search_fewestHands_1 rfl rfl ?_
  refine j_getA (pc := 2) d_Search_fewestHands_2 fl_Search_20 sx_26 (by decide) rfl ?_
  refine j_iconst (pc := 5) d_Search_fewestHands_5 k_i_0 ?_
  refine j_aald2 (pc := 6) (ids := [30, 31, 32, 33, 34, 35, 36]) d_Search_fewestHands_6 sx_29 (fun h1 => ?_)
  refine j_callV1 (pc := 7) d_Search_fewestHands_7 (C_Search_isBarred n (([30, 31, 32, 33, 34, 35, 36] : List Nat).getD (0 : Int32).toNatClampNeg 0) (sh_level h1) M) cV_Search_64 cd_Search_isBarred dn_Search_isBarred rfl (by decide) (Nat.le_of_ble_eq_true rfl) (Nat.le_of_ble_eq_true rfl) nr_I sx_26 (by decide) rfl (fun r2 M3 => ?_)
  refine j_if_eq (pc := 10) (tgt := 16) d_Search_fewestHands_10 (by decide) (fun _ => ?_) (fun _ => ?_)
  · refine j_iconst (pc := 16) d_Search_fewestHands_16 k_i_0 ?_
    refine j_istore_n (pc := 17) d_Search_fewestHands_17 rfl (by decide) rfl ?_
    refine j_lv [1, 0] rfl ?_
    exact X_Search_fewestHands_L18_ok   n 0 M3
  · refine j_bipush (pc := 13) d_Search_fewestHands_13 k_b_m4 ?_
    exact j_ireturn (pc := 15) d_Search_fewestHands_15 rfl
-- Search.turns (LShakeHands$Search;IIII)Z
def mt_Search_turns (f : Nat) : Mt := ("ShakeHands$Search", b_Search_turns, 7, some .boolean, 7 + f, SHx)
theorem d_Search_turns_0 : decode b_Search_turns 0 = .ok (.iload 4, 2) := by decide +kernel
theorem d_Search_turns_2 : decode b_Search_turns 2 = .ok (.ifCond .ne 22, 3) := by decide +kernel
theorem d_Search_turns_5 : decode b_Search_turns 5 = .ok (.aload_n 0, 1) := by decide +kernel
theorem d_Search_turns_6 : decode b_Search_turns 6 = .ok (.aload_n 0, 1) := by decide +kernel
theorem d_Search_turns_7 : decode b_Search_turns 7 = .ok (.getfield 20, 3) := by decide +kernel
theorem d_Search_turns_10 : decode b_Search_turns 10 = .ok (.iload_n 1, 1) := by decide +kernel
theorem d_Search_turns_11 : decode b_Search_turns 11 = .ok (.aaload, 1) := by decide +kernel
theorem d_Search_turns_12 : decode b_Search_turns 12 = .ok (.invokevirtual 72, 3) := by decide +kernel
theorem d_Search_turns_15 : decode b_Search_turns 15 = .ok (.ifCond .ne 7, 3) := by decide +kernel
theorem d_Search_turns_18 : decode b_Search_turns 18 = .ok (.iconst 1, 1) := by decide +kernel
theorem d_Search_turns_19 : decode b_Search_turns 19 = .ok (.goto 4, 3) := by decide +kernel
theorem d_Search_turns_22 : decode b_Search_turns 22 = .ok (.iconst 0, 1) := by decide +kernel
theorem d_Search_turns_23 : decode b_Search_turns 23 = .ok (.ireturn, 1) := by decide +kernel
theorem d_Search_turns_24 : decode b_Search_turns 24 = .ok (.aload_n 0, 1) := by decide +kernel
theorem d_Search_turns_25 : decode b_Search_turns 25 = .ok (.aload_n 0, 1) := by decide +kernel
theorem d_Search_turns_26 : decode b_Search_turns 26 = .ok (.getfield 20, 3) := by decide +kernel
theorem d_Search_turns_29 : decode b_Search_turns 29 = .ok (.iload_n 1, 1) := by decide +kernel
theorem d_Search_turns_30 : decode b_Search_turns 30 = .ok (.aaload, 1) := by decide +kernel
theorem d_Search_turns_31 : decode b_Search_turns 31 = .ok (.invokevirtual 64, 3) := by decide +kernel
theorem d_Search_turns_34 : decode b_Search_turns 34 = .ok (.ifCond .ne 19, 3) := by decide +kernel
theorem d_Search_turns_37 : decode b_Search_turns 37 = .ok (.aload_n 0, 1) := by decide +kernel
theorem d_Search_turns_38 : decode b_Search_turns 38 = .ok (.iload_n 1, 1) := by decide +kernel
theorem d_Search_turns_39 : decode b_Search_turns 39 = .ok (.iconst 0, 1) := by decide +kernel
theorem d_Search_turns_40 : decode b_Search_turns 40 = .ok (.iconst 0, 1) := by decide +kernel
theorem d_Search_turns_41 : decode b_Search_turns 41 = .ok (.iload 4, 2) := by decide +kernel
theorem d_Search_turns_43 : decode b_Search_turns 43 = .ok (.iconst 1, 1) := by decide +kernel
theorem d_Search_turns_44 : decode b_Search_turns 44 = .ok (.isub, 1) := by decide +kernel
theorem d_Search_turns_45 : decode b_Search_turns 45 = .ok (.invokestatic 76, 3) := by decide +kernel
theorem d_Search_turns_48 : decode b_Search_turns 48 = .ok (.ifCond .eq 5, 3) := by decide +kernel
theorem d_Search_turns_51 : decode b_Search_turns 51 = .ok (.iconst 1, 1) := by decide +kernel
theorem d_Search_turns_52 : decode b_Search_turns 52 = .ok (.ireturn, 1) := by decide +kernel
theorem d_Search_turns_53 : decode b_Search_turns 53 = .ok (.iload_n 3, 1) := by decide +kernel
theorem d_Search_turns_54 : decode b_Search_turns 54 = .ok (.istore 5, 2) := by decide +kernel
theorem d_Search_turns_56 : decode b_Search_turns 56 = .ok (.iload 5, 2) := by decide +kernel
theorem d_Search_turns_58 : decode b_Search_turns 58 = .ok (.aload_n 0, 1) := by decide +kernel
theorem d_Search_turns_59 : decode b_Search_turns 59 = .ok (.getfield 37, 3) := by decide +kernel
theorem d_Search_turns_62 : decode b_Search_turns 62 = .ok (.if_icmp .ge 67, 3) := by decide +kernel
theorem d_Search_turns_65 : decode b_Search_turns 65 = .ok (.iload_n 1, 1) := by decide +kernel
theorem d_Search_turns_66 : decode b_Search_turns 66 = .ok (.bipush 6, 2) := by decide +kernel
theorem d_Search_turns_68 : decode b_Search_turns 68 = .ok (.if_icmp .ge 61, 3) := by decide +kernel
theorem d_Search_turns_71 : decode b_Search_turns 71 = .ok (.iload 5, 2) := by decide +kernel
theorem d_Search_turns_73 : decode b_Search_turns 73 = .ok (.invokestatic 132, 3) := by decide +kernel
theorem d_Search_turns_76 : decode b_Search_turns 76 = .ok (.istore 6, 2) := by decide +kernel
theorem d_Search_turns_78 : decode b_Search_turns 78 = .ok (.iload_n 2, 1) := by decide +kernel
theorem d_Search_turns_79 : decode b_Search_turns 79 = .ok (.aload_n 0, 1) := by decide +kernel
theorem d_Search_turns_80 : decode b_Search_turns 80 = .ok (.getfield 27, 3) := by decide +kernel
theorem d_Search_turns_83 : decode b_Search_turns 83 = .ok (.getfield 125, 3) := by decide +kernel
theorem d_Search_turns_86 : decode b_Search_turns 86 = .ok (.ior, 1) := by decide +kernel
theorem d_Search_turns_87 : decode b_Search_turns 87 = .ok (.iload 6, 2) := by decide +kernel
theorem d_Search_turns_89 : decode b_Search_turns 89 = .ok (.iand, 1) := by decide +kernel
theorem d_Search_turns_90 : decode b_Search_turns 90 = .ok (.ifCond .ne 33, 3) := by decide +kernel
theorem d_Search_turns_93 : decode b_Search_turns 93 = .ok (.aload_n 0, 1) := by decide +kernel
theorem d_Search_turns_94 : decode b_Search_turns 94 = .ok (.iload_n 1, 1) := by decide +kernel
theorem d_Search_turns_95 : decode b_Search_turns 95 = .ok (.iload 5, 2) := by decide +kernel
theorem d_Search_turns_97 : decode b_Search_turns 97 = .ok (.invokevirtual 139, 3) := by decide +kernel
theorem d_Search_turns_100 : decode b_Search_turns 100 = .ok (.pop, 1) := by decide +kernel
theorem d_Search_turns_101 : decode b_Search_turns 101 = .ok (.aload_n 0, 1) := by decide +kernel
theorem d_Search_turns_102 : decode b_Search_turns 102 = .ok (.iload_n 1, 1) := by decide +kernel
theorem d_Search_turns_103 : decode b_Search_turns 103 = .ok (.iconst 1, 1) := by decide +kernel
theorem d_Search_turns_104 : decode b_Search_turns 104 = .ok (.iadd, 1) := by decide +kernel
theorem d_Search_turns_105 : decode b_Search_turns 105 = .ok (.iload_n 2, 1) := by decide +kernel
theorem d_Search_turns_106 : decode b_Search_turns 106 = .ok (.iload 6, 2) := by decide +kernel
theorem d_Search_turns_108 : decode b_Search_turns 108 = .ok (.ior, 1) := by decide +kernel
theorem d_Search_turns_109 : decode b_Search_turns 109 = .ok (.iload 5, 2) := by decide +kernel
theorem d_Search_turns_111 : decode b_Search_turns 111 = .ok (.iconst 1, 1) := by decide +kernel
theorem d_Search_turns_112 : decode b_Search_turns 112 = .ok (.iadd, 1) := by decide +kernel
theorem d_Search_turns_113 : decode b_Search_turns 113 = .ok (.iload 4, 2) := by decide +kernel
theorem d_Search_turns_115 : decode b_Search_turns 115 = .ok (.invokestatic 76, 3) := by decide +kernel
theorem d_Search_turns_118 : decode b_Search_turns 118 = .ok (.ifCond .eq 5, 3) := by decide +kernel
theorem d_Search_turns_121 : decode b_Search_turns 121 = .ok (.iconst 1, 1) := by decide +kernel
theorem d_Search_turns_122 : decode b_Search_turns 122 = .ok (.ireturn, 1) := by decide +kernel
theorem d_Search_turns_123 : decode b_Search_turns 123 = .ok (.iinc 5 1, 3) := by decide +kernel
theorem d_Search_turns_126 : decode b_Search_turns 126 = .ok (.goto (-70), 3) := by decide +kernel
theorem d_Search_turns_129 : decode b_Search_turns 129 = .ok (.iconst 0, 1) := by decide +kernel
theorem d_Search_turns_130 : decode b_Search_turns 130 = .ok (.ireturn, 1) := by decide +kernel
def X_Search_turns_L56 (n : Nat) (self : Int32 → Int32 → Int32 → Int32 → Mem → Option (Int32 × Mem)) (a1 : Int32) (a2 : Int32) (a4 : Int32) : Nat → Int32 → Mem → Option (Int32 × Mem)
    | 0, _, _ => none
    | m + 1, v5, M => (if (M.1 26 8) ≤ v5 then
    some (0, M)
    else
    (if 6 ≤ a1 then
      some (0, M)
      else
      bd (X_Search_bitsOf n v5 M) fun r5 M6 =>
      nm (fun (M7 : Mem) => X_Search_turns_L56 n self a1 a2 a4 m (v5 + 1) M7) fun k123 =>
      (if ((a2 ||| (M6.1 16 1)) &&& r5) = 0 then
        bd (X_Search_step n a1 v5 M6) fun r8 M9 =>
        bd (self (a1 + 1) (a2 ||| r5) (v5 + 1) a4 M9) fun r10 M11 =>
        (if r10 = 0 then
          k123 M11
          else
          some (1, M11))
        else
        k123 M6)))
def X_Search_turns (n : Nat) : Nat → Int32 → Int32 → Int32 → Int32 → Mem → Option (Int32 × Mem)
    | 0, _, _, _, _, _ => none
    | f + 1, p1, p2, p3, p4, M => (if p4 = 0 then
    gd p1 7 (
      bd (X_Search_amiss n (([30, 31, 32, 33, 34, 35, 36] : List Nat).getD p1.toNatClampNeg 0) M) fun r15 M16 =>
      (if r15 = 0 then
        some (1, M16)
        else
        some (0, M16)))
    else
    gd p1 7 (
      bd (X_Search_isBarred n (([30, 31, 32, 33, 34, 35, 36] : List Nat).getD p1.toNatClampNeg 0) M) fun r2 M3 =>
      nm (fun (M4 : Mem) => X_Search_turns_L56 n (X_Search_turns n f) p1 p2 p4 n p3 M4) fun k53 =>
      (if r2 = 0 then
        bd ((X_Search_turns n f) p1 0 0 (p4 - 1) M3) fun r12 M13 =>
        (if r12 = 0 then
          k53 M13
          else
          some (1, M13))
        else
        k53 M3)))
set_option maxRecDepth 20000 in
set_option maxHeartbeats 4000000 in
theorem X_Search_turns_L56_ok {n : Nat} {f : Nat} {self : Int32 → Int32 → Int32 → Int32 → Mem → Option (Int32 × Mem)} {a1 : Int32} {a2 : Int32} {a4 : Int32} (hself : ∀ (q0 : Int32) (q1 : Int32) (q2 : Int32) (q3 : Int32) (M : Mem), Ct y_Search_turns (mt_Search_turns f) wI [Value.ref 26, Value.int q0, Value.int q1, Value.int q2, Value.int q3] M (self q0 q1 q2 q3 M)) : ∀ (m : Nat) (v5 : Int32) (M : Mem), J (mt_Search_turns (f + 1)) wI 56 [(0, Value.ref 26), (1, Value.int a1), (2, Value.int a2), (4, Value.int a4), (5, Value.int v5)] [] M (X_Search_turns_L56 n self a1 a2 a4 m v5 M) := by
  intro m
  induction m with
  | zero => intro _ _; exact j_none
  | succ m ih =>
    intro v5 M
    show J _ _ _ _ _ _ ((if (M.1 26 8) ≤ v5 then
some (0, M)
else
(if 6 ≤ a1 then
some (0, M)
else
bd (X_Search_bitsOf n v5 M) fun r5 M6 =>
nm (fun (M7 : Mem) => X_Search_turns_L56 n self a1 a2 a4 m (v5 + 1) M7) fun k123 =>
(if ((a2 ||| (M6.1 16 1)) &&& r5) = 0 then
bd (X_Search_step n a1 v5 M6) fun r8 M9 =>
bd (self (a1 + 1) (a2 ||| r5) (v5 + 1) a4 M9) fun r10 M11 =>
(if r10 = 0 then
k123 M11
else
some (1, M11))
else
k123 M6))))
    refine j_iload (pc := 56) (q := 4) d_Search_turns_56 rfl ?_
    refine j_aload_n (pc := 58) (q := 0) d_Search_turns_58 rfl rfl ?_
    refine j_getI (pc := 59) d_Search_turns_59 fl_Search_37 sx_26 (by decide) rfl ?_
    refine j_icmp_ge (pc := 62) (tgt := 129) d_Search_turns_62 (by decide) (fun _ => ?_) (fun _ => ?_)
    · refine j_iconst (pc := 129) d_Search_turns_129 k_i_0 ?_
      exact j_zreturn (pc := 130) d_Search_turns_130 rfl rfl
    · refine j_iload_n (pc := 65) (q := 1) d_Search_turns_65 rfl rfl ?_
      refine j_bipush (pc := 66) d_Search_turns_66 k_b_6 ?_
      refine j_icmp_ge (pc := 68) (tgt := 129) d_Search_turns_68 (by decide) (fun _ => ?_) (fun _ => ?_)
      · refine j_iconst (pc := 129) d_Search_turns_129 k_i_0 ?_
        exact j_zreturn (pc := 130) d_Search_turns_130 rfl rfl
      · refine j_iload (pc := 71) (q := 4) d_Search_turns_71 rfl ?_
        refine j_callS1 (pc := 73) d_Search_turns_73 (C_Search_bitsOf n v5 M) cS_Search_132 cd_Search_bitsOf dn_Search_bitsOf rfl (by show 2 + 1 ≤ 7 + (f + 1); omega) (Nat.le_of_ble_eq_true rfl) (Nat.le_of_ble_eq_true rfl) nr_I (fun r5 M6 => ?_)
        refine j_istore (pc := 76) d_Search_turns_76 (by show 6 < 7; decide) rfl ?_
        refine j_iload_n (pc := 78) (q := 3) d_Search_turns_78 rfl rfl ?_
        refine j_aload_n (pc := 79) (q := 1) d_Search_turns_79 rfl rfl ?_
        refine j_getA (pc := 80) d_Search_turns_80 fl_Search_27 sx_26 (by decide) rfl ?_
        refine j_getI (pc := 83) d_Search_turns_83 fl_Search_125 sx_16 (by decide) rfl ?_
        refine j_ior (pc := 86) d_Search_turns_86 ?_
        refine j_iload (pc := 87) (q := 0) d_Search_turns_87 rfl ?_
        refine j_iand (pc := 89) d_Search_turns_89 ?_
        refine j_nmk (fun k => ∀ (M7 : Mem), J (mt_Search_turns (f + 1)) wI 123 [(0, Value.ref 26), (1, Value.int a1), (2, Value.int a2), (4, Value.int a4), (5, Value.int v5)] [] M7 (k M7)) (fun M7 => ?_) (fun k123 hk123 => ?_)
        · refine j_iinc (pc := 123) (q := 4) d_Search_turns_123 rfl (congrArg (v5 + ·) k_i_1) (by show 5 < 7; decide) rfl ?_
          refine j_goto (pc := 126) (tgt := 56) d_Search_turns_126 (by decide) ?_
          refine j_lv [1, 2, 3, 4, 0] rfl ?_
          exact ih (v5 + 1) M7
        · refine j_if_ne (pc := 90) (tgt := 123) d_Search_turns_90 (by decide) (fun _ => ?_) (fun _ => ?_)
          · refine j_lv [1, 2, 3, 4, 5] rfl ?_
            exact hk123 M6
          · refine j_aload_n (pc := 93) (q := 1) d_Search_turns_93 rfl rfl ?_
            refine j_iload_n (pc := 94) (q := 2) d_Search_turns_94 rfl rfl ?_
            refine j_iload (pc := 95) (q := 5) d_Search_turns_95 rfl ?_
            refine j_callV2 (pc := 97) d_Search_turns_97 (C_Search_step n a1 v5 M6) cV_Search_139 cd_Search_step dn_Search_step rfl (by show 6 + 1 ≤ 7 + (f + 1); omega) (Nat.le_of_ble_eq_true rfl) (Nat.le_of_ble_eq_true rfl) nr_I sx_26 (by decide) rfl (fun r8 M9 => ?_)
            refine j_pop (pc := 100) d_Search_turns_100 rfl ?_
            refine j_aload_n (pc := 101) (q := 1) d_Search_turns_101 rfl rfl ?_
            refine j_iload_n (pc := 102) (q := 2) d_Search_turns_102 rfl rfl ?_
            refine j_iconst (pc := 103) d_Search_turns_103 k_i_1 ?_
            refine j_iadd (pc := 104) d_Search_turns_104 ?_
            refine j_iload_n (pc := 105) (q := 3) d_Search_turns_105 rfl rfl ?_
            refine j_iload (pc := 106) (q := 0) d_Search_turns_106 rfl ?_
            refine j_ior (pc := 108) d_Search_turns_108 ?_
            refine j_iload (pc := 109) (q := 5) d_Search_turns_109 rfl ?_
            refine j_iconst (pc := 111) d_Search_turns_111 k_i_1 ?_
            refine j_iadd (pc := 112) d_Search_turns_112 ?_
            refine j_iload (pc := 113) (q := 4) d_Search_turns_113 rfl ?_
            refine j_callS5 (pc := 115) d_Search_turns_115 (hself (a1 + 1) (a2 ||| r5) (v5 + 1) a4 M9) cS_Search_76 cd_Search_turns dn_Search_turns rfl (Nat.le_refl _) (Nat.le_of_ble_eq_true rfl) (Nat.le_of_ble_eq_true rfl) nr_I (fun r10 M11 => ?_)
            refine j_if_eq (pc := 118) (tgt := 123) d_Search_turns_118 (by decide) (fun _ => ?_) (fun _ => ?_)
            · refine j_lv [1, 2, 3, 4, 5] rfl ?_
              exact hk123 M11
            · refine j_iconst (pc := 121) d_Search_turns_121 k_i_1 ?_
              exact j_zreturn (pc := 122) d_Search_turns_122 rfl rfl
set_option maxRecDepth 20000 in
set_option maxHeartbeats 4000000 in
theorem C_Search_turns (n : Nat) : ∀ (f : Nat) (p1 : Int32) (p2 : Int32) (p3 : Int32) (p4 : Int32) (M : Mem), Ct y_Search_turns (mt_Search_turns f) wI [Value.ref 26, Value.int p1, Value.int p2, Value.int p3, Value.int p4] M (X_Search_turns n f p1 p2 p3 p4 M) := by
  intro f
  induction f with
  | zero => intro p1 p2 p3 p4 M r M2 hF; cases hF
  | succ f ihf =>
    intro p1 p2 p3 p4 M
    refine ct_of (by decide +kernel) rfl (Nat.le_of_ble_eq_true rfl) ?_
    show J _ _ _ [(0, Value.ref 26), (1, Value.int p1), (2, Value.int p2), (3, Value.int p3), (4, Value.int p4)] _ _ ((if p4 = 0 then
gd p1 7 (
bd (X_Search_amiss n (([30, 31, 32, 33, 34, 35, 36] : List Nat).getD p1.toNatClampNeg 0) M) fun r15 M16 =>
(if r15 = 0 then
some (1, M16)
else
some (0, M16)))
else
gd p1 7 (
bd (X_Search_isBarred n (([30, 31, 32, 33, 34, 35, 36] : List Nat).getD p1.toNatClampNeg 0) M) fun r2 M3 =>
nm (fun (M4 : Mem) => X_Search_turns_L56 n (X_Search_turns n f) p1 p2 p4 n p3 M4) fun k53 =>
(if r2 = 0 then
bd ((X_Search_turns n f) p1 0 0 (p4 - 1) M3) fun r12 M13 =>
(if r12 = 0 then
k53 M13
else
some (1, M13))
else
k53 M3))))
    refine j_iload (pc := 0) (q := 4) d_Search_turns_0 rfl ?_
    refine j_if_ne (pc := 2) (tgt := 24) d_Search_turns_2 (by decide) (fun _ => ?_) (fun _ => ?_)
    · refine j_aload_n (pc := 24) (q := 0) d_Search_turns_24 rfl rfl ?_
      refine j_aload_n (pc := 25) (q := 0) d_Search_turns_25 rfl rfl ?_
      refine j_getA (pc := 26) d_Search_turns_26 fl_Search_20 sx_26 (by decide) rfl ?_
      refine j_iload_n (pc := 29) (q := 1) d_Search_turns_29 rfl rfl ?_
      refine j_aald2 (pc := 30) (ids := [30, 31, 32, 33, 34, 35, 36]) d_Search_turns_30 sx_29 (fun h1 => ?_)
      refine j_callV1 (pc := 31) d_Search_turns_31 (C_Search_isBarred n (([30, 31, 32, 33, 34, 35, 36] : List Nat).getD p1.toNatClampNeg 0) (sh_level h1) M) cV_Search_64 cd_Search_isBarred dn_Search_isBarred rfl (by show 3 + 1 ≤ 7 + (f + 1); omega) (Nat.le_of_ble_eq_true rfl) (Nat.le_of_ble_eq_true rfl) nr_I sx_26 (by decide) rfl (fun r2 M3 => ?_)
      refine j_nmk (fun k => ∀ (M4 : Mem), J (mt_Search_turns (f + 1)) wI 53 [(0, Value.ref 26), (1, Value.int p1), (2, Value.int p2), (3, Value.int p3), (4, Value.int p4)] [] M4 (k M4)) (fun M4 => ?_) (fun k53 hk53 => ?_)
      · refine j_iload_n (pc := 53) (q := 3) d_Search_turns_53 rfl rfl ?_
        refine j_istore (pc := 54) d_Search_turns_54 (by show 5 < 7; decide) rfl ?_
        refine j_lv [1, 2, 3, 5, 0] rfl ?_
        exact X_Search_turns_L56_ok ihf  n p3 M4
      · refine j_if_ne (pc := 34) (tgt := 53) d_Search_turns_34 (by decide) (fun _ => ?_) (fun _ => ?_)
        · exact hk53 M3
        · refine j_aload_n (pc := 37) (q := 0) d_Search_turns_37 rfl rfl ?_
          refine j_iload_n (pc := 38) (q := 1) d_Search_turns_38 rfl rfl ?_
          refine j_iconst (pc := 39) d_Search_turns_39 k_i_0 ?_
          refine j_iconst (pc := 40) d_Search_turns_40 k_i_0 ?_
          refine j_iload (pc := 41) (q := 4) d_Search_turns_41 rfl ?_
          refine j_iconst (pc := 43) d_Search_turns_43 k_i_1 ?_
          refine j_isub (pc := 44) d_Search_turns_44 ?_
          refine j_callS5 (pc := 45) d_Search_turns_45 (ihf p1 0 0 (p4 - 1) M3) cS_Search_76 cd_Search_turns dn_Search_turns rfl (Nat.le_refl _) (Nat.le_of_ble_eq_true rfl) (Nat.le_of_ble_eq_true rfl) nr_I (fun r12 M13 => ?_)
          refine j_if_eq (pc := 48) (tgt := 53) d_Search_turns_48 (by decide) (fun _ => ?_) (fun _ => ?_)
          · exact hk53 M13
          · refine j_iconst (pc := 51) d_Search_turns_51 k_i_1 ?_
            exact j_zreturn (pc := 52) d_Search_turns_52 rfl rfl
    · refine j_aload_n (pc := 5) (q := 0) d_Search_turns_5 rfl rfl ?_
      refine j_aload_n (pc := 6) (q := 0) d_Search_turns_6 rfl rfl ?_
      refine j_getA (pc := 7) d_Search_turns_7 fl_Search_20 sx_26 (by decide) rfl ?_
      refine j_iload_n (pc := 10) (q := 1) d_Search_turns_10 rfl rfl ?_
      refine j_aald2 (pc := 11) (ids := [30, 31, 32, 33, 34, 35, 36]) d_Search_turns_11 sx_29 (fun h14 => ?_)
      refine j_callV1 (pc := 12) d_Search_turns_12 (C_Search_amiss n (([30, 31, 32, 33, 34, 35, 36] : List Nat).getD p1.toNatClampNeg 0) (sh_level h14) M) cV_Search_72 cd_Search_amiss dn_Search_amiss rfl (by show 3 + 1 ≤ 7 + (f + 1); omega) (Nat.le_of_ble_eq_true rfl) (Nat.le_of_ble_eq_true rfl) nr_I sx_26 (by decide) rfl (fun r15 M16 => ?_)
      refine j_if_ne (pc := 15) (tgt := 22) d_Search_turns_15 (by decide) (fun _ => ?_) (fun _ => ?_)
      · refine j_iconst (pc := 22) d_Search_turns_22 k_i_0 ?_
        exact j_zreturn (pc := 23) d_Search_turns_23 rfl rfl
      · refine j_iconst (pc := 18) d_Search_turns_18 k_i_1 ?_
        refine j_goto (pc := 19) (tgt := 23) d_Search_turns_19 (by decide) ?_
        exact j_zreturn (pc := 23) d_Search_turns_23 rfl rfl
-- Search.fewestRounds ()I
def mt_Search_fewestRounds : Mt := ("ShakeHands$Search", b_Search_fewestRounds, 2, some .int, 20, SHx)
theorem d_Search_fewestRounds_0 : decode b_Search_fewestRounds 0 = .ok (.aload_n 0, 1) := by decide +kernel
theorem d_Search_fewestRounds_1 : decode b_Search_fewestRounds 1 = .ok (.aload_n 0, 1) := by decide +kernel
theorem d_Search_fewestRounds_2 : decode b_Search_fewestRounds 2 = .ok (.getfield 20, 3) := by decide +kernel
theorem d_Search_fewestRounds_5 : decode b_Search_fewestRounds 5 = .ok (.iconst 0, 1) := by decide +kernel
theorem d_Search_fewestRounds_6 : decode b_Search_fewestRounds 6 = .ok (.aaload, 1) := by decide +kernel
theorem d_Search_fewestRounds_7 : decode b_Search_fewestRounds 7 = .ok (.invokevirtual 64, 3) := by decide +kernel
theorem d_Search_fewestRounds_10 : decode b_Search_fewestRounds 10 = .ok (.ifCond .eq 6, 3) := by decide +kernel
theorem d_Search_fewestRounds_13 : decode b_Search_fewestRounds 13 = .ok (.bipush (-4), 2) := by decide +kernel
theorem d_Search_fewestRounds_15 : decode b_Search_fewestRounds 15 = .ok (.ireturn, 1) := by decide +kernel
theorem d_Search_fewestRounds_16 : decode b_Search_fewestRounds 16 = .ok (.aload_n 0, 1) := by decide +kernel
theorem d_Search_fewestRounds_17 : decode b_Search_fewestRounds 17 = .ok (.aload_n 0, 1) := by decide +kernel
theorem d_Search_fewestRounds_18 : decode b_Search_fewestRounds 18 = .ok (.getfield 20, 3) := by decide +kernel
theorem d_Search_fewestRounds_21 : decode b_Search_fewestRounds 21 = .ok (.iconst 0, 1) := by decide +kernel
theorem d_Search_fewestRounds_22 : decode b_Search_fewestRounds 22 = .ok (.aaload, 1) := by decide +kernel
theorem d_Search_fewestRounds_23 : decode b_Search_fewestRounds 23 = .ok (.invokevirtual 72, 3) := by decide +kernel
theorem d_Search_fewestRounds_26 : decode b_Search_fewestRounds 26 = .ok (.ifCond .ne 5, 3) := by decide +kernel
theorem d_Search_fewestRounds_29 : decode b_Search_fewestRounds 29 = .ok (.iconst 0, 1) := by decide +kernel
theorem d_Search_fewestRounds_30 : decode b_Search_fewestRounds 30 = .ok (.ireturn, 1) := by decide +kernel
theorem d_Search_fewestRounds_31 : decode b_Search_fewestRounds 31 = .ok (.iconst 1, 1) := by decide +kernel
theorem d_Search_fewestRounds_32 : decode b_Search_fewestRounds 32 = .ok (.istore_n 1, 1) := by decide +kernel
theorem d_Search_fewestRounds_33 : decode b_Search_fewestRounds 33 = .ok (.iload_n 1, 1) := by decide +kernel
theorem d_Search_fewestRounds_34 : decode b_Search_fewestRounds 34 = .ok (.iconst 2, 1) := by decide +kernel
theorem d_Search_fewestRounds_35 : decode b_Search_fewestRounds 35 = .ok (.if_icmp .gt 22, 3) := by decide +kernel
theorem d_Search_fewestRounds_38 : decode b_Search_fewestRounds 38 = .ok (.aload_n 0, 1) := by decide +kernel
theorem d_Search_fewestRounds_39 : decode b_Search_fewestRounds 39 = .ok (.iconst 0, 1) := by decide +kernel
theorem d_Search_fewestRounds_40 : decode b_Search_fewestRounds 40 = .ok (.iconst 0, 1) := by decide +kernel
theorem d_Search_fewestRounds_41 : decode b_Search_fewestRounds 41 = .ok (.iconst 0, 1) := by decide +kernel
theorem d_Search_fewestRounds_42 : decode b_Search_fewestRounds 42 = .ok (.iload_n 1, 1) := by decide +kernel
theorem d_Search_fewestRounds_43 : decode b_Search_fewestRounds 43 = .ok (.invokestatic 76, 3) := by decide +kernel
theorem d_Search_fewestRounds_46 : decode b_Search_fewestRounds 46 = .ok (.ifCond .eq 5, 3) := by decide +kernel
theorem d_Search_fewestRounds_49 : decode b_Search_fewestRounds 49 = .ok (.iload_n 1, 1) := by decide +kernel
theorem d_Search_fewestRounds_50 : decode b_Search_fewestRounds 50 = .ok (.ireturn, 1) := by decide +kernel
theorem d_Search_fewestRounds_51 : decode b_Search_fewestRounds 51 = .ok (.iinc 1 1, 3) := by decide +kernel
theorem d_Search_fewestRounds_54 : decode b_Search_fewestRounds 54 = .ok (.goto (-21), 3) := by decide +kernel
theorem d_Search_fewestRounds_57 : decode b_Search_fewestRounds 57 = .ok (.bipush (-4), 2) := by decide +kernel
theorem d_Search_fewestRounds_59 : decode b_Search_fewestRounds 59 = .ok (.ireturn, 1) := by decide +kernel
def X_Search_fewestRounds_L33 (n : Nat) : Nat → Int32 → Mem → Option (Int32 × Mem)
    | 0, _, _ => none
    | m + 1, v1, M => (if 2 < v1 then
    some ((-4), M)
    else
    bd (X_Search_turns n 12 0 0 0 v1 M) fun r7 M8 =>
    (if r7 = 0 then
      X_Search_fewestRounds_L33 n m (v1 + 1) M8
      else
      some (v1, M8)))
def X_Search_fewestRounds (n : Nat) (M : Mem) : Option (Int32 × Mem) :=
  gd (0 : Int32) 7 (
    bd (X_Search_isBarred n (([30, 31, 32, 33, 34, 35, 36] : List Nat).getD (0 : Int32).toNatClampNeg 0) M) fun r2 M3 =>
    (if r2 = 0 then
      gd (0 : Int32) 7 (
        bd (X_Search_amiss n (([30, 31, 32, 33, 34, 35, 36] : List Nat).getD (0 : Int32).toNatClampNeg 0) M3) fun r5 M6 =>
        (if r5 = 0 then
          some (0, M6)
          else
          X_Search_fewestRounds_L33 n n 1 M6))
      else
      some ((-4), M3)))
set_option maxRecDepth 20000 in
set_option maxHeartbeats 4000000 in
theorem X_Search_fewestRounds_L33_ok {n : Nat} : ∀ (m : Nat) (v1 : Int32) (M : Mem), J (mt_Search_fewestRounds) wI 33 [(0, Value.ref 26), (1, Value.int v1)] [] M (X_Search_fewestRounds_L33 n m v1 M) := by
  intro m
  induction m with
  | zero => intro _ _; exact j_none
  | succ m ih =>
    intro v1 M
    show J _ _ _ _ _ _ ((if 2 < v1 then
some ((-4), M)
else
bd (X_Search_turns n 12 0 0 0 v1 M) fun r7 M8 =>
(if r7 = 0 then
X_Search_fewestRounds_L33 n m (v1 + 1) M8
else
some (v1, M8))))
    refine j_iload_n (pc := 33) (q := 1) d_Search_fewestRounds_33 rfl rfl ?_
    refine j_iconst (pc := 34) d_Search_fewestRounds_34 k_i_2 ?_
    refine j_icmp_gt (pc := 35) (tgt := 57) d_Search_fewestRounds_35 (by decide) (fun _ => ?_) (fun _ => ?_)
    · refine j_bipush (pc := 57) d_Search_fewestRounds_57 k_b_m4 ?_
      exact j_ireturn (pc := 59) d_Search_fewestRounds_59 rfl
    · refine j_aload_n (pc := 38) (q := 0) d_Search_fewestRounds_38 rfl rfl ?_
      refine j_iconst (pc := 39) d_Search_fewestRounds_39 k_i_0 ?_
      refine j_iconst (pc := 40) d_Search_fewestRounds_40 k_i_0 ?_
      refine j_iconst (pc := 41) d_Search_fewestRounds_41 k_i_0 ?_
      refine j_iload_n (pc := 42) (q := 1) d_Search_fewestRounds_42 rfl rfl ?_
      refine j_callS5 (pc := 43) d_Search_fewestRounds_43 (C_Search_turns n 12 0 0 0 v1 M) cS_Search_76 cd_Search_turns dn_Search_turns rfl (by decide) (Nat.le_of_ble_eq_true rfl) (Nat.le_of_ble_eq_true rfl) nr_I (fun r7 M8 => ?_)
      refine j_if_eq (pc := 46) (tgt := 51) d_Search_fewestRounds_46 (by decide) (fun _ => ?_) (fun _ => ?_)
      · refine j_iinc (pc := 51) (q := 1) d_Search_fewestRounds_51 rfl (congrArg (v1 + ·) k_i_1) (by decide) rfl ?_
        refine j_goto (pc := 54) (tgt := 33) d_Search_fewestRounds_54 (by decide) ?_
        refine j_lv [1, 0] rfl ?_
        exact ih (v1 + 1) M8
      · refine j_iload_n (pc := 49) (q := 1) d_Search_fewestRounds_49 rfl rfl ?_
        exact j_ireturn (pc := 50) d_Search_fewestRounds_50 rfl
set_option maxRecDepth 20000 in
set_option maxHeartbeats 4000000 in
theorem C_Search_fewestRounds (n : Nat)    (M : Mem) : Ct y_Search_fewestRounds mt_Search_fewestRounds wI [Value.ref 26] M (X_Search_fewestRounds n M) := by
  refine ct_of (by decide +kernel) rfl (Nat.le_of_ble_eq_true rfl) ?_
  show J _ _ _ [(0, Value.ref 26)] _ _ _
  unfold X_Search_fewestRounds
  refine j_aload_n (pc := 0) (q := 0) d_Search_fewestRounds_0 rfl rfl ?_
  refine j_aload_n (pc := 1) (q := 0) d_Search_fewestRounds_1 rfl rfl ?_
  refine j_getA (pc := 2) d_Search_fewestRounds_2 fl_Search_20 sx_26 (by decide) rfl ?_
  refine j_iconst (pc := 5) d_Search_fewestRounds_5 k_i_0 ?_
  refine j_aald2 (pc := 6) (ids := [30, 31, 32, 33, 34, 35, 36]) d_Search_fewestRounds_6 sx_29 (fun h1 => ?_)
  refine j_callV1 (pc := 7) d_Search_fewestRounds_7 (C_Search_isBarred n (([30, 31, 32, 33, 34, 35, 36] : List Nat).getD (0 : Int32).toNatClampNeg 0) (sh_level h1) M) cV_Search_64 cd_Search_isBarred dn_Search_isBarred rfl (by decide) (Nat.le_of_ble_eq_true rfl) (Nat.le_of_ble_eq_true rfl) nr_I sx_26 (by decide) rfl (fun r2 M3 => ?_)
  refine j_if_eq (pc := 10) (tgt := 16) d_Search_fewestRounds_10 (by decide) (fun _ => ?_) (fun _ => ?_)
  · refine j_aload_n (pc := 16) (q := 0) d_Search_fewestRounds_16 rfl rfl ?_
    refine j_aload_n (pc := 17) (q := 0) d_Search_fewestRounds_17 rfl rfl ?_
    refine j_getA (pc := 18) d_Search_fewestRounds_18 fl_Search_20 sx_26 (by decide) rfl ?_
    refine j_iconst (pc := 21) d_Search_fewestRounds_21 k_i_0 ?_
    refine j_aald2 (pc := 22) (ids := [30, 31, 32, 33, 34, 35, 36]) d_Search_fewestRounds_22 sx_29 (fun h4 => ?_)
    refine j_callV1 (pc := 23) d_Search_fewestRounds_23 (C_Search_amiss n (([30, 31, 32, 33, 34, 35, 36] : List Nat).getD (0 : Int32).toNatClampNeg 0) (sh_level h4) M3) cV_Search_72 cd_Search_amiss dn_Search_amiss rfl (by decide) (Nat.le_of_ble_eq_true rfl) (Nat.le_of_ble_eq_true rfl) nr_I sx_26 (by decide) rfl (fun r5 M6 => ?_)
    refine j_if_ne (pc := 26) (tgt := 31) d_Search_fewestRounds_26 (by decide) (fun _ => ?_) (fun _ => ?_)
    · refine j_iconst (pc := 31) d_Search_fewestRounds_31 k_i_1 ?_
      refine j_istore_n (pc := 32) d_Search_fewestRounds_32 rfl (by decide) rfl ?_
      refine j_lv [1, 0] rfl ?_
      exact X_Search_fewestRounds_L33_ok   n 1 M6
    · refine j_iconst (pc := 29) d_Search_fewestRounds_29 k_i_0 ?_
      exact j_ireturn (pc := 30) d_Search_fewestRounds_30 rfl
  · refine j_bipush (pc := 13) d_Search_fewestRounds_13 k_b_m4 ?_
    exact j_ireturn (pc := 15) d_Search_fewestRounds_15 rfl
-- Search.unlikeSeen ([J)I
def mt_Search_unlikeSeen : Mt := ("ShakeHands$Search", b_Search_unlikeSeen, 4, some .int, 3, SHx)
theorem d_Search_unlikeSeen_0 : decode b_Search_unlikeSeen 0 = .ok (.iconst 0, 1) := by decide +kernel
theorem d_Search_unlikeSeen_1 : decode b_Search_unlikeSeen 1 = .ok (.istore_n 2, 1) := by decide +kernel
theorem d_Search_unlikeSeen_2 : decode b_Search_unlikeSeen 2 = .ok (.iconst 0, 1) := by decide +kernel
theorem d_Search_unlikeSeen_3 : decode b_Search_unlikeSeen 3 = .ok (.istore_n 3, 1) := by decide +kernel
theorem d_Search_unlikeSeen_4 : decode b_Search_unlikeSeen 4 = .ok (.iload_n 3, 1) := by decide +kernel
theorem d_Search_unlikeSeen_5 : decode b_Search_unlikeSeen 5 = .ok (.aload_n 0, 1) := by decide +kernel
theorem d_Search_unlikeSeen_6 : decode b_Search_unlikeSeen 6 = .ok (.getfield 23, 3) := by decide +kernel
theorem d_Search_unlikeSeen_9 : decode b_Search_unlikeSeen 9 = .ok (.getfield 31, 3) := by decide +kernel
theorem d_Search_unlikeSeen_12 : decode b_Search_unlikeSeen 12 = .ok (.if_icmp .ge 47, 3) := by decide +kernel
theorem d_Search_unlikeSeen_15 : decode b_Search_unlikeSeen 15 = .ok (.aload_n 0, 1) := by decide +kernel
theorem d_Search_unlikeSeen_16 : decode b_Search_unlikeSeen 16 = .ok (.getfield 27, 3) := by decide +kernel
theorem d_Search_unlikeSeen_19 : decode b_Search_unlikeSeen 19 = .ok (.getfield 101, 3) := by decide +kernel
theorem d_Search_unlikeSeen_22 : decode b_Search_unlikeSeen 22 = .ok (.iload_n 3, 1) := by decide +kernel
theorem d_Search_unlikeSeen_23 : decode b_Search_unlikeSeen 23 = .ok (.iushr, 1) := by decide +kernel
theorem d_Search_unlikeSeen_24 : decode b_Search_unlikeSeen 24 = .ok (.iconst 1, 1) := by decide +kernel
theorem d_Search_unlikeSeen_25 : decode b_Search_unlikeSeen 25 = .ok (.iand, 1) := by decide +kernel
theorem d_Search_unlikeSeen_26 : decode b_Search_unlikeSeen 26 = .ok (.ifCond .eq 27, 3) := by decide +kernel
theorem d_Search_unlikeSeen_29 : decode b_Search_unlikeSeen 29 = .ok (.aload_n 1, 1) := by decide +kernel
theorem d_Search_unlikeSeen_30 : decode b_Search_unlikeSeen 30 = .ok (.iload_n 3, 1) := by decide +kernel
theorem d_Search_unlikeSeen_31 : decode b_Search_unlikeSeen 31 = .ok (.laload, 1) := by decide +kernel
theorem d_Search_unlikeSeen_32 : decode b_Search_unlikeSeen 32 = .ok (.invokestatic 104, 3) := by decide +kernel
theorem d_Search_unlikeSeen_35 : decode b_Search_unlikeSeen 35 = .ok (.aload_n 0, 1) := by decide +kernel
theorem d_Search_unlikeSeen_36 : decode b_Search_unlikeSeen 36 = .ok (.getfield 27, 3) := by decide +kernel
theorem d_Search_unlikeSeen_39 : decode b_Search_unlikeSeen 39 = .ok (.getfield 110, 3) := by decide +kernel
theorem d_Search_unlikeSeen_42 : decode b_Search_unlikeSeen 42 = .ok (.iload_n 3, 1) := by decide +kernel
theorem d_Search_unlikeSeen_43 : decode b_Search_unlikeSeen 43 = .ok (.iaload, 1) := by decide +kernel
theorem d_Search_unlikeSeen_44 : decode b_Search_unlikeSeen 44 = .ok (.if_icmp .eq 9, 3) := by decide +kernel
theorem d_Search_unlikeSeen_47 : decode b_Search_unlikeSeen 47 = .ok (.iload_n 2, 1) := by decide +kernel
theorem d_Search_unlikeSeen_48 : decode b_Search_unlikeSeen 48 = .ok (.iconst 1, 1) := by decide +kernel
theorem d_Search_unlikeSeen_49 : decode b_Search_unlikeSeen 49 = .ok (.iload_n 3, 1) := by decide +kernel
theorem d_Search_unlikeSeen_50 : decode b_Search_unlikeSeen 50 = .ok (.ishl, 1) := by decide +kernel
theorem d_Search_unlikeSeen_51 : decode b_Search_unlikeSeen 51 = .ok (.ior, 1) := by decide +kernel
theorem d_Search_unlikeSeen_52 : decode b_Search_unlikeSeen 52 = .ok (.istore_n 2, 1) := by decide +kernel
theorem d_Search_unlikeSeen_53 : decode b_Search_unlikeSeen 53 = .ok (.iinc 3 1, 3) := by decide +kernel
theorem d_Search_unlikeSeen_56 : decode b_Search_unlikeSeen 56 = .ok (.goto (-52), 3) := by decide +kernel
theorem d_Search_unlikeSeen_59 : decode b_Search_unlikeSeen 59 = .ok (.iload_n 2, 1) := by decide +kernel
theorem d_Search_unlikeSeen_60 : decode b_Search_unlikeSeen 60 = .ok (.ireturn, 1) := by decide +kernel
def X_Search_unlikeSeen_L4 (n : Nat) (rows : Nat) : Nat → Int32 → Int32 → Mem → Option (Int32 × Mem)
    | 0, _, _, _ => none
    | m + 1, v2, v3, M => (if (M.1 11 0) ≤ v3 then
    some (v2, M)
    else
    nm (fun (z1 : Int32) (M2 : Mem) => X_Search_unlikeSeen_L4 n rows m z1 (v3 + 1) M2) fun k53 =>
    (if ((((M.1 16 2).toUInt32 >>> (v3.toUInt32 &&& Int32.toUInt32 31)).toInt32) &&& 1) = 0 then
      k53 v2 M
      else
      gd v3 6 (
        bd (X_Row_knownOf n (M.2 rows v3.toNatClampNeg) M) fun r3 M4 =>
        gd v3 6 (
          (if r3 = (M4.1 18 v3.toNatClampNeg) then
            k53 v2 M4
            else
            nm (v2 ||| (1 <<< (v3 &&& 31))) fun x5 =>
            k53 x5 M4)))))
def X_Search_unlikeSeen (n : Nat) (rows : Nat) (M : Mem) : Option (Int32 × Mem) :=
  X_Search_unlikeSeen_L4 n rows n 0 0 M
set_option maxRecDepth 20000 in
set_option maxHeartbeats 4000000 in
theorem X_Search_unlikeSeen_L4_ok {n : Nat} {rows : Nat} (h_rows : SHx[rows]? = some (103, [6])) : ∀ (m : Nat) (v2 : Int32) (v3 : Int32) (M : Mem), J (mt_Search_unlikeSeen) wI 4 [(0, Value.ref 26), (1, Value.ref rows), (2, Value.int v2), (3, Value.int v3)] [] M (X_Search_unlikeSeen_L4 n rows m v2 v3 M) := by
  intro m
  induction m with
  | zero => intro _ _ _; exact j_none
  | succ m ih =>
    intro v2 v3 M
    show J _ _ _ _ _ _ ((if (M.1 11 0) ≤ v3 then
some (v2, M)
else
nm (fun (z1 : Int32) (M2 : Mem) => X_Search_unlikeSeen_L4 n rows m z1 (v3 + 1) M2) fun k53 =>
(if ((((M.1 16 2).toUInt32 >>> (v3.toUInt32 &&& Int32.toUInt32 31)).toInt32) &&& 1) = 0 then
k53 v2 M
else
gd v3 6 (
bd (X_Row_knownOf n (M.2 rows v3.toNatClampNeg) M) fun r3 M4 =>
gd v3 6 (
(if r3 = (M4.1 18 v3.toNatClampNeg) then
k53 v2 M4
else
nm (v2 ||| (1 <<< (v3 &&& 31))) fun x5 =>
k53 x5 M4))))))
    refine j_iload_n (pc := 4) (q := 3) d_Search_unlikeSeen_4 rfl rfl ?_
    refine j_aload_n (pc := 5) (q := 0) d_Search_unlikeSeen_5 rfl rfl ?_
    refine j_getA (pc := 6) d_Search_unlikeSeen_6 fl_Search_23 sx_26 (by decide) rfl ?_
    refine j_getI (pc := 9) d_Search_unlikeSeen_9 fl_Search_31 sx_11 (by decide) rfl ?_
    refine j_icmp_ge (pc := 12) (tgt := 59) d_Search_unlikeSeen_12 (by decide) (fun _ => ?_) (fun _ => ?_)
    · refine j_iload_n (pc := 59) (q := 2) d_Search_unlikeSeen_59 rfl rfl ?_
      exact j_ireturn (pc := 60) d_Search_unlikeSeen_60 rfl
    · refine j_aload_n (pc := 15) (q := 0) d_Search_unlikeSeen_15 rfl rfl ?_
      refine j_getA (pc := 16) d_Search_unlikeSeen_16 fl_Search_27 sx_26 (by decide) rfl ?_
      refine j_getI (pc := 19) d_Search_unlikeSeen_19 fl_Search_101 sx_16 (by decide) rfl ?_
      refine j_iload_n (pc := 22) (q := 3) d_Search_unlikeSeen_22 rfl rfl ?_
      refine j_iushr (pc := 23) d_Search_unlikeSeen_23 ?_
      refine j_iconst (pc := 24) d_Search_unlikeSeen_24 k_i_1 ?_
      refine j_iand (pc := 25) d_Search_unlikeSeen_25 ?_
      refine j_nmk (fun k => ∀ (z1 : Int32) (M2 : Mem), J (mt_Search_unlikeSeen) wI 53 [(0, Value.ref 26), (1, Value.ref rows), (2, Value.int z1), (3, Value.int v3)] [] M2 (k z1 M2)) (fun z1 M2 => ?_) (fun k53 hk53 => ?_)
      · refine j_iinc (pc := 53) (q := 3) d_Search_unlikeSeen_53 rfl (congrArg (v3 + ·) k_i_1) (by decide) rfl ?_
        refine j_goto (pc := 56) (tgt := 4) d_Search_unlikeSeen_56 (by decide) ?_
        refine j_lv [1, 2, 3, 0] rfl ?_
        exact ih z1 (v3 + 1) M2
      · refine j_if_eq (pc := 26) (tgt := 53) d_Search_unlikeSeen_26 (by decide) (fun _ => ?_) (fun _ => ?_)
        · exact hk53 v2 M
        · refine j_aload_n (pc := 29) (q := 1) d_Search_unlikeSeen_29 rfl rfl ?_
          refine j_iload_n (pc := 30) (q := 3) d_Search_unlikeSeen_30 rfl rfl ?_
          refine j_lald (pc := 31) d_Search_unlikeSeen_31 h_rows (fun _ => ?_)
          refine j_callS1 (pc := 32) d_Search_unlikeSeen_32 (C_Row_knownOf n (M.2 rows v3.toNatClampNeg) M) cS_Search_104 cd_Row_knownOf dn_Row_knownOf rfl (by decide) (Nat.le_of_ble_eq_true rfl) (Nat.le_of_ble_eq_true rfl) nr_I (fun r3 M4 => ?_)
          refine j_aload_n (pc := 35) (q := 0) d_Search_unlikeSeen_35 rfl rfl ?_
          refine j_getA (pc := 36) d_Search_unlikeSeen_36 fl_Search_27 sx_26 (by decide) rfl ?_
          refine j_getA (pc := 39) d_Search_unlikeSeen_39 fl_Search_110 sx_16 (by decide) rfl ?_
          refine j_iload_n (pc := 42) (q := 3) d_Search_unlikeSeen_42 rfl rfl ?_
          refine j_iald (pc := 43) d_Search_unlikeSeen_43 sx_18 (fun _ => ?_)
          refine j_icmp_eq (pc := 44) (tgt := 53) d_Search_unlikeSeen_44 (by decide) (fun _ => ?_) (fun _ => ?_)
          · exact hk53 v2 M4
          · refine j_iload_n (pc := 47) (q := 2) d_Search_unlikeSeen_47 rfl rfl ?_
            refine j_iconst (pc := 48) d_Search_unlikeSeen_48 k_i_1 ?_
            refine j_iload_n (pc := 49) (q := 3) d_Search_unlikeSeen_49 rfl rfl ?_
            refine j_ishl (pc := 50) d_Search_unlikeSeen_50 ?_
            refine j_ior (pc := 51) d_Search_unlikeSeen_51 ?_
            refine j_nmi (fun x5 => ?_)
            refine j_istore_n (pc := 52) d_Search_unlikeSeen_52 rfl (by decide) rfl ?_
            refine j_lv [1, 2, 0, 3] rfl ?_
            exact hk53 x5 M4
set_option maxRecDepth 20000 in
set_option maxHeartbeats 4000000 in
theorem C_Search_unlikeSeen (n : Nat) (rows : Nat) (h_rows : SHx[rows]? = some (103, [6]))  (M : Mem) : Ct y_Search_unlikeSeen mt_Search_unlikeSeen wI [Value.ref 26, Value.ref rows] M (X_Search_unlikeSeen n rows M) := by
  refine ct_of (by decide +kernel) rfl (Nat.le_of_ble_eq_true rfl) ?_
  show J _ _ _ [(0, Value.ref 26), (1, Value.ref rows)] _ _ _
  unfold X_Search_unlikeSeen
  refine j_iconst (pc := 0) d_Search_unlikeSeen_0 k_i_0 ?_
  refine j_istore_n (pc := 1) d_Search_unlikeSeen_1 rfl (by decide) rfl ?_
  refine j_iconst (pc := 2) d_Search_unlikeSeen_2 k_i_0 ?_
  refine j_istore_n (pc := 3) d_Search_unlikeSeen_3 rfl (by decide) rfl ?_
  refine j_lv [2, 3, 1, 0] rfl ?_
  exact X_Search_unlikeSeen_L4_ok h_rows  n 0 0 M
-- Search.fit (LShakeHands$Search;III)V
def mt_Search_fit (f : Nat) : Mt := ("ShakeHands$Search", b_Search_fit, 7, none, 7 + f, SHx)
theorem d_Search_fit_0 : decode b_Search_fit 0 = .ok (.aload_n 0, 1) := by decide +kernel
theorem d_Search_fit_1 : decode b_Search_fit 1 = .ok (.aload_n 0, 1) := by decide +kernel
theorem d_Search_fit_2 : decode b_Search_fit 2 = .ok (.getfield 20, 3) := by decide +kernel
theorem d_Search_fit_5 : decode b_Search_fit 5 = .ok (.iload_n 1, 1) := by decide +kernel
theorem d_Search_fit_6 : decode b_Search_fit 6 = .ok (.aaload, 1) := by decide +kernel
theorem d_Search_fit_7 : decode b_Search_fit 7 = .ok (.invokevirtual 143, 3) := by decide +kernel
theorem d_Search_fit_10 : decode b_Search_fit 10 = .ok (.istore 4, 2) := by decide +kernel
theorem d_Search_fit_12 : decode b_Search_fit 12 = .ok (.iload_n 1, 1) := by decide +kernel
theorem d_Search_fit_13 : decode b_Search_fit 13 = .ok (.iload_n 2, 1) := by decide +kernel
theorem d_Search_fit_14 : decode b_Search_fit 14 = .ok (.if_icmp .lt 39, 3) := by decide +kernel
theorem d_Search_fit_17 : decode b_Search_fit 17 = .ok (.iload 4, 2) := by decide +kernel
theorem d_Search_fit_19 : decode b_Search_fit 19 = .ok (.ifCond .ne 33, 3) := by decide +kernel
theorem d_Search_fit_22 : decode b_Search_fit 22 = .ok (.aload_n 0, 1) := by decide +kernel
theorem d_Search_fit_23 : decode b_Search_fit 23 = .ok (.dup, 1) := by decide +kernel
theorem d_Search_fit_24 : decode b_Search_fit 24 = .ok (.getfield 80, 3) := by decide +kernel
theorem d_Search_fit_27 : decode b_Search_fit 27 = .ok (.iconst 1, 1) := by decide +kernel
theorem d_Search_fit_28 : decode b_Search_fit 28 = .ok (.iadd, 1) := by decide +kernel
theorem d_Search_fit_29 : decode b_Search_fit 29 = .ok (.putfield 80, 3) := by decide +kernel
theorem d_Search_fit_32 : decode b_Search_fit 32 = .ok (.aload_n 0, 1) := by decide +kernel
theorem d_Search_fit_33 : decode b_Search_fit 33 = .ok (.dup, 1) := by decide +kernel
theorem d_Search_fit_34 : decode b_Search_fit 34 = .ok (.getfield 83, 3) := by decide +kernel
theorem d_Search_fit_37 : decode b_Search_fit 37 = .ok (.iload_n 3, 1) := by decide +kernel
theorem d_Search_fit_38 : decode b_Search_fit 38 = .ok (.iand, 1) := by decide +kernel
theorem d_Search_fit_39 : decode b_Search_fit 39 = .ok (.putfield 83, 3) := by decide +kernel
theorem d_Search_fit_42 : decode b_Search_fit 42 = .ok (.aload_n 0, 1) := by decide +kernel
theorem d_Search_fit_43 : decode b_Search_fit 43 = .ok (.dup, 1) := by decide +kernel
theorem d_Search_fit_44 : decode b_Search_fit 44 = .ok (.getfield 86, 3) := by decide +kernel
theorem d_Search_fit_47 : decode b_Search_fit 47 = .ok (.iload_n 3, 1) := by decide +kernel
theorem d_Search_fit_48 : decode b_Search_fit 48 = .ok (.ior, 1) := by decide +kernel
theorem d_Search_fit_49 : decode b_Search_fit 49 = .ok (.putfield 86, 3) := by decide +kernel
theorem d_Search_fit_52 : decode b_Search_fit 52 = .ok (.return_, 1) := by decide +kernel
theorem d_Search_fit_53 : decode b_Search_fit 53 = .ok (.iconst 0, 1) := by decide +kernel
theorem d_Search_fit_54 : decode b_Search_fit 54 = .ok (.istore 5, 2) := by decide +kernel
theorem d_Search_fit_56 : decode b_Search_fit 56 = .ok (.iload 5, 2) := by decide +kernel
theorem d_Search_fit_58 : decode b_Search_fit 58 = .ok (.aload_n 0, 1) := by decide +kernel
theorem d_Search_fit_59 : decode b_Search_fit 59 = .ok (.getfield 37, 3) := by decide +kernel
theorem d_Search_fit_62 : decode b_Search_fit 62 = .ok (.if_icmp .ge 66, 3) := by decide +kernel
theorem d_Search_fit_65 : decode b_Search_fit 65 = .ok (.iload 5, 2) := by decide +kernel
theorem d_Search_fit_67 : decode b_Search_fit 67 = .ok (.invokestatic 132, 3) := by decide +kernel
theorem d_Search_fit_70 : decode b_Search_fit 70 = .ok (.istore 6, 2) := by decide +kernel
theorem d_Search_fit_72 : decode b_Search_fit 72 = .ok (.aload_n 0, 1) := by decide +kernel
theorem d_Search_fit_73 : decode b_Search_fit 73 = .ok (.getfield 27, 3) := by decide +kernel
theorem d_Search_fit_76 : decode b_Search_fit 76 = .ok (.getfield 125, 3) := by decide +kernel
theorem d_Search_fit_79 : decode b_Search_fit 79 = .ok (.iload 6, 2) := by decide +kernel
theorem d_Search_fit_81 : decode b_Search_fit 81 = .ok (.iand, 1) := by decide +kernel
theorem d_Search_fit_82 : decode b_Search_fit 82 = .ok (.ifCond .ne 40, 3) := by decide +kernel
theorem d_Search_fit_85 : decode b_Search_fit 85 = .ok (.iload 4, 2) := by decide +kernel
theorem d_Search_fit_87 : decode b_Search_fit 87 = .ok (.iload 6, 2) := by decide +kernel
theorem d_Search_fit_89 : decode b_Search_fit 89 = .ok (.iload_n 2, 1) := by decide +kernel
theorem d_Search_fit_90 : decode b_Search_fit 90 = .ok (.iload_n 1, 1) := by decide +kernel
theorem d_Search_fit_91 : decode b_Search_fit 91 = .ok (.isub, 1) := by decide +kernel
theorem d_Search_fit_92 : decode b_Search_fit 92 = .ok (.iconst 1, 1) := by decide +kernel
theorem d_Search_fit_93 : decode b_Search_fit 93 = .ok (.isub, 1) := by decide +kernel
theorem d_Search_fit_94 : decode b_Search_fit 94 = .ok (.invokestatic 135, 3) := by decide +kernel
theorem d_Search_fit_97 : decode b_Search_fit 97 = .ok (.ifCond .eq 25, 3) := by decide +kernel
theorem d_Search_fit_100 : decode b_Search_fit 100 = .ok (.aload_n 0, 1) := by decide +kernel
theorem d_Search_fit_101 : decode b_Search_fit 101 = .ok (.iload_n 1, 1) := by decide +kernel
theorem d_Search_fit_102 : decode b_Search_fit 102 = .ok (.iload 5, 2) := by decide +kernel
theorem d_Search_fit_104 : decode b_Search_fit 104 = .ok (.invokevirtual 139, 3) := by decide +kernel
theorem d_Search_fit_107 : decode b_Search_fit 107 = .ok (.pop, 1) := by decide +kernel
theorem d_Search_fit_108 : decode b_Search_fit 108 = .ok (.aload_n 0, 1) := by decide +kernel
theorem d_Search_fit_109 : decode b_Search_fit 109 = .ok (.iload_n 1, 1) := by decide +kernel
theorem d_Search_fit_110 : decode b_Search_fit 110 = .ok (.iconst 1, 1) := by decide +kernel
theorem d_Search_fit_111 : decode b_Search_fit 111 = .ok (.iadd, 1) := by decide +kernel
theorem d_Search_fit_112 : decode b_Search_fit 112 = .ok (.iload_n 2, 1) := by decide +kernel
theorem d_Search_fit_113 : decode b_Search_fit 113 = .ok (.iload_n 3, 1) := by decide +kernel
theorem d_Search_fit_114 : decode b_Search_fit 114 = .ok (.iconst 1, 1) := by decide +kernel
theorem d_Search_fit_115 : decode b_Search_fit 115 = .ok (.iload 5, 2) := by decide +kernel
theorem d_Search_fit_117 : decode b_Search_fit 117 = .ok (.ishl, 1) := by decide +kernel
theorem d_Search_fit_118 : decode b_Search_fit 118 = .ok (.ior, 1) := by decide +kernel
theorem d_Search_fit_119 : decode b_Search_fit 119 = .ok (.invokestatic 89, 3) := by decide +kernel
theorem d_Search_fit_122 : decode b_Search_fit 122 = .ok (.iinc 5 1, 3) := by decide +kernel
theorem d_Search_fit_125 : decode b_Search_fit 125 = .ok (.goto (-69), 3) := by decide +kernel
theorem d_Search_fit_128 : decode b_Search_fit 128 = .ok (.return_, 1) := by decide +kernel
def X_Search_fit_L56 (n : Nat) (self : Int32 → Int32 → Int32 → Mem → Option (Unit × Mem)) (a1 : Int32) (a2 : Int32) (a3 : Int32) (a4 : Int32) : Nat → Int32 → Mem → Option (Unit × Mem)
    | 0, _, _ => none
    | m + 1, v5, M => (if (M.1 26 8) ≤ v5 then
    some ((), M)
    else
    bd (X_Search_bitsOf n v5 M) fun r4 M5 =>
    nm (fun (M6 : Mem) => X_Search_fit_L56 n self a1 a2 a3 a4 m (v5 + 1) M6) fun k122 =>
    (if ((M5.1 16 1) &&& r4) = 0 then
      bd (X_Search_canMend n a4 r4 ((a2 - a1) - 1) M5) fun r7 M8 =>
      (if r7 = 0 then
        k122 M8
        else
        bd (X_Search_step n a1 v5 M8) fun r9 M10 =>
        bd (self (a1 + 1) a2 (a3 ||| (1 <<< (v5 &&& 31))) M10) fun _ M12 =>
        k122 M12)
      else
      k122 M5))
def X_Search_fit (n : Nat) : Nat → Int32 → Int32 → Int32 → Mem → Option (Unit × Mem)
    | 0, _, _, _, _ => none
    | f + 1, p1, p2, p3, M => gd p1 7 (
    bd (X_Search_unlikeSeen n (([30, 31, 32, 33, 34, 35, 36] : List Nat).getD p1.toNatClampNeg 0) M) fun r2 M3 =>
    (if p1 < p2 then
      X_Search_fit_L56 n (X_Search_fit n f) p1 p2 p3 r2 n 0 M3
      else
      (if r2 = 0 then
        nm (si M3 26 2 ((M3.1 26 2) + 1)) fun N13 =>
        nm (si N13 26 3 ((N13.1 26 3) &&& p3)) fun N14 =>
        some ((), si N14 26 4 ((N14.1 26 4) ||| p3))
        else
        some ((), M3))))
set_option maxRecDepth 20000 in
set_option maxHeartbeats 4000000 in
theorem X_Search_fit_L56_ok {n : Nat} {f : Nat} {self : Int32 → Int32 → Int32 → Mem → Option (Unit × Mem)} {a1 : Int32} {a2 : Int32} {a3 : Int32} {a4 : Int32} (hself : ∀ (q0 : Int32) (q1 : Int32) (q2 : Int32) (M : Mem), Ct y_Search_fit (mt_Search_fit f) wU [Value.ref 26, Value.int q0, Value.int q1, Value.int q2] M (self q0 q1 q2 M)) : ∀ (m : Nat) (v5 : Int32) (M : Mem), J (mt_Search_fit (f + 1)) wU 56 [(0, Value.ref 26), (1, Value.int a1), (2, Value.int a2), (3, Value.int a3), (4, Value.int a4), (5, Value.int v5)] [] M (X_Search_fit_L56 n self a1 a2 a3 a4 m v5 M) := by
  intro m
  induction m with
  | zero => intro _ _; exact j_none
  | succ m ih =>
    intro v5 M
    show J _ _ _ _ _ _ ((if (M.1 26 8) ≤ v5 then
some ((), M)
else
bd (X_Search_bitsOf n v5 M) fun r4 M5 =>
nm (fun (M6 : Mem) => X_Search_fit_L56 n self a1 a2 a3 a4 m (v5 + 1) M6) fun k122 =>
(if ((M5.1 16 1) &&& r4) = 0 then
bd (X_Search_canMend n a4 r4 ((a2 - a1) - 1) M5) fun r7 M8 =>
(if r7 = 0 then
k122 M8
else
bd (X_Search_step n a1 v5 M8) fun r9 M10 =>
bd (self (a1 + 1) a2 (a3 ||| (1 <<< (v5 &&& 31))) M10) fun _ M12 =>
k122 M12)
else
k122 M5)))
    refine j_iload (pc := 56) (q := 5) d_Search_fit_56 rfl ?_
    refine j_aload_n (pc := 58) (q := 0) d_Search_fit_58 rfl rfl ?_
    refine j_getI (pc := 59) d_Search_fit_59 fl_Search_37 sx_26 (by decide) rfl ?_
    refine j_icmp_ge (pc := 62) (tgt := 128) d_Search_fit_62 (by decide) (fun _ => ?_) (fun _ => ?_)
    · exact j_return (pc := 128) d_Search_fit_128 rfl
    · refine j_iload (pc := 65) (q := 5) d_Search_fit_65 rfl ?_
      refine j_callS1 (pc := 67) d_Search_fit_67 (C_Search_bitsOf n v5 M) cS_Search_132 cd_Search_bitsOf dn_Search_bitsOf rfl (by show 2 + 1 ≤ 7 + (f + 1); omega) (Nat.le_of_ble_eq_true rfl) (Nat.le_of_ble_eq_true rfl) nr_I (fun r4 M5 => ?_)
      refine j_istore (pc := 70) d_Search_fit_70 (by show 6 < 7; decide) rfl ?_
      refine j_aload_n (pc := 72) (q := 1) d_Search_fit_72 rfl rfl ?_
      refine j_getA (pc := 73) d_Search_fit_73 fl_Search_27 sx_26 (by decide) rfl ?_
      refine j_getI (pc := 76) d_Search_fit_76 fl_Search_125 sx_16 (by decide) rfl ?_
      refine j_iload (pc := 79) (q := 0) d_Search_fit_79 rfl ?_
      refine j_iand (pc := 81) d_Search_fit_81 ?_
      refine j_nmk (fun k => ∀ (M6 : Mem), J (mt_Search_fit (f + 1)) wU 122 [(0, Value.ref 26), (1, Value.int a1), (2, Value.int a2), (3, Value.int a3), (4, Value.int a4), (5, Value.int v5)] [] M6 (k M6)) (fun M6 => ?_) (fun k122 hk122 => ?_)
      · refine j_iinc (pc := 122) (q := 5) d_Search_fit_122 rfl (congrArg (v5 + ·) k_i_1) (by show 5 < 7; decide) rfl ?_
        refine j_goto (pc := 125) (tgt := 56) d_Search_fit_125 (by decide) ?_
        refine j_lv [1, 2, 3, 4, 5, 0] rfl ?_
        exact ih (v5 + 1) M6
      · refine j_if_ne (pc := 82) (tgt := 122) d_Search_fit_82 (by decide) (fun _ => ?_) (fun _ => ?_)
        · refine j_lv [1, 2, 3, 4, 5, 6] rfl ?_
          exact hk122 M5
        · refine j_iload (pc := 85) (q := 5) d_Search_fit_85 rfl ?_
          refine j_iload (pc := 87) (q := 0) d_Search_fit_87 rfl ?_
          refine j_iload_n (pc := 89) (q := 3) d_Search_fit_89 rfl rfl ?_
          refine j_iload_n (pc := 90) (q := 2) d_Search_fit_90 rfl rfl ?_
          refine j_isub (pc := 91) d_Search_fit_91 ?_
          refine j_iconst (pc := 92) d_Search_fit_92 k_i_1 ?_
          refine j_isub (pc := 93) d_Search_fit_93 ?_
          refine j_callS3 (pc := 94) d_Search_fit_94 (C_Search_canMend n a4 r4 ((a2 - a1) - 1) M5) cS_Search_135 cd_Search_canMend dn_Search_canMend rfl (by show 3 + 1 ≤ 7 + (f + 1); omega) (Nat.le_of_ble_eq_true rfl) (Nat.le_of_ble_eq_true rfl) nr_I (fun r7 M8 => ?_)
          refine j_if_eq (pc := 97) (tgt := 122) d_Search_fit_97 (by decide) (fun _ => ?_) (fun _ => ?_)
          · refine j_lv [1, 2, 3, 4, 5, 6] rfl ?_
            exact hk122 M8
          · refine j_aload_n (pc := 100) (q := 1) d_Search_fit_100 rfl rfl ?_
            refine j_iload_n (pc := 101) (q := 2) d_Search_fit_101 rfl rfl ?_
            refine j_iload (pc := 102) (q := 6) d_Search_fit_102 rfl ?_
            refine j_callV2 (pc := 104) d_Search_fit_104 (C_Search_step n a1 v5 M8) cV_Search_139 cd_Search_step dn_Search_step rfl (by show 6 + 1 ≤ 7 + (f + 1); omega) (Nat.le_of_ble_eq_true rfl) (Nat.le_of_ble_eq_true rfl) nr_I sx_26 (by decide) rfl (fun r9 M10 => ?_)
            refine j_pop (pc := 107) d_Search_fit_107 rfl ?_
            refine j_aload_n (pc := 108) (q := 1) d_Search_fit_108 rfl rfl ?_
            refine j_iload_n (pc := 109) (q := 2) d_Search_fit_109 rfl rfl ?_
            refine j_iconst (pc := 110) d_Search_fit_110 k_i_1 ?_
            refine j_iadd (pc := 111) d_Search_fit_111 ?_
            refine j_iload_n (pc := 112) (q := 3) d_Search_fit_112 rfl rfl ?_
            refine j_iload_n (pc := 113) (q := 4) d_Search_fit_113 rfl rfl ?_
            refine j_iconst (pc := 114) d_Search_fit_114 k_i_1 ?_
            refine j_iload (pc := 115) (q := 6) d_Search_fit_115 rfl ?_
            refine j_ishl (pc := 117) d_Search_fit_117 ?_
            refine j_ior (pc := 118) d_Search_fit_118 ?_
            refine j_callS4 (pc := 119) d_Search_fit_119 (hself (a1 + 1) a2 (a3 ||| (1 <<< (v5 &&& 31))) M10) cS_Search_89 cd_Search_fit dn_Search_fit rfl (Nat.le_refl _) (Nat.le_of_ble_eq_true rfl) (Nat.le_of_ble_eq_true rfl) nr_U (fun r11 M12 => ?_)
            refine j_lv [1, 2, 3, 4, 5, 6] rfl ?_
            exact hk122 M12
set_option maxRecDepth 20000 in
set_option maxHeartbeats 4000000 in
theorem C_Search_fit (n : Nat) : ∀ (f : Nat) (p1 : Int32) (p2 : Int32) (p3 : Int32) (M : Mem), Ct y_Search_fit (mt_Search_fit f) wU [Value.ref 26, Value.int p1, Value.int p2, Value.int p3] M (X_Search_fit n f p1 p2 p3 M) := by
  intro f
  induction f with
  | zero => intro p1 p2 p3 M r M2 hF; cases hF
  | succ f ihf =>
    intro p1 p2 p3 M
    refine ct_of (by decide +kernel) rfl (Nat.le_of_ble_eq_true rfl) ?_
    show J _ _ _ [(0, Value.ref 26), (1, Value.int p1), (2, Value.int p2), (3, Value.int p3)] _ _ (gd p1 7 (
bd (X_Search_unlikeSeen n (([30, 31, 32, 33, 34, 35, 36] : List Nat).getD p1.toNatClampNeg 0) M) fun r2 M3 =>
(if p1 < p2 then
X_Search_fit_L56 n (X_Search_fit n f) p1 p2 p3 r2 n 0 M3
else
(if r2 = 0 then
nm (si M3 26 2 ((M3.1 26 2) + 1)) fun N13 =>
nm (si N13 26 3 ((N13.1 26 3) &&& p3)) fun N14 =>
some ((), si N14 26 4 ((N14.1 26 4) ||| p3))
else
some ((), M3)))))
    refine j_aload_n (pc := 0) (q := 0) d_Search_fit_0 rfl rfl ?_
    refine j_aload_n (pc := 1) (q := 0) d_Search_fit_1 rfl rfl ?_
    refine j_getA (pc := 2) d_Search_fit_2 fl_Search_20 sx_26 (by decide) rfl ?_
    refine j_iload_n (pc := 5) (q := 1) d_Search_fit_5 rfl rfl ?_
    refine j_aald2 (pc := 6) (ids := [30, 31, 32, 33, 34, 35, 36]) d_Search_fit_6 sx_29 (fun h1 => ?_)
    refine j_callV1 (pc := 7) d_Search_fit_7 (C_Search_unlikeSeen n (([30, 31, 32, 33, 34, 35, 36] : List Nat).getD p1.toNatClampNeg 0) (sh_level h1) M) cV_Search_143 cd_Search_unlikeSeen dn_Search_unlikeSeen rfl (by show 3 + 1 ≤ 7 + (f + 1); omega) (Nat.le_of_ble_eq_true rfl) (Nat.le_of_ble_eq_true rfl) nr_I sx_26 (by decide) rfl (fun r2 M3 => ?_)
    refine j_istore (pc := 10) d_Search_fit_10 (by show 4 < 7; decide) rfl ?_
    refine j_iload_n (pc := 12) (q := 2) d_Search_fit_12 rfl rfl ?_
    refine j_iload_n (pc := 13) (q := 3) d_Search_fit_13 rfl rfl ?_
    refine j_icmp_lt (pc := 14) (tgt := 53) d_Search_fit_14 (by decide) (fun _ => ?_) (fun _ => ?_)
    · refine j_iconst (pc := 53) d_Search_fit_53 k_i_0 ?_
      refine j_istore (pc := 54) d_Search_fit_54 (by show 5 < 7; decide) rfl ?_
      refine j_lv [2, 3, 4, 5, 1, 0] rfl ?_
      exact X_Search_fit_L56_ok ihf  n 0 M3
    · refine j_iload (pc := 17) (q := 0) d_Search_fit_17 rfl ?_
      refine j_if_ne (pc := 19) (tgt := 52) d_Search_fit_19 (by decide) (fun _ => ?_) (fun _ => ?_)
      · exact j_return (pc := 52) d_Search_fit_52 rfl
      · refine j_aload_n (pc := 22) (q := 1) d_Search_fit_22 rfl rfl ?_
        refine j_dup (pc := 23) d_Search_fit_23 rfl ?_
        refine j_getI (pc := 24) d_Search_fit_24 fl_Search_80 sx_26 (by decide) rfl ?_
        refine j_iconst (pc := 27) d_Search_fit_27 k_i_1 ?_
        refine j_iadd (pc := 28) d_Search_fit_28 ?_
        refine j_putI (pc := 29) d_Search_fit_29 fl_Search_80 rfl sx_26 (by decide) rfl ?_
        refine j_aload_n (pc := 32) (q := 1) d_Search_fit_32 rfl rfl ?_
        refine j_dup (pc := 33) d_Search_fit_33 rfl ?_
        refine j_nmM (fun N13 => ?_)
        refine j_getI (pc := 34) d_Search_fit_34 fl_Search_83 sx_26 (by decide) rfl ?_
        refine j_iload_n (pc := 37) (q := 4) d_Search_fit_37 rfl rfl ?_
        refine j_iand (pc := 38) d_Search_fit_38 ?_
        refine j_putI (pc := 39) d_Search_fit_39 fl_Search_83 rfl sx_26 (by decide) rfl ?_
        refine j_aload_n (pc := 42) (q := 1) d_Search_fit_42 rfl rfl ?_
        refine j_dup (pc := 43) d_Search_fit_43 rfl ?_
        refine j_nmM (fun N14 => ?_)
        refine j_getI (pc := 44) d_Search_fit_44 fl_Search_86 sx_26 (by decide) rfl ?_
        refine j_iload_n (pc := 47) (q := 4) d_Search_fit_47 rfl rfl ?_
        refine j_ior (pc := 48) d_Search_fit_48 ?_
        refine j_putI (pc := 49) d_Search_fit_49 fl_Search_86 rfl sx_26 (by decide) rfl ?_
        exact j_return (pc := 52) d_Search_fit_52 rfl
-- Search.countFits (I)V
def mt_Search_countFits : Mt := ("ShakeHands$Search", b_Search_countFits, 2, none, 20, SHx)
theorem d_Search_countFits_0 : decode b_Search_countFits 0 = .ok (.aload_n 0, 1) := by decide +kernel
theorem d_Search_countFits_1 : decode b_Search_countFits 1 = .ok (.iconst 0, 1) := by decide +kernel
theorem d_Search_countFits_2 : decode b_Search_countFits 2 = .ok (.putfield 80, 3) := by decide +kernel
theorem d_Search_countFits_5 : decode b_Search_countFits 5 = .ok (.aload_n 0, 1) := by decide +kernel
theorem d_Search_countFits_6 : decode b_Search_countFits 6 = .ok (.sipush 32767, 3) := by decide +kernel
theorem d_Search_countFits_9 : decode b_Search_countFits 9 = .ok (.putfield 83, 3) := by decide +kernel
theorem d_Search_countFits_12 : decode b_Search_countFits 12 = .ok (.aload_n 0, 1) := by decide +kernel
theorem d_Search_countFits_13 : decode b_Search_countFits 13 = .ok (.iconst 0, 1) := by decide +kernel
theorem d_Search_countFits_14 : decode b_Search_countFits 14 = .ok (.putfield 86, 3) := by decide +kernel
theorem d_Search_countFits_17 : decode b_Search_countFits 17 = .ok (.aload_n 0, 1) := by decide +kernel
theorem d_Search_countFits_18 : decode b_Search_countFits 18 = .ok (.iconst 0, 1) := by decide +kernel
theorem d_Search_countFits_19 : decode b_Search_countFits 19 = .ok (.iload_n 1, 1) := by decide +kernel
theorem d_Search_countFits_20 : decode b_Search_countFits 20 = .ok (.iconst 0, 1) := by decide +kernel
theorem d_Search_countFits_21 : decode b_Search_countFits 21 = .ok (.invokestatic 89, 3) := by decide +kernel
theorem d_Search_countFits_24 : decode b_Search_countFits 24 = .ok (.return_, 1) := by decide +kernel
def X_Search_countFits (n : Nat) (p1 : Int32) (M : Mem) : Option (Unit × Mem) :=
  nm (si (si (si M 26 2 0) 26 3 32767) 26 4 0) fun N1 =>
  bd (X_Search_fit n 12 0 p1 0 N1) fun _ M3 =>
  some ((), M3)
set_option maxRecDepth 20000 in
set_option maxHeartbeats 4000000 in
theorem C_Search_countFits (n : Nat)   (p1 : Int32) (M : Mem) : Ct y_Search_countFits mt_Search_countFits wU [Value.ref 26, Value.int p1] M (X_Search_countFits n p1 M) := by
  refine ct_of (by decide +kernel) rfl (Nat.le_of_ble_eq_true rfl) ?_
  show J _ _ _ [(0, Value.ref 26), (1, Value.int p1)] _ _ _
  unfold X_Search_countFits
  refine j_aload_n (pc := 0) (q := 0) d_Search_countFits_0 rfl rfl ?_
  refine j_iconst (pc := 1) d_Search_countFits_1 k_i_0 ?_
  refine j_putI (pc := 2) d_Search_countFits_2 fl_Search_80 rfl sx_26 (by decide) rfl ?_
  refine j_aload_n (pc := 5) (q := 0) d_Search_countFits_5 rfl rfl ?_
  refine j_sipush (pc := 6) d_Search_countFits_6 k_s_32767 ?_
  refine j_putI (pc := 9) d_Search_countFits_9 fl_Search_83 rfl sx_26 (by decide) rfl ?_
  refine j_aload_n (pc := 12) (q := 0) d_Search_countFits_12 rfl rfl ?_
  refine j_iconst (pc := 13) d_Search_countFits_13 k_i_0 ?_
  refine j_putI (pc := 14) d_Search_countFits_14 fl_Search_86 rfl sx_26 (by decide) rfl ?_
  refine j_aload_n (pc := 17) (q := 0) d_Search_countFits_17 rfl rfl ?_
  refine j_iconst (pc := 18) d_Search_countFits_18 k_i_0 ?_
  refine j_iload_n (pc := 19) (q := 1) d_Search_countFits_19 rfl rfl ?_
  refine j_iconst (pc := 20) d_Search_countFits_20 k_i_0 ?_
  refine j_nmM (fun N1 => ?_)
  refine j_callS4 (pc := 21) d_Search_countFits_21 (C_Search_fit n 12 0 p1 0 N1) cS_Search_89 cd_Search_fit dn_Search_fit rfl (by decide) (Nat.le_of_ble_eq_true rfl) (Nat.le_of_ble_eq_true rfl) nr_U (fun r2 M3 => ?_)
  exact j_return (pc := 24) d_Search_countFits_24 rfl
-- Search.sit (LShakeHands$Search;II)V
def mt_Search_sit (f : Nat) : Mt := ("ShakeHands$Search", b_Search_sit, 4, none, 7 + f, SHx)
theorem d_Search_sit_0 : decode b_Search_sit 0 = .ok (.iload_n 1, 1) := by decide +kernel
theorem d_Search_sit_1 : decode b_Search_sit 1 = .ok (.aload_n 0, 1) := by decide +kernel
theorem d_Search_sit_2 : decode b_Search_sit 2 = .ok (.getfield 23, 3) := by decide +kernel
theorem d_Search_sit_5 : decode b_Search_sit 5 = .ok (.getfield 31, 3) := by decide +kernel
theorem d_Search_sit_8 : decode b_Search_sit 8 = .ok (.if_icmp .lt 49, 3) := by decide +kernel
theorem d_Search_sit_11 : decode b_Search_sit 11 = .ok (.aload_n 0, 1) := by decide +kernel
theorem d_Search_sit_12 : decode b_Search_sit 12 = .ok (.aload_n 0, 1) := by decide +kernel
theorem d_Search_sit_13 : decode b_Search_sit 13 = .ok (.getfield 20, 3) := by decide +kernel
theorem d_Search_sit_16 : decode b_Search_sit 16 = .ok (.iload_n 1, 1) := by decide +kernel
theorem d_Search_sit_17 : decode b_Search_sit 17 = .ok (.aaload, 1) := by decide +kernel
theorem d_Search_sit_18 : decode b_Search_sit 18 = .ok (.invokevirtual 72, 3) := by decide +kernel
theorem d_Search_sit_21 : decode b_Search_sit 21 = .ok (.ifCond .ne 35, 3) := by decide +kernel
theorem d_Search_sit_24 : decode b_Search_sit 24 = .ok (.aload_n 0, 1) := by decide +kernel
theorem d_Search_sit_25 : decode b_Search_sit 25 = .ok (.getfield 80, 3) := by decide +kernel
theorem d_Search_sit_28 : decode b_Search_sit 28 = .ok (.ifCond .ne 18, 3) := by decide +kernel
theorem d_Search_sit_31 : decode b_Search_sit 31 = .ok (.aload_n 0, 1) := by decide +kernel
theorem d_Search_sit_32 : decode b_Search_sit 32 = .ok (.getfield 11, 3) := by decide +kernel
theorem d_Search_sit_35 : decode b_Search_sit 35 = .ok (.iconst 0, 1) := by decide +kernel
theorem d_Search_sit_36 : decode b_Search_sit 36 = .ok (.aload_n 0, 1) := by decide +kernel
theorem d_Search_sit_37 : decode b_Search_sit 37 = .ok (.getfield 15, 3) := by decide +kernel
theorem d_Search_sit_40 : decode b_Search_sit 40 = .ok (.iconst 0, 1) := by decide +kernel
theorem d_Search_sit_41 : decode b_Search_sit 41 = .ok (.bipush 6, 2) := by decide +kernel
theorem d_Search_sit_43 : decode b_Search_sit 43 = .ok (.invokestatic 46, 3) := by decide +kernel
theorem d_Search_sit_46 : decode b_Search_sit 46 = .ok (.aload_n 0, 1) := by decide +kernel
theorem d_Search_sit_47 : decode b_Search_sit 47 = .ok (.dup, 1) := by decide +kernel
theorem d_Search_sit_48 : decode b_Search_sit 48 = .ok (.getfield 80, 3) := by decide +kernel
theorem d_Search_sit_51 : decode b_Search_sit 51 = .ok (.iconst 1, 1) := by decide +kernel
theorem d_Search_sit_52 : decode b_Search_sit 52 = .ok (.iadd, 1) := by decide +kernel
theorem d_Search_sit_53 : decode b_Search_sit 53 = .ok (.putfield 80, 3) := by decide +kernel
theorem d_Search_sit_56 : decode b_Search_sit 56 = .ok (.return_, 1) := by decide +kernel
theorem d_Search_sit_57 : decode b_Search_sit 57 = .ok (.iconst 0, 1) := by decide +kernel
theorem d_Search_sit_58 : decode b_Search_sit 58 = .ok (.istore_n 3, 1) := by decide +kernel
theorem d_Search_sit_59 : decode b_Search_sit 59 = .ok (.iload_n 3, 1) := by decide +kernel
theorem d_Search_sit_60 : decode b_Search_sit 60 = .ok (.aload_n 0, 1) := by decide +kernel
theorem d_Search_sit_61 : decode b_Search_sit 61 = .ok (.getfield 23, 3) := by decide +kernel
theorem d_Search_sit_64 : decode b_Search_sit 64 = .ok (.getfield 31, 3) := by decide +kernel
theorem d_Search_sit_67 : decode b_Search_sit 67 = .ok (.if_icmp .ge 62, 3) := by decide +kernel
theorem d_Search_sit_70 : decode b_Search_sit 70 = .ok (.iload_n 2, 1) := by decide +kernel
theorem d_Search_sit_71 : decode b_Search_sit 71 = .ok (.iload_n 3, 1) := by decide +kernel
theorem d_Search_sit_72 : decode b_Search_sit 72 = .ok (.iushr, 1) := by decide +kernel
theorem d_Search_sit_73 : decode b_Search_sit 73 = .ok (.iconst 1, 1) := by decide +kernel
theorem d_Search_sit_74 : decode b_Search_sit 74 = .ok (.iand, 1) := by decide +kernel
theorem d_Search_sit_75 : decode b_Search_sit 75 = .ok (.ifCond .ne 48, 3) := by decide +kernel
theorem d_Search_sit_78 : decode b_Search_sit 78 = .ok (.aload_n 0, 1) := by decide +kernel
theorem d_Search_sit_79 : decode b_Search_sit 79 = .ok (.getfield 11, 3) := by decide +kernel
theorem d_Search_sit_82 : decode b_Search_sit 82 = .ok (.iload_n 1, 1) := by decide +kernel
theorem d_Search_sit_83 : decode b_Search_sit 83 = .ok (.iload_n 3, 1) := by decide +kernel
theorem d_Search_sit_84 : decode b_Search_sit 84 = .ok (.iastore, 1) := by decide +kernel
theorem d_Search_sit_85 : decode b_Search_sit 85 = .ok (.aload_n 0, 1) := by decide +kernel
theorem d_Search_sit_86 : decode b_Search_sit 86 = .ok (.iload_n 1, 1) := by decide +kernel
theorem d_Search_sit_87 : decode b_Search_sit 87 = .ok (.iload_n 1, 1) := by decide +kernel
theorem d_Search_sit_88 : decode b_Search_sit 88 = .ok (.ifCond .ne 7, 3) := by decide +kernel
theorem d_Search_sit_91 : decode b_Search_sit 91 = .ok (.iconst (-1), 1) := by decide +kernel
theorem d_Search_sit_92 : decode b_Search_sit 92 = .ok (.goto 15, 3) := by decide +kernel
theorem d_Search_sit_95 : decode b_Search_sit 95 = .ok (.aload_n 0, 1) := by decide +kernel
theorem d_Search_sit_96 : decode b_Search_sit 96 = .ok (.getfield 11, 3) := by decide +kernel
theorem d_Search_sit_99 : decode b_Search_sit 99 = .ok (.iload_n 1, 1) := by decide +kernel
theorem d_Search_sit_100 : decode b_Search_sit 100 = .ok (.iconst 1, 1) := by decide +kernel
theorem d_Search_sit_101 : decode b_Search_sit 101 = .ok (.isub, 1) := by decide +kernel
theorem d_Search_sit_102 : decode b_Search_sit 102 = .ok (.iaload, 1) := by decide +kernel
theorem d_Search_sit_103 : decode b_Search_sit 103 = .ok (.iload_n 3, 1) := by decide +kernel
theorem d_Search_sit_104 : decode b_Search_sit 104 = .ok (.invokestatic 146, 3) := by decide +kernel
theorem d_Search_sit_107 : decode b_Search_sit 107 = .ok (.invokevirtual 139, 3) := by decide +kernel
theorem d_Search_sit_110 : decode b_Search_sit 110 = .ok (.pop, 1) := by decide +kernel
theorem d_Search_sit_111 : decode b_Search_sit 111 = .ok (.aload_n 0, 1) := by decide +kernel
theorem d_Search_sit_112 : decode b_Search_sit 112 = .ok (.iload_n 1, 1) := by decide +kernel
theorem d_Search_sit_113 : decode b_Search_sit 113 = .ok (.iconst 1, 1) := by decide +kernel
theorem d_Search_sit_114 : decode b_Search_sit 114 = .ok (.iadd, 1) := by decide +kernel
theorem d_Search_sit_115 : decode b_Search_sit 115 = .ok (.iload_n 2, 1) := by decide +kernel
theorem d_Search_sit_116 : decode b_Search_sit 116 = .ok (.iconst 1, 1) := by decide +kernel
theorem d_Search_sit_117 : decode b_Search_sit 117 = .ok (.iload_n 3, 1) := by decide +kernel
theorem d_Search_sit_118 : decode b_Search_sit 118 = .ok (.ishl, 1) := by decide +kernel
theorem d_Search_sit_119 : decode b_Search_sit 119 = .ok (.ior, 1) := by decide +kernel
theorem d_Search_sit_120 : decode b_Search_sit 120 = .ok (.invokestatic 93, 3) := by decide +kernel
theorem d_Search_sit_123 : decode b_Search_sit 123 = .ok (.iinc 3 1, 3) := by decide +kernel
theorem d_Search_sit_126 : decode b_Search_sit 126 = .ok (.goto (-67), 3) := by decide +kernel
theorem d_Search_sit_129 : decode b_Search_sit 129 = .ok (.return_, 1) := by decide +kernel
def X_Search_sit_L59 (n : Nat) (self : Int32 → Int32 → Mem → Option (Unit × Mem)) (a1 : Int32) (a2 : Int32) : Nat → Int32 → Mem → Option (Unit × Mem)
    | 0, _, _ => none
    | m + 1, v3, M => (if (M.1 11 0) ≤ v3 then
    some ((), M)
    else
    nm (fun (M1 : Mem) => X_Search_sit_L59 n self a1 a2 m (v3 + 1) M1) fun k123 =>
    (if (((a2.toUInt32 >>> (v3.toUInt32 &&& Int32.toUInt32 31)).toInt32) &&& 1) = 0 then
      gd a1 6 (
        nm (fun (u2 : Int32) (M3 : Mem) => bd (X_Search_step n a1 u2 M3) fun r4 M5 =>
          bd (self (a1 + 1) (a2 ||| (1 <<< (v3 &&& 31))) M5) fun _ M7 =>
          k123 M7) fun k107 =>
        (if a1 = 0 then
          k107 (-1) (si M 27 (a1.toNatClampNeg) v3)
          else
          nm (si M 27 (a1.toNatClampNeg) v3) fun N8 =>
          gd (a1 - 1) 6 (
            bd (X_ShakeHands_pairOf n (N8.1 27 (a1 - 1).toNatClampNeg) v3 N8) fun r9 M10 =>
            k107 r9 M10)))
      else
      k123 M))
def X_Search_sit (n : Nat) : Nat → Int32 → Int32 → Mem → Option (Unit × Mem)
    | 0, _, _, _ => none
    | f + 1, p1, p2, M => (if p1 < (M.1 11 0) then
    X_Search_sit_L59 n (X_Search_sit n f) p1 p2 n 0 M
    else
    gd p1 7 (
      bd (X_Search_amiss n (([30, 31, 32, 33, 34, 35, 36] : List Nat).getD p1.toNatClampNeg 0) M) fun r12 M13 =>
      (if r12 = 0 then
        nm (fun (M14 : Mem) => some ((), si M14 26 2 ((M14.1 26 2) + 1))) fun k46 =>
        (if (M13.1 26 2) = 0 then
          gc (0 : Int32) (0 : Int32) (6 : Int32) 6 6 (
            k46 (cpI M13 27 ((0 : Int32).toNatClampNeg) 28 ((0 : Int32).toNatClampNeg) ((6 : Int32).toNatClampNeg)))
          else
          k46 M13)
        else
        some ((), M13))))
set_option maxRecDepth 20000 in
set_option maxHeartbeats 4000000 in
theorem X_Search_sit_L59_ok {n : Nat} {f : Nat} {self : Int32 → Int32 → Mem → Option (Unit × Mem)} {a1 : Int32} {a2 : Int32} (hself : ∀ (q0 : Int32) (q1 : Int32) (M : Mem), Ct y_Search_sit (mt_Search_sit f) wU [Value.ref 26, Value.int q0, Value.int q1] M (self q0 q1 M)) : ∀ (m : Nat) (v3 : Int32) (M : Mem), J (mt_Search_sit (f + 1)) wU 59 [(0, Value.ref 26), (1, Value.int a1), (2, Value.int a2), (3, Value.int v3)] [] M (X_Search_sit_L59 n self a1 a2 m v3 M) := by
  intro m
  induction m with
  | zero => intro _ _; exact j_none
  | succ m ih =>
    intro v3 M
    show J _ _ _ _ _ _ ((if (M.1 11 0) ≤ v3 then
some ((), M)
else
nm (fun (M1 : Mem) => X_Search_sit_L59 n self a1 a2 m (v3 + 1) M1) fun k123 =>
(if (((a2.toUInt32 >>> (v3.toUInt32 &&& Int32.toUInt32 31)).toInt32) &&& 1) = 0 then
gd a1 6 (
nm (fun (u2 : Int32) (M3 : Mem) => bd (X_Search_step n a1 u2 M3) fun r4 M5 =>
bd (self (a1 + 1) (a2 ||| (1 <<< (v3 &&& 31))) M5) fun _ M7 =>
k123 M7) fun k107 =>
(if a1 = 0 then
k107 (-1) (si M 27 (a1.toNatClampNeg) v3)
else
nm (si M 27 (a1.toNatClampNeg) v3) fun N8 =>
gd (a1 - 1) 6 (
bd (X_ShakeHands_pairOf n (N8.1 27 (a1 - 1).toNatClampNeg) v3 N8) fun r9 M10 =>
k107 r9 M10)))
else
k123 M)))
    refine j_iload_n (pc := 59) (q := 3) d_Search_sit_59 rfl rfl ?_
    refine j_aload_n (pc := 60) (q := 0) d_Search_sit_60 rfl rfl ?_
    refine j_getA (pc := 61) d_Search_sit_61 fl_Search_23 sx_26 (by decide) rfl ?_
    refine j_getI (pc := 64) d_Search_sit_64 fl_Search_31 sx_11 (by decide) rfl ?_
    refine j_icmp_ge (pc := 67) (tgt := 129) d_Search_sit_67 (by decide) (fun _ => ?_) (fun _ => ?_)
    · exact j_return (pc := 129) d_Search_sit_129 rfl
    · refine j_iload_n (pc := 70) (q := 2) d_Search_sit_70 rfl rfl ?_
      refine j_iload_n (pc := 71) (q := 3) d_Search_sit_71 rfl rfl ?_
      refine j_iushr (pc := 72) d_Search_sit_72 ?_
      refine j_iconst (pc := 73) d_Search_sit_73 k_i_1 ?_
      refine j_iand (pc := 74) d_Search_sit_74 ?_
      refine j_nmk (fun k => ∀ (M1 : Mem), J (mt_Search_sit (f + 1)) wU 123 [(0, Value.ref 26), (1, Value.int a1), (2, Value.int a2), (3, Value.int v3)] [] M1 (k M1)) (fun M1 => ?_) (fun k123 hk123 => ?_)
      · refine j_iinc (pc := 123) (q := 3) d_Search_sit_123 rfl (congrArg (v3 + ·) k_i_1) (by show 3 < 4; decide) rfl ?_
        refine j_goto (pc := 126) (tgt := 59) d_Search_sit_126 (by decide) ?_
        refine j_lv [1, 2, 3, 0] rfl ?_
        exact ih (v3 + 1) M1
      · refine j_if_ne (pc := 75) (tgt := 123) d_Search_sit_75 (by decide) (fun _ => ?_) (fun _ => ?_)
        · exact hk123 M
        · refine j_aload_n (pc := 78) (q := 0) d_Search_sit_78 rfl rfl ?_
          refine j_getA (pc := 79) d_Search_sit_79 fl_Search_11 sx_26 (by decide) rfl ?_
          refine j_iload_n (pc := 82) (q := 1) d_Search_sit_82 rfl rfl ?_
          refine j_iload_n (pc := 83) (q := 3) d_Search_sit_83 rfl rfl ?_
          refine j_iast (pc := 84) d_Search_sit_84 sx_27 (fun _ => ?_)
          refine j_aload_n (pc := 85) (q := 0) d_Search_sit_85 rfl rfl ?_
          refine j_iload_n (pc := 86) (q := 1) d_Search_sit_86 rfl rfl ?_
          refine j_iload_n (pc := 87) (q := 1) d_Search_sit_87 rfl rfl ?_
          refine j_nmk (fun k => ∀ (u2 : Int32) (M3 : Mem), J (mt_Search_sit (f + 1)) wU 107 [(0, Value.ref 26), (1, Value.int a1), (2, Value.int a2), (3, Value.int v3)] [Value.int u2, Value.int a1, Value.ref 26] M3 (k u2 M3)) (fun u2 M3 => ?_) (fun k107 hk107 => ?_)
          · refine j_callV2 (pc := 107) d_Search_sit_107 (C_Search_step n a1 u2 M3) cV_Search_139 cd_Search_step dn_Search_step rfl (by show 6 + 1 ≤ 7 + (f + 1); omega) (Nat.le_of_ble_eq_true rfl) (Nat.le_of_ble_eq_true rfl) nr_I sx_26 (by decide) rfl (fun r4 M5 => ?_)
            refine j_pop (pc := 110) d_Search_sit_110 rfl ?_
            refine j_aload_n (pc := 111) (q := 0) d_Search_sit_111 rfl rfl ?_
            refine j_iload_n (pc := 112) (q := 1) d_Search_sit_112 rfl rfl ?_
            refine j_iconst (pc := 113) d_Search_sit_113 k_i_1 ?_
            refine j_iadd (pc := 114) d_Search_sit_114 ?_
            refine j_iload_n (pc := 115) (q := 2) d_Search_sit_115 rfl rfl ?_
            refine j_iconst (pc := 116) d_Search_sit_116 k_i_1 ?_
            refine j_iload_n (pc := 117) (q := 3) d_Search_sit_117 rfl rfl ?_
            refine j_ishl (pc := 118) d_Search_sit_118 ?_
            refine j_ior (pc := 119) d_Search_sit_119 ?_
            refine j_callS3 (pc := 120) d_Search_sit_120 (hself (a1 + 1) (a2 ||| (1 <<< (v3 &&& 31))) M5) cS_Search_93 cd_Search_sit dn_Search_sit rfl (Nat.le_refl _) (Nat.le_of_ble_eq_true rfl) (Nat.le_of_ble_eq_true rfl) nr_U (fun r6 M7 => ?_)
            exact hk123 M7
          · refine j_if_ne (pc := 88) (tgt := 95) d_Search_sit_88 (by decide) (fun _ => ?_) (fun _ => ?_)
            · refine j_aload_n (pc := 95) (q := 0) d_Search_sit_95 rfl rfl ?_
              refine j_getA (pc := 96) d_Search_sit_96 fl_Search_11 sx_26 (by decide) rfl ?_
              refine j_iload_n (pc := 99) (q := 1) d_Search_sit_99 rfl rfl ?_
              refine j_iconst (pc := 100) d_Search_sit_100 k_i_1 ?_
              refine j_isub (pc := 101) d_Search_sit_101 ?_
              refine j_nmM (fun N8 => ?_)
              refine j_iald (pc := 102) d_Search_sit_102 sx_27 (fun _ => ?_)
              refine j_iload_n (pc := 103) (q := 3) d_Search_sit_103 rfl rfl ?_
              refine j_callSN2 (pc := 104) d_Search_sit_104 (C_ShakeHands_pairOf n (N8.1 27 (a1 - 1).toNatClampNeg) v3 N8) cSN_Search_146 cd_ShakeHands_pairOf dn_ShakeHands_pairOf rfl (by show 2 + 1 ≤ 7 + (f + 1); omega) (Nat.le_of_ble_eq_true rfl) (Nat.le_of_ble_eq_true rfl) nr_I (fun r9 M10 => ?_)
              exact hk107 r9 M10
            · refine j_iconst (pc := 91) d_Search_sit_91 k_i_m1 ?_
              refine j_goto (pc := 92) (tgt := 107) d_Search_sit_92 (by decide) ?_
              exact hk107 (-1) (si M 27 (a1.toNatClampNeg) v3)
set_option maxRecDepth 20000 in
set_option maxHeartbeats 4000000 in
theorem C_Search_sit (n : Nat) : ∀ (f : Nat) (p1 : Int32) (p2 : Int32) (M : Mem), Ct y_Search_sit (mt_Search_sit f) wU [Value.ref 26, Value.int p1, Value.int p2] M (X_Search_sit n f p1 p2 M) := by
  intro f
  induction f with
  | zero => intro p1 p2 M r M2 hF; cases hF
  | succ f ihf =>
    intro p1 p2 M
    refine ct_of (by decide +kernel) rfl (Nat.le_of_ble_eq_true rfl) ?_
    show J _ _ _ [(0, Value.ref 26), (1, Value.int p1), (2, Value.int p2)] _ _ ((if p1 < (M.1 11 0) then
X_Search_sit_L59 n (X_Search_sit n f) p1 p2 n 0 M
else
gd p1 7 (
bd (X_Search_amiss n (([30, 31, 32, 33, 34, 35, 36] : List Nat).getD p1.toNatClampNeg 0) M) fun r12 M13 =>
(if r12 = 0 then
nm (fun (M14 : Mem) => some ((), si M14 26 2 ((M14.1 26 2) + 1))) fun k46 =>
(if (M13.1 26 2) = 0 then
gc (0 : Int32) (0 : Int32) (6 : Int32) 6 6 (
k46 (cpI M13 27 ((0 : Int32).toNatClampNeg) 28 ((0 : Int32).toNatClampNeg) ((6 : Int32).toNatClampNeg)))
else
k46 M13)
else
some ((), M13)))))
    refine j_iload_n (pc := 0) (q := 1) d_Search_sit_0 rfl rfl ?_
    refine j_aload_n (pc := 1) (q := 0) d_Search_sit_1 rfl rfl ?_
    refine j_getA (pc := 2) d_Search_sit_2 fl_Search_23 sx_26 (by decide) rfl ?_
    refine j_getI (pc := 5) d_Search_sit_5 fl_Search_31 sx_11 (by decide) rfl ?_
    refine j_icmp_lt (pc := 8) (tgt := 57) d_Search_sit_8 (by decide) (fun _ => ?_) (fun _ => ?_)
    · refine j_iconst (pc := 57) d_Search_sit_57 k_i_0 ?_
      refine j_istore_n (pc := 58) d_Search_sit_58 rfl (by show 3 < 4; decide) rfl ?_
      refine j_lv [1, 2, 3, 0] rfl ?_
      exact X_Search_sit_L59_ok ihf  n 0 M
    · refine j_aload_n (pc := 11) (q := 0) d_Search_sit_11 rfl rfl ?_
      refine j_aload_n (pc := 12) (q := 0) d_Search_sit_12 rfl rfl ?_
      refine j_getA (pc := 13) d_Search_sit_13 fl_Search_20 sx_26 (by decide) rfl ?_
      refine j_iload_n (pc := 16) (q := 1) d_Search_sit_16 rfl rfl ?_
      refine j_aald2 (pc := 17) (ids := [30, 31, 32, 33, 34, 35, 36]) d_Search_sit_17 sx_29 (fun h11 => ?_)
      refine j_callV1 (pc := 18) d_Search_sit_18 (C_Search_amiss n (([30, 31, 32, 33, 34, 35, 36] : List Nat).getD p1.toNatClampNeg 0) (sh_level h11) M) cV_Search_72 cd_Search_amiss dn_Search_amiss rfl (by show 3 + 1 ≤ 7 + (f + 1); omega) (Nat.le_of_ble_eq_true rfl) (Nat.le_of_ble_eq_true rfl) nr_I sx_26 (by decide) rfl (fun r12 M13 => ?_)
      refine j_if_ne (pc := 21) (tgt := 56) d_Search_sit_21 (by decide) (fun _ => ?_) (fun _ => ?_)
      · exact j_return (pc := 56) d_Search_sit_56 rfl
      · refine j_aload_n (pc := 24) (q := 0) d_Search_sit_24 rfl rfl ?_
        refine j_getI (pc := 25) d_Search_sit_25 fl_Search_80 sx_26 (by decide) rfl ?_
        refine j_nmk (fun k => ∀ (M14 : Mem), J (mt_Search_sit (f + 1)) wU 46 [(0, Value.ref 26)] [] M14 (k M14)) (fun M14 => ?_) (fun k46 hk46 => ?_)
        · refine j_aload_n (pc := 46) (q := 0) d_Search_sit_46 rfl rfl ?_
          refine j_dup (pc := 47) d_Search_sit_47 rfl ?_
          refine j_getI (pc := 48) d_Search_sit_48 fl_Search_80 sx_26 (by decide) rfl ?_
          refine j_iconst (pc := 51) d_Search_sit_51 k_i_1 ?_
          refine j_iadd (pc := 52) d_Search_sit_52 ?_
          refine j_putI (pc := 53) d_Search_sit_53 fl_Search_80 rfl sx_26 (by decide) rfl ?_
          exact j_return (pc := 56) d_Search_sit_56 rfl
        · refine j_if_ne (pc := 28) (tgt := 46) d_Search_sit_28 (by decide) (fun _ => ?_) (fun _ => ?_)
          · refine j_lv [0] rfl ?_
            exact hk46 M13
          · refine j_aload_n (pc := 31) (q := 0) d_Search_sit_31 rfl rfl ?_
            refine j_getA (pc := 32) d_Search_sit_32 fl_Search_11 sx_26 (by decide) rfl ?_
            refine j_iconst (pc := 35) d_Search_sit_35 k_i_0 ?_
            refine j_aload_n (pc := 36) (q := 0) d_Search_sit_36 rfl rfl ?_
            refine j_getA (pc := 37) d_Search_sit_37 fl_Search_15 sx_26 (by decide) rfl ?_
            refine j_iconst (pc := 40) d_Search_sit_40 k_i_0 ?_
            refine j_bipush (pc := 41) d_Search_sit_41 k_b_6 ?_
            refine j_copyI (pc := 43) d_Search_sit_43 cw_Search_46 cw_nat cw_st sx_27 sx_28 (by show 1 ≤ 7 + (f + 1); omega) (Nat.le_of_ble_eq_true rfl) ?_
            refine j_lv [0] rfl ?_
            exact hk46 (cpI M13 27 ((0 : Int32).toNatClampNeg) 28 ((0 : Int32).toNatClampNeg) ((6 : Int32).toNatClampNeg))
-- Search.countSeats ()V
def mt_Search_countSeats : Mt := ("ShakeHands$Search", b_Search_countSeats, 1, none, 20, SHx)
theorem d_Search_countSeats_0 : decode b_Search_countSeats 0 = .ok (.aload_n 0, 1) := by decide +kernel
theorem d_Search_countSeats_1 : decode b_Search_countSeats 1 = .ok (.iconst 0, 1) := by decide +kernel
theorem d_Search_countSeats_2 : decode b_Search_countSeats 2 = .ok (.putfield 80, 3) := by decide +kernel
theorem d_Search_countSeats_5 : decode b_Search_countSeats 5 = .ok (.aload_n 0, 1) := by decide +kernel
theorem d_Search_countSeats_6 : decode b_Search_countSeats 6 = .ok (.iconst 0, 1) := by decide +kernel
theorem d_Search_countSeats_7 : decode b_Search_countSeats 7 = .ok (.iconst 0, 1) := by decide +kernel
theorem d_Search_countSeats_8 : decode b_Search_countSeats 8 = .ok (.invokestatic 93, 3) := by decide +kernel
theorem d_Search_countSeats_11 : decode b_Search_countSeats 11 = .ok (.return_, 1) := by decide +kernel
def X_Search_countSeats (n : Nat) (M : Mem) : Option (Unit × Mem) :=
  nm (si M 26 2 0) fun N1 =>
  bd (X_Search_sit n 12 0 0 N1) fun _ M3 =>
  some ((), M3)
set_option maxRecDepth 20000 in
set_option maxHeartbeats 4000000 in
theorem C_Search_countSeats (n : Nat)    (M : Mem) : Ct y_Search_countSeats mt_Search_countSeats wU [Value.ref 26] M (X_Search_countSeats n M) := by
  refine ct_of (by decide +kernel) rfl (Nat.le_of_ble_eq_true rfl) ?_
  show J _ _ _ [(0, Value.ref 26)] _ _ _
  unfold X_Search_countSeats
  refine j_aload_n (pc := 0) (q := 0) d_Search_countSeats_0 rfl rfl ?_
  refine j_iconst (pc := 1) d_Search_countSeats_1 k_i_0 ?_
  refine j_putI (pc := 2) d_Search_countSeats_2 fl_Search_80 rfl sx_26 (by decide) rfl ?_
  refine j_aload_n (pc := 5) (q := 0) d_Search_countSeats_5 rfl rfl ?_
  refine j_iconst (pc := 6) d_Search_countSeats_6 k_i_0 ?_
  refine j_iconst (pc := 7) d_Search_countSeats_7 k_i_0 ?_
  refine j_nmM (fun N1 => ?_)
  refine j_callS3 (pc := 8) d_Search_countSeats_8 (C_Search_sit n 12 0 0 N1) cS_Search_93 cd_Search_sit dn_Search_sit rfl (by decide) (Nat.le_of_ble_eq_true rfl) (Nat.le_of_ble_eq_true rfl) nr_U (fun r2 M3 => ?_)
  exact j_return (pc := 11) d_Search_countSeats_11 rfl
end
section
-- Teller.begin ()V
def mt_Teller_begin : Mt := ("ShakeHands$Teller", b_Teller_begin, 2, none, 3, SHx)
theorem d_Teller_begin_0 : decode b_Teller_begin 0 = .ok (.aload_n 0, 1) := by decide +kernel
theorem d_Teller_begin_1 : decode b_Teller_begin 1 = .ok (.getfield 12, 3) := by decide +kernel
theorem d_Teller_begin_4 : decode b_Teller_begin 4 = .ok (.invokevirtual 60, 3) := by decide +kernel
theorem d_Teller_begin_7 : decode b_Teller_begin 7 = .ok (.iconst 0, 1) := by decide +kernel
theorem d_Teller_begin_8 : decode b_Teller_begin 8 = .ok (.istore_n 1, 1) := by decide +kernel
theorem d_Teller_begin_9 : decode b_Teller_begin 9 = .ok (.iload_n 1, 1) := by decide +kernel
theorem d_Teller_begin_10 : decode b_Teller_begin 10 = .ok (.bipush 6, 2) := by decide +kernel
theorem d_Teller_begin_12 : decode b_Teller_begin 12 = .ok (.if_icmp .ge 16, 3) := by decide +kernel
theorem d_Teller_begin_15 : decode b_Teller_begin 15 = .ok (.aload_n 0, 1) := by decide +kernel
theorem d_Teller_begin_16 : decode b_Teller_begin 16 = .ok (.getfield 18, 3) := by decide +kernel
theorem d_Teller_begin_19 : decode b_Teller_begin 19 = .ok (.iload_n 1, 1) := by decide +kernel
theorem d_Teller_begin_20 : decode b_Teller_begin 20 = .ok (.lconst 0, 1) := by decide +kernel
theorem d_Teller_begin_21 : decode b_Teller_begin 21 = .ok (.lastore, 1) := by decide +kernel
theorem d_Teller_begin_22 : decode b_Teller_begin 22 = .ok (.iinc 1 1, 3) := by decide +kernel
theorem d_Teller_begin_25 : decode b_Teller_begin 25 = .ok (.goto (-16), 3) := by decide +kernel
theorem d_Teller_begin_28 : decode b_Teller_begin 28 = .ok (.aload_n 0, 1) := by decide +kernel
theorem d_Teller_begin_29 : decode b_Teller_begin 29 = .ok (.iconst 0, 1) := by decide +kernel
theorem d_Teller_begin_30 : decode b_Teller_begin 30 = .ok (.putfield 63, 3) := by decide +kernel
theorem d_Teller_begin_33 : decode b_Teller_begin 33 = .ok (.aload_n 0, 1) := by decide +kernel
theorem d_Teller_begin_34 : decode b_Teller_begin 34 = .ok (.iconst 0, 1) := by decide +kernel
theorem d_Teller_begin_35 : decode b_Teller_begin 35 = .ok (.putfield 45, 3) := by decide +kernel
theorem d_Teller_begin_38 : decode b_Teller_begin 38 = .ok (.aload_n 0, 1) := by decide +kernel
theorem d_Teller_begin_39 : decode b_Teller_begin 39 = .ok (.iconst 0, 1) := by decide +kernel
theorem d_Teller_begin_40 : decode b_Teller_begin 40 = .ok (.putfield 66, 3) := by decide +kernel
theorem d_Teller_begin_43 : decode b_Teller_begin 43 = .ok (.aload_n 0, 1) := by decide +kernel
theorem d_Teller_begin_44 : decode b_Teller_begin 44 = .ok (.iconst 0, 1) := by decide +kernel
theorem d_Teller_begin_45 : decode b_Teller_begin 45 = .ok (.putfield 69, 3) := by decide +kernel
theorem d_Teller_begin_48 : decode b_Teller_begin 48 = .ok (.aload_n 0, 1) := by decide +kernel
theorem d_Teller_begin_49 : decode b_Teller_begin 49 = .ok (.iconst 0, 1) := by decide +kernel
theorem d_Teller_begin_50 : decode b_Teller_begin 50 = .ok (.putfield 73, 3) := by decide +kernel
theorem d_Teller_begin_53 : decode b_Teller_begin 53 = .ok (.aload_n 0, 1) := by decide +kernel
theorem d_Teller_begin_54 : decode b_Teller_begin 54 = .ok (.iconst 0, 1) := by decide +kernel
theorem d_Teller_begin_55 : decode b_Teller_begin 55 = .ok (.putfield 76, 3) := by decide +kernel
theorem d_Teller_begin_58 : decode b_Teller_begin 58 = .ok (.aload_n 0, 1) := by decide +kernel
theorem d_Teller_begin_59 : decode b_Teller_begin 59 = .ok (.iconst 0, 1) := by decide +kernel
theorem d_Teller_begin_60 : decode b_Teller_begin 60 = .ok (.putfield 79, 3) := by decide +kernel
theorem d_Teller_begin_63 : decode b_Teller_begin 63 = .ok (.aload_n 0, 1) := by decide +kernel
theorem d_Teller_begin_64 : decode b_Teller_begin 64 = .ok (.iconst 0, 1) := by decide +kernel
theorem d_Teller_begin_65 : decode b_Teller_begin 65 = .ok (.putfield 82, 3) := by decide +kernel
theorem d_Teller_begin_68 : decode b_Teller_begin 68 = .ok (.return_, 1) := by decide +kernel
def X_Teller_begin_L9 (n : Nat) (kx28 : Mem → Option (Unit × Mem)) : Nat → Int32 → Mem → Option (Unit × Mem)
    | 0, _, _ => none
    | m + 1, v1, M => (if 6 ≤ v1 then
    kx28 M
    else
    gd v1 6 (
      X_Teller_begin_L9 n kx28 m (v1 + 1) (sl M 9 (v1.toNatClampNeg) 0)))
def X_Teller_begin (n : Nat) (M : Mem) : Option (Unit × Mem) :=
  bd (X_Circle_beAsAtFirst n M) fun _ M2 =>
  X_Teller_begin_L9 n (fun M3 => some ((), si (si (si (si (si (si (si (si M3 3 2 0) 3 3 0) 3 6 0) 3 10 0) 3 11 0) 3 12 0) 3 13 0) 3 14 0)) n 0 M2
set_option maxRecDepth 20000 in
set_option maxHeartbeats 4000000 in
theorem X_Teller_begin_L9_ok {n : Nat} {kx28 : Mem → Option (Unit × Mem)} (hkx28 : ∀ (M : Mem), J (mt_Teller_begin) wU 28 [(0, Value.ref 3)] [] M (kx28 M)) : ∀ (m : Nat) (v1 : Int32) (M : Mem), J (mt_Teller_begin) wU 9 [(0, Value.ref 3), (1, Value.int v1)] [] M (X_Teller_begin_L9 n kx28 m v1 M) := by
  intro m
  induction m with
  | zero => intro _ _; exact j_none
  | succ m ih =>
    intro v1 M
    show J _ _ _ _ _ _ ((if 6 ≤ v1 then
kx28 M
else
gd v1 6 (
X_Teller_begin_L9 n kx28 m (v1 + 1) (sl M 9 (v1.toNatClampNeg) 0))))
    refine j_iload_n (pc := 9) (q := 1) d_Teller_begin_9 rfl rfl ?_
    refine j_bipush (pc := 10) d_Teller_begin_10 k_b_6 ?_
    refine j_icmp_ge (pc := 12) (tgt := 28) d_Teller_begin_12 (by decide) (fun _ => ?_) (fun _ => ?_)
    · refine j_lv [0] rfl ?_
      exact hkx28 M
    · refine j_aload_n (pc := 15) (q := 0) d_Teller_begin_15 rfl rfl ?_
      refine j_getA (pc := 16) d_Teller_begin_16 fl_Teller_18 sx_3 (by decide) rfl ?_
      refine j_iload_n (pc := 19) (q := 1) d_Teller_begin_19 rfl rfl ?_
      refine j_lconst (pc := 20) d_Teller_begin_20 k_l_0 ?_
      refine j_last (pc := 21) d_Teller_begin_21 sx_9 (fun _ => ?_)
      refine j_iinc (pc := 22) (q := 1) d_Teller_begin_22 rfl (congrArg (v1 + ·) k_i_1) (by decide) rfl ?_
      refine j_goto (pc := 25) (tgt := 9) d_Teller_begin_25 (by decide) ?_
      refine j_lv [1, 0] rfl ?_
      exact ih (v1 + 1) (sl M 9 (v1.toNatClampNeg) 0)
set_option maxRecDepth 20000 in
set_option maxHeartbeats 4000000 in
theorem C_Teller_begin (n : Nat)    (M : Mem) : Ct y_Teller_begin mt_Teller_begin wU [Value.ref 3] M (X_Teller_begin n M) := by
  refine ct_of (by decide +kernel) rfl (Nat.le_of_ble_eq_true rfl) ?_
  show J _ _ _ [(0, Value.ref 3)] _ _ _
  unfold X_Teller_begin
  refine j_aload_n (pc := 0) (q := 0) d_Teller_begin_0 rfl rfl ?_
  refine j_getA (pc := 1) d_Teller_begin_1 fl_Teller_12 sx_3 (by decide) rfl ?_
  refine j_callV0 (pc := 4) d_Teller_begin_4 (C_Circle_beAsAtFirst n M) cV_Teller_60 cd_Circle_beAsAtFirst dn_Circle_beAsAtFirst rfl (by decide) (Nat.le_of_ble_eq_true rfl) (Nat.le_of_ble_eq_true rfl) nr_U sx_4 (by decide) rfl (fun r1 M2 => ?_)
  refine j_iconst (pc := 7) d_Teller_begin_7 k_i_0 ?_
  refine j_istore_n (pc := 8) d_Teller_begin_8 rfl (by decide) rfl ?_
  refine j_lv [1, 0] rfl ?_
  refine X_Teller_begin_L9_ok  (fun M3 => ?_) n 0 M2
  refine j_aload_n (pc := 28) (q := 0) d_Teller_begin_28 rfl rfl ?_
  refine j_iconst (pc := 29) d_Teller_begin_29 k_i_0 ?_
  refine j_putI (pc := 30) d_Teller_begin_30 fl_Teller_63 rfl sx_3 (by decide) rfl ?_
  refine j_aload_n (pc := 33) (q := 0) d_Teller_begin_33 rfl rfl ?_
  refine j_iconst (pc := 34) d_Teller_begin_34 k_i_0 ?_
  refine j_putI (pc := 35) d_Teller_begin_35 fl_Teller_45 rfl sx_3 (by decide) rfl ?_
  refine j_aload_n (pc := 38) (q := 0) d_Teller_begin_38 rfl rfl ?_
  refine j_iconst (pc := 39) d_Teller_begin_39 k_i_0 ?_
  refine j_putI (pc := 40) d_Teller_begin_40 fl_Teller_66 rfl sx_3 (by decide) rfl ?_
  refine j_aload_n (pc := 43) (q := 0) d_Teller_begin_43 rfl rfl ?_
  refine j_iconst (pc := 44) d_Teller_begin_44 k_i_0 ?_
  refine j_putZ (pc := 45) d_Teller_begin_45 fl_Teller_69 rfl rfl sx_3 (by decide) rfl ?_
  refine j_aload_n (pc := 48) (q := 0) d_Teller_begin_48 rfl rfl ?_
  refine j_iconst (pc := 49) d_Teller_begin_49 k_i_0 ?_
  refine j_putZ (pc := 50) d_Teller_begin_50 fl_Teller_73 rfl rfl sx_3 (by decide) rfl ?_
  refine j_aload_n (pc := 53) (q := 0) d_Teller_begin_53 rfl rfl ?_
  refine j_iconst (pc := 54) d_Teller_begin_54 k_i_0 ?_
  refine j_putI (pc := 55) d_Teller_begin_55 fl_Teller_76 rfl sx_3 (by decide) rfl ?_
  refine j_aload_n (pc := 58) (q := 0) d_Teller_begin_58 rfl rfl ?_
  refine j_iconst (pc := 59) d_Teller_begin_59 k_i_0 ?_
  refine j_putI (pc := 60) d_Teller_begin_60 fl_Teller_79 rfl sx_3 (by decide) rfl ?_
  refine j_aload_n (pc := 63) (q := 0) d_Teller_begin_63 rfl rfl ?_
  refine j_iconst (pc := 64) d_Teller_begin_64 k_i_0 ?_
  refine j_putI (pc := 65) d_Teller_begin_65 fl_Teller_82 rfl sx_3 (by decide) rfl ?_
  exact j_return (pc := 68) d_Teller_begin_68 rfl
-- Teller.refuse (I)V
def mt_Teller_refuse : Mt := ("ShakeHands$Teller", b_Teller_refuse, 2, none, 2, SHx)
theorem d_Teller_refuse_0 : decode b_Teller_refuse 0 = .ok (.aload_n 0, 1) := by decide +kernel
theorem d_Teller_refuse_1 : decode b_Teller_refuse 1 = .ok (.getfield 45, 3) := by decide +kernel
theorem d_Teller_refuse_4 : decode b_Teller_refuse 4 = .ok (.ifCond .ne 8, 3) := by decide +kernel
theorem d_Teller_refuse_7 : decode b_Teller_refuse 7 = .ok (.aload_n 0, 1) := by decide +kernel
theorem d_Teller_refuse_8 : decode b_Teller_refuse 8 = .ok (.iload_n 1, 1) := by decide +kernel
theorem d_Teller_refuse_9 : decode b_Teller_refuse 9 = .ok (.putfield 45, 3) := by decide +kernel
theorem d_Teller_refuse_12 : decode b_Teller_refuse 12 = .ok (.return_, 1) := by decide +kernel
def X_Teller_refuse (n : Nat) (p1 : Int32) (M : Mem) : Option (Unit × Mem) :=
  (if (M.1 3 3) = 0 then
    some ((), si M 3 3 p1)
    else
    some ((), M))
set_option maxRecDepth 20000 in
set_option maxHeartbeats 4000000 in
theorem C_Teller_refuse (n : Nat)   (p1 : Int32) (M : Mem) : Ct y_Teller_refuse mt_Teller_refuse wU [Value.ref 3, Value.int p1] M (X_Teller_refuse n p1 M) := by
  refine ct_of (by decide +kernel) rfl (Nat.le_of_ble_eq_true rfl) ?_
  show J _ _ _ [(0, Value.ref 3), (1, Value.int p1)] _ _ _
  unfold X_Teller_refuse
  refine j_aload_n (pc := 0) (q := 0) d_Teller_refuse_0 rfl rfl ?_
  refine j_getI (pc := 1) d_Teller_refuse_1 fl_Teller_45 sx_3 (by decide) rfl ?_
  refine j_if_ne (pc := 4) (tgt := 12) d_Teller_refuse_4 (by decide) (fun _ => ?_) (fun _ => ?_)
  · exact j_return (pc := 12) d_Teller_refuse_12 rfl
  · refine j_aload_n (pc := 7) (q := 0) d_Teller_refuse_7 rfl rfl ?_
    refine j_iload_n (pc := 8) (q := 1) d_Teller_refuse_8 rfl rfl ?_
    refine j_putI (pc := 9) d_Teller_refuse_9 fl_Teller_45 rfl sx_3 (by decide) rfl ?_
    exact j_return (pc := 12) d_Teller_refuse_12 rfl
-- Teller.lookBack ()V
def mt_Teller_lookBack : Mt := ("ShakeHands$Teller", b_Teller_lookBack, 1, none, 3, SHx)
theorem d_Teller_lookBack_0 : decode b_Teller_lookBack 0 = .ok (.aload_n 0, 1) := by decide +kernel
theorem d_Teller_lookBack_1 : decode b_Teller_lookBack 1 = .ok (.getfield 79, 3) := by decide +kernel
theorem d_Teller_lookBack_4 : decode b_Teller_lookBack 4 = .ok (.aload_n 0, 1) := by decide +kernel
theorem d_Teller_lookBack_5 : decode b_Teller_lookBack 5 = .ok (.getfield 12, 3) := by decide +kernel
theorem d_Teller_lookBack_8 : decode b_Teller_lookBack 8 = .ok (.getfield 85, 3) := by decide +kernel
theorem d_Teller_lookBack_11 : decode b_Teller_lookBack 11 = .ok (.if_icmp .lt 9, 3) := by decide +kernel
theorem d_Teller_lookBack_14 : decode b_Teller_lookBack 14 = .ok (.aload_n 0, 1) := by decide +kernel
theorem d_Teller_lookBack_15 : decode b_Teller_lookBack 15 = .ok (.bipush 6, 2) := by decide +kernel
theorem d_Teller_lookBack_17 : decode b_Teller_lookBack 17 = .ok (.invokevirtual 88, 3) := by decide +kernel
theorem d_Teller_lookBack_20 : decode b_Teller_lookBack 20 = .ok (.aload_n 0, 1) := by decide +kernel
theorem d_Teller_lookBack_21 : decode b_Teller_lookBack 21 = .ok (.getfield 82, 3) := by decide +kernel
theorem d_Teller_lookBack_24 : decode b_Teller_lookBack 24 = .ok (.aload_n 0, 1) := by decide +kernel
theorem d_Teller_lookBack_25 : decode b_Teller_lookBack 25 = .ok (.getfield 12, 3) := by decide +kernel
theorem d_Teller_lookBack_28 : decode b_Teller_lookBack 28 = .ok (.getfield 92, 3) := by decide +kernel
theorem d_Teller_lookBack_31 : decode b_Teller_lookBack 31 = .ok (.if_icmp .le 9, 3) := by decide +kernel
theorem d_Teller_lookBack_34 : decode b_Teller_lookBack 34 = .ok (.aload_n 0, 1) := by decide +kernel
theorem d_Teller_lookBack_35 : decode b_Teller_lookBack 35 = .ok (.bipush 7, 2) := by decide +kernel
theorem d_Teller_lookBack_37 : decode b_Teller_lookBack 37 = .ok (.invokevirtual 88, 3) := by decide +kernel
theorem d_Teller_lookBack_40 : decode b_Teller_lookBack 40 = .ok (.return_, 1) := by decide +kernel
def X_Teller_lookBack (n : Nat) (M : Mem) : Option (Unit × Mem) :=
  nm (fun (M1 : Mem) => (if (M1.1 3 14) ≤ (M1.1 4 1) then
      some ((), M1)
      else
      bd (X_Teller_refuse n 7 M1) fun _ M3 =>
      some ((), M3))) fun k20 =>
  (if (M.1 3 13) < (M.1 4 0) then
    k20 M
    else
    bd (X_Teller_refuse n 6 M) fun _ M5 =>
    k20 M5)
set_option maxRecDepth 20000 in
set_option maxHeartbeats 4000000 in
theorem C_Teller_lookBack (n : Nat)    (M : Mem) : Ct y_Teller_lookBack mt_Teller_lookBack wU [Value.ref 3] M (X_Teller_lookBack n M) := by
  refine ct_of (by decide +kernel) rfl (Nat.le_of_ble_eq_true rfl) ?_
  show J _ _ _ [(0, Value.ref 3)] _ _ _
  unfold X_Teller_lookBack
  refine j_aload_n (pc := 0) (q := 0) d_Teller_lookBack_0 rfl rfl ?_
  refine j_getI (pc := 1) d_Teller_lookBack_1 fl_Teller_79 sx_3 (by decide) rfl ?_
  refine j_aload_n (pc := 4) (q := 0) d_Teller_lookBack_4 rfl rfl ?_
  refine j_getA (pc := 5) d_Teller_lookBack_5 fl_Teller_12 sx_3 (by decide) rfl ?_
  refine j_getI (pc := 8) d_Teller_lookBack_8 fl_Teller_85 sx_4 (by decide) rfl ?_
  refine j_nmk (fun k => ∀ (M1 : Mem), J (mt_Teller_lookBack) wU 20 [(0, Value.ref 3)] [] M1 (k M1)) (fun M1 => ?_) (fun k20 hk20 => ?_)
  · refine j_aload_n (pc := 20) (q := 0) d_Teller_lookBack_20 rfl rfl ?_
    refine j_getI (pc := 21) d_Teller_lookBack_21 fl_Teller_82 sx_3 (by decide) rfl ?_
    refine j_aload_n (pc := 24) (q := 0) d_Teller_lookBack_24 rfl rfl ?_
    refine j_getA (pc := 25) d_Teller_lookBack_25 fl_Teller_12 sx_3 (by decide) rfl ?_
    refine j_getI (pc := 28) d_Teller_lookBack_28 fl_Teller_92 sx_4 (by decide) rfl ?_
    refine j_icmp_le (pc := 31) (tgt := 40) d_Teller_lookBack_31 (by decide) (fun _ => ?_) (fun _ => ?_)
    · exact j_return (pc := 40) d_Teller_lookBack_40 rfl
    · refine j_aload_n (pc := 34) (q := 0) d_Teller_lookBack_34 rfl rfl ?_
      refine j_bipush (pc := 35) d_Teller_lookBack_35 k_b_7 ?_
      refine j_callV1 (pc := 37) d_Teller_lookBack_37 (C_Teller_refuse n 7 M1) cV_Teller_88 cd_Teller_refuse dn_Teller_refuse rfl (by decide) (Nat.le_of_ble_eq_true rfl) (Nat.le_of_ble_eq_true rfl) nr_U sx_3 (by decide) rfl (fun r2 M3 => ?_)
      exact j_return (pc := 40) d_Teller_lookBack_40 rfl
  · refine j_icmp_lt (pc := 11) (tgt := 20) d_Teller_lookBack_11 (by decide) (fun _ => ?_) (fun _ => ?_)
    · exact hk20 M
    · refine j_aload_n (pc := 14) (q := 0) d_Teller_lookBack_14 rfl rfl ?_
      refine j_bipush (pc := 15) d_Teller_lookBack_15 k_b_6 ?_
      refine j_callV1 (pc := 17) d_Teller_lookBack_17 (C_Teller_refuse n 6 M) cV_Teller_88 cd_Teller_refuse dn_Teller_refuse rfl (by decide) (Nat.le_of_ble_eq_true rfl) (Nat.le_of_ble_eq_true rfl) nr_U sx_3 (by decide) rfl (fun r4 M5 => ?_)
      exact hk20 M5
-- Teller.isWithin (CC)Z
def mt_Teller_isWithin : Mt := ("ShakeHands$Teller", b_Teller_isWithin, 3, some .boolean, 2, SHx)
theorem d_Teller_isWithin_0 : decode b_Teller_isWithin 0 = .ok (.aload_n 0, 1) := by decide +kernel
theorem d_Teller_isWithin_1 : decode b_Teller_isWithin 1 = .ok (.getfield 66, 3) := by decide +kernel
theorem d_Teller_isWithin_4 : decode b_Teller_isWithin 4 = .ok (.aload_n 0, 1) := by decide +kernel
theorem d_Teller_isWithin_5 : decode b_Teller_isWithin 5 = .ok (.getfield 29, 3) := by decide +kernel
theorem d_Teller_isWithin_8 : decode b_Teller_isWithin 8 = .ok (.getfield 36, 3) := by decide +kernel
theorem d_Teller_isWithin_11 : decode b_Teller_isWithin 11 = .ok (.if_icmp .ge 39, 3) := by decide +kernel
theorem d_Teller_isWithin_14 : decode b_Teller_isWithin 14 = .ok (.aload_n 0, 1) := by decide +kernel
theorem d_Teller_isWithin_15 : decode b_Teller_isWithin 15 = .ok (.getfield 29, 3) := by decide +kernel
theorem d_Teller_isWithin_18 : decode b_Teller_isWithin 18 = .ok (.getfield 95, 3) := by decide +kernel
theorem d_Teller_isWithin_21 : decode b_Teller_isWithin 21 = .ok (.aload_n 0, 1) := by decide +kernel
theorem d_Teller_isWithin_22 : decode b_Teller_isWithin 22 = .ok (.getfield 66, 3) := by decide +kernel
theorem d_Teller_isWithin_25 : decode b_Teller_isWithin 25 = .ok (.baload, 1) := by decide +kernel
theorem d_Teller_isWithin_26 : decode b_Teller_isWithin 26 = .ok (.iload_n 1, 1) := by decide +kernel
theorem d_Teller_isWithin_27 : decode b_Teller_isWithin 27 = .ok (.if_icmp .lt 23, 3) := by decide +kernel
theorem d_Teller_isWithin_30 : decode b_Teller_isWithin 30 = .ok (.aload_n 0, 1) := by decide +kernel
theorem d_Teller_isWithin_31 : decode b_Teller_isWithin 31 = .ok (.getfield 29, 3) := by decide +kernel
theorem d_Teller_isWithin_34 : decode b_Teller_isWithin 34 = .ok (.getfield 95, 3) := by decide +kernel
theorem d_Teller_isWithin_37 : decode b_Teller_isWithin 37 = .ok (.aload_n 0, 1) := by decide +kernel
theorem d_Teller_isWithin_38 : decode b_Teller_isWithin 38 = .ok (.getfield 66, 3) := by decide +kernel
theorem d_Teller_isWithin_41 : decode b_Teller_isWithin 41 = .ok (.baload, 1) := by decide +kernel
theorem d_Teller_isWithin_42 : decode b_Teller_isWithin 42 = .ok (.iload_n 2, 1) := by decide +kernel
theorem d_Teller_isWithin_43 : decode b_Teller_isWithin 43 = .ok (.if_icmp .gt 7, 3) := by decide +kernel
theorem d_Teller_isWithin_46 : decode b_Teller_isWithin 46 = .ok (.iconst 1, 1) := by decide +kernel
theorem d_Teller_isWithin_47 : decode b_Teller_isWithin 47 = .ok (.goto 4, 3) := by decide +kernel
theorem d_Teller_isWithin_50 : decode b_Teller_isWithin 50 = .ok (.iconst 0, 1) := by decide +kernel
theorem d_Teller_isWithin_51 : decode b_Teller_isWithin 51 = .ok (.ireturn, 1) := by decide +kernel
def X_Teller_isWithin (n : Nat) (p1 : Int32) (p2 : Int32) (M : Mem) : Option (Int32 × Mem) :=
  (if (M.1 1 1) ≤ (M.1 3 6) then
    some (0, M)
    else
    gd (M.1 3 6) 320 (
      (if (M.1 2 (M.1 3 6).toNatClampNeg) < p1 then
        some (0, M)
        else
        gd (M.1 3 6) 320 (
          (if p2 < (M.1 2 (M.1 3 6).toNatClampNeg) then
            some (0, M)
            else
            some (1, M))))))
set_option maxRecDepth 20000 in
set_option maxHeartbeats 4000000 in
theorem C_Teller_isWithin (n : Nat)   (p1 : Int32) (p2 : Int32) (M : Mem) : Ct y_Teller_isWithin mt_Teller_isWithin wI [Value.ref 3, Value.int p1, Value.int p2] M (X_Teller_isWithin n p1 p2 M) := by
  refine ct_of (by decide +kernel) rfl (Nat.le_of_ble_eq_true rfl) ?_
  show J _ _ _ [(0, Value.ref 3), (1, Value.int p1), (2, Value.int p2)] _ _ _
  unfold X_Teller_isWithin
  refine j_aload_n (pc := 0) (q := 0) d_Teller_isWithin_0 rfl rfl ?_
  refine j_getI (pc := 1) d_Teller_isWithin_1 fl_Teller_66 sx_3 (by decide) rfl ?_
  refine j_aload_n (pc := 4) (q := 0) d_Teller_isWithin_4 rfl rfl ?_
  refine j_getA (pc := 5) d_Teller_isWithin_5 fl_Teller_29 sx_3 (by decide) rfl ?_
  refine j_getI (pc := 8) d_Teller_isWithin_8 fl_Teller_36 sx_1 (by decide) rfl ?_
  refine j_icmp_ge (pc := 11) (tgt := 50) d_Teller_isWithin_11 (by decide) (fun _ => ?_) (fun _ => ?_)
  · refine j_iconst (pc := 50) d_Teller_isWithin_50 k_i_0 ?_
    exact j_zreturn (pc := 51) d_Teller_isWithin_51 rfl rfl
  · refine j_aload_n (pc := 14) (q := 0) d_Teller_isWithin_14 rfl rfl ?_
    refine j_getA (pc := 15) d_Teller_isWithin_15 fl_Teller_29 sx_3 (by decide) rfl ?_
    refine j_getA (pc := 18) d_Teller_isWithin_18 fl_Teller_95 sx_1 (by decide) rfl ?_
    refine j_aload_n (pc := 21) (q := 0) d_Teller_isWithin_21 rfl rfl ?_
    refine j_getI (pc := 22) d_Teller_isWithin_22 fl_Teller_66 sx_3 (by decide) rfl ?_
    refine j_bald (pc := 25) d_Teller_isWithin_25 sx_2 (fun _ => ?_)
    refine j_iload_n (pc := 26) (q := 1) d_Teller_isWithin_26 rfl rfl ?_
    refine j_icmp_lt (pc := 27) (tgt := 50) d_Teller_isWithin_27 (by decide) (fun _ => ?_) (fun _ => ?_)
    · refine j_iconst (pc := 50) d_Teller_isWithin_50 k_i_0 ?_
      exact j_zreturn (pc := 51) d_Teller_isWithin_51 rfl rfl
    · refine j_aload_n (pc := 30) (q := 0) d_Teller_isWithin_30 rfl rfl ?_
      refine j_getA (pc := 31) d_Teller_isWithin_31 fl_Teller_29 sx_3 (by decide) rfl ?_
      refine j_getA (pc := 34) d_Teller_isWithin_34 fl_Teller_95 sx_1 (by decide) rfl ?_
      refine j_aload_n (pc := 37) (q := 0) d_Teller_isWithin_37 rfl rfl ?_
      refine j_getI (pc := 38) d_Teller_isWithin_38 fl_Teller_66 sx_3 (by decide) rfl ?_
      refine j_bald (pc := 41) d_Teller_isWithin_41 sx_2 (fun _ => ?_)
      refine j_iload_n (pc := 42) (q := 2) d_Teller_isWithin_42 rfl rfl ?_
      refine j_icmp_gt (pc := 43) (tgt := 50) d_Teller_isWithin_43 (by decide) (fun _ => ?_) (fun _ => ?_)
      · refine j_iconst (pc := 50) d_Teller_isWithin_50 k_i_0 ?_
        exact j_zreturn (pc := 51) d_Teller_isWithin_51 rfl rfl
      · refine j_iconst (pc := 46) d_Teller_isWithin_46 k_i_1 ?_
        refine j_goto (pc := 47) (tgt := 51) d_Teller_isWithin_47 (by decide) ?_
        exact j_zreturn (pc := 51) d_Teller_isWithin_51 rfl rfl
-- Teller.readToken ()V
def mt_Teller_readToken : Mt := ("ShakeHands$Teller", b_Teller_readToken, 1, none, 3, SHx)
theorem d_Teller_readToken_0 : decode b_Teller_readToken 0 = .ok (.aload_n 0, 1) := by decide +kernel
theorem d_Teller_readToken_1 : decode b_Teller_readToken 1 = .ok (.getfield 45, 3) := by decide +kernel
theorem d_Teller_readToken_4 : decode b_Teller_readToken 4 = .ok (.ifCond .eq 4, 3) := by decide +kernel
theorem d_Teller_readToken_7 : decode b_Teller_readToken 7 = .ok (.return_, 1) := by decide +kernel
theorem d_Teller_readToken_8 : decode b_Teller_readToken 8 = .ok (.aload_n 0, 1) := by decide +kernel
theorem d_Teller_readToken_9 : decode b_Teller_readToken 9 = .ok (.getfield 66, 3) := by decide +kernel
theorem d_Teller_readToken_12 : decode b_Teller_readToken 12 = .ok (.aload_n 0, 1) := by decide +kernel
theorem d_Teller_readToken_13 : decode b_Teller_readToken 13 = .ok (.getfield 29, 3) := by decide +kernel
theorem d_Teller_readToken_16 : decode b_Teller_readToken 16 = .ok (.getfield 36, 3) := by decide +kernel
theorem d_Teller_readToken_19 : decode b_Teller_readToken 19 = .ok (.if_icmp .ge 33, 3) := by decide +kernel
theorem d_Teller_readToken_22 : decode b_Teller_readToken 22 = .ok (.aload_n 0, 1) := by decide +kernel
theorem d_Teller_readToken_23 : decode b_Teller_readToken 23 = .ok (.getfield 29, 3) := by decide +kernel
theorem d_Teller_readToken_26 : decode b_Teller_readToken 26 = .ok (.getfield 95, 3) := by decide +kernel
theorem d_Teller_readToken_29 : decode b_Teller_readToken 29 = .ok (.aload_n 0, 1) := by decide +kernel
theorem d_Teller_readToken_30 : decode b_Teller_readToken 30 = .ok (.getfield 66, 3) := by decide +kernel
theorem d_Teller_readToken_33 : decode b_Teller_readToken 33 = .ok (.baload, 1) := by decide +kernel
theorem d_Teller_readToken_34 : decode b_Teller_readToken 34 = .ok (.bipush 32, 2) := by decide +kernel
theorem d_Teller_readToken_36 : decode b_Teller_readToken 36 = .ok (.if_icmp .ne 16, 3) := by decide +kernel
theorem d_Teller_readToken_39 : decode b_Teller_readToken 39 = .ok (.aload_n 0, 1) := by decide +kernel
theorem d_Teller_readToken_40 : decode b_Teller_readToken 40 = .ok (.dup, 1) := by decide +kernel
theorem d_Teller_readToken_41 : decode b_Teller_readToken 41 = .ok (.getfield 66, 3) := by decide +kernel
theorem d_Teller_readToken_44 : decode b_Teller_readToken 44 = .ok (.iconst 1, 1) := by decide +kernel
theorem d_Teller_readToken_45 : decode b_Teller_readToken 45 = .ok (.iadd, 1) := by decide +kernel
theorem d_Teller_readToken_46 : decode b_Teller_readToken 46 = .ok (.putfield 66, 3) := by decide +kernel
theorem d_Teller_readToken_49 : decode b_Teller_readToken 49 = .ok (.goto (-41), 3) := by decide +kernel
theorem d_Teller_readToken_52 : decode b_Teller_readToken 52 = .ok (.aload_n 0, 1) := by decide +kernel
theorem d_Teller_readToken_53 : decode b_Teller_readToken 53 = .ok (.aload_n 0, 1) := by decide +kernel
theorem d_Teller_readToken_54 : decode b_Teller_readToken 54 = .ok (.getfield 66, 3) := by decide +kernel
theorem d_Teller_readToken_57 : decode b_Teller_readToken 57 = .ok (.putfield 57, 3) := by decide +kernel
theorem d_Teller_readToken_60 : decode b_Teller_readToken 60 = .ok (.aload_n 0, 1) := by decide +kernel
theorem d_Teller_readToken_61 : decode b_Teller_readToken 61 = .ok (.getfield 66, 3) := by decide +kernel
theorem d_Teller_readToken_64 : decode b_Teller_readToken 64 = .ok (.aload_n 0, 1) := by decide +kernel
theorem d_Teller_readToken_65 : decode b_Teller_readToken 65 = .ok (.getfield 29, 3) := by decide +kernel
theorem d_Teller_readToken_68 : decode b_Teller_readToken 68 = .ok (.getfield 36, 3) := by decide +kernel
theorem d_Teller_readToken_71 : decode b_Teller_readToken 71 = .ok (.if_icmp .lt 11, 3) := by decide +kernel
theorem d_Teller_readToken_74 : decode b_Teller_readToken 74 = .ok (.aload_n 0, 1) := by decide +kernel
theorem d_Teller_readToken_75 : decode b_Teller_readToken 75 = .ok (.iconst 0, 1) := by decide +kernel
theorem d_Teller_readToken_76 : decode b_Teller_readToken 76 = .ok (.putfield 48, 3) := by decide +kernel
theorem d_Teller_readToken_79 : decode b_Teller_readToken 79 = .ok (.goto 198, 3) := by decide +kernel
theorem d_Teller_readToken_82 : decode b_Teller_readToken 82 = .ok (.aload_n 0, 1) := by decide +kernel
theorem d_Teller_readToken_83 : decode b_Teller_readToken 83 = .ok (.bipush 97, 2) := by decide +kernel
theorem d_Teller_readToken_85 : decode b_Teller_readToken 85 = .ok (.bipush 122, 2) := by decide +kernel
theorem d_Teller_readToken_87 : decode b_Teller_readToken 87 = .ok (.invokevirtual 99, 3) := by decide +kernel
theorem d_Teller_readToken_90 : decode b_Teller_readToken 90 = .ok (.ifCond .eq 46, 3) := by decide +kernel
theorem d_Teller_readToken_93 : decode b_Teller_readToken 93 = .ok (.aload_n 0, 1) := by decide +kernel
theorem d_Teller_readToken_94 : decode b_Teller_readToken 94 = .ok (.iconst 1, 1) := by decide +kernel
theorem d_Teller_readToken_95 : decode b_Teller_readToken 95 = .ok (.putfield 48, 3) := by decide +kernel
theorem d_Teller_readToken_98 : decode b_Teller_readToken 98 = .ok (.aload_n 0, 1) := by decide +kernel
theorem d_Teller_readToken_99 : decode b_Teller_readToken 99 = .ok (.getfield 66, 3) := by decide +kernel
theorem d_Teller_readToken_102 : decode b_Teller_readToken 102 = .ok (.aload_n 0, 1) := by decide +kernel
theorem d_Teller_readToken_103 : decode b_Teller_readToken 103 = .ok (.getfield 29, 3) := by decide +kernel
theorem d_Teller_readToken_106 : decode b_Teller_readToken 106 = .ok (.getfield 36, 3) := by decide +kernel
theorem d_Teller_readToken_109 : decode b_Teller_readToken 109 = .ok (.if_icmp .ge 168, 3) := by decide +kernel
theorem d_Teller_readToken_112 : decode b_Teller_readToken 112 = .ok (.aload_n 0, 1) := by decide +kernel
theorem d_Teller_readToken_113 : decode b_Teller_readToken 113 = .ok (.bipush 97, 2) := by decide +kernel
theorem d_Teller_readToken_115 : decode b_Teller_readToken 115 = .ok (.bipush 122, 2) := by decide +kernel
theorem d_Teller_readToken_117 : decode b_Teller_readToken 117 = .ok (.invokevirtual 99, 3) := by decide +kernel
theorem d_Teller_readToken_120 : decode b_Teller_readToken 120 = .ok (.ifCond .eq 157, 3) := by decide +kernel
theorem d_Teller_readToken_123 : decode b_Teller_readToken 123 = .ok (.aload_n 0, 1) := by decide +kernel
theorem d_Teller_readToken_124 : decode b_Teller_readToken 124 = .ok (.dup, 1) := by decide +kernel
theorem d_Teller_readToken_125 : decode b_Teller_readToken 125 = .ok (.getfield 66, 3) := by decide +kernel
theorem d_Teller_readToken_128 : decode b_Teller_readToken 128 = .ok (.iconst 1, 1) := by decide +kernel
theorem d_Teller_readToken_129 : decode b_Teller_readToken 129 = .ok (.iadd, 1) := by decide +kernel
theorem d_Teller_readToken_130 : decode b_Teller_readToken 130 = .ok (.putfield 66, 3) := by decide +kernel
theorem d_Teller_readToken_133 : decode b_Teller_readToken 133 = .ok (.goto (-35), 3) := by decide +kernel
theorem d_Teller_readToken_136 : decode b_Teller_readToken 136 = .ok (.aload_n 0, 1) := by decide +kernel
theorem d_Teller_readToken_137 : decode b_Teller_readToken 137 = .ok (.bipush 48, 2) := by decide +kernel
theorem d_Teller_readToken_139 : decode b_Teller_readToken 139 = .ok (.bipush 57, 2) := by decide +kernel
theorem d_Teller_readToken_141 : decode b_Teller_readToken 141 = .ok (.invokevirtual 99, 3) := by decide +kernel
theorem d_Teller_readToken_144 : decode b_Teller_readToken 144 = .ok (.ifCond .eq 99, 3) := by decide +kernel
theorem d_Teller_readToken_147 : decode b_Teller_readToken 147 = .ok (.aload_n 0, 1) := by decide +kernel
theorem d_Teller_readToken_148 : decode b_Teller_readToken 148 = .ok (.iconst 2, 1) := by decide +kernel
theorem d_Teller_readToken_149 : decode b_Teller_readToken 149 = .ok (.putfield 48, 3) := by decide +kernel
theorem d_Teller_readToken_152 : decode b_Teller_readToken 152 = .ok (.aload_n 0, 1) := by decide +kernel
theorem d_Teller_readToken_153 : decode b_Teller_readToken 153 = .ok (.iconst 0, 1) := by decide +kernel
theorem d_Teller_readToken_154 : decode b_Teller_readToken 154 = .ok (.putfield 103, 3) := by decide +kernel
theorem d_Teller_readToken_157 : decode b_Teller_readToken 157 = .ok (.aload_n 0, 1) := by decide +kernel
theorem d_Teller_readToken_158 : decode b_Teller_readToken 158 = .ok (.getfield 66, 3) := by decide +kernel
theorem d_Teller_readToken_161 : decode b_Teller_readToken 161 = .ok (.aload_n 0, 1) := by decide +kernel
theorem d_Teller_readToken_162 : decode b_Teller_readToken 162 = .ok (.getfield 29, 3) := by decide +kernel
theorem d_Teller_readToken_165 : decode b_Teller_readToken 165 = .ok (.getfield 36, 3) := by decide +kernel
theorem d_Teller_readToken_168 : decode b_Teller_readToken 168 = .ok (.if_icmp .ge 54, 3) := by decide +kernel
theorem d_Teller_readToken_171 : decode b_Teller_readToken 171 = .ok (.aload_n 0, 1) := by decide +kernel
theorem d_Teller_readToken_172 : decode b_Teller_readToken 172 = .ok (.bipush 48, 2) := by decide +kernel
theorem d_Teller_readToken_174 : decode b_Teller_readToken 174 = .ok (.bipush 57, 2) := by decide +kernel
theorem d_Teller_readToken_176 : decode b_Teller_readToken 176 = .ok (.invokevirtual 99, 3) := by decide +kernel
theorem d_Teller_readToken_179 : decode b_Teller_readToken 179 = .ok (.ifCond .eq 43, 3) := by decide +kernel
theorem d_Teller_readToken_182 : decode b_Teller_readToken 182 = .ok (.aload_n 0, 1) := by decide +kernel
theorem d_Teller_readToken_183 : decode b_Teller_readToken 183 = .ok (.bipush 10, 2) := by decide +kernel
theorem d_Teller_readToken_185 : decode b_Teller_readToken 185 = .ok (.aload_n 0, 1) := by decide +kernel
theorem d_Teller_readToken_186 : decode b_Teller_readToken 186 = .ok (.getfield 103, 3) := by decide +kernel
theorem d_Teller_readToken_189 : decode b_Teller_readToken 189 = .ok (.imul, 1) := by decide +kernel
theorem d_Teller_readToken_190 : decode b_Teller_readToken 190 = .ok (.aload_n 0, 1) := by decide +kernel
theorem d_Teller_readToken_191 : decode b_Teller_readToken 191 = .ok (.getfield 29, 3) := by decide +kernel
theorem d_Teller_readToken_194 : decode b_Teller_readToken 194 = .ok (.getfield 95, 3) := by decide +kernel
theorem d_Teller_readToken_197 : decode b_Teller_readToken 197 = .ok (.aload_n 0, 1) := by decide +kernel
theorem d_Teller_readToken_198 : decode b_Teller_readToken 198 = .ok (.getfield 66, 3) := by decide +kernel
theorem d_Teller_readToken_201 : decode b_Teller_readToken 201 = .ok (.baload, 1) := by decide +kernel
theorem d_Teller_readToken_202 : decode b_Teller_readToken 202 = .ok (.iadd, 1) := by decide +kernel
theorem d_Teller_readToken_203 : decode b_Teller_readToken 203 = .ok (.bipush 48, 2) := by decide +kernel
theorem d_Teller_readToken_205 : decode b_Teller_readToken 205 = .ok (.isub, 1) := by decide +kernel
theorem d_Teller_readToken_206 : decode b_Teller_readToken 206 = .ok (.putfield 103, 3) := by decide +kernel
theorem d_Teller_readToken_209 : decode b_Teller_readToken 209 = .ok (.aload_n 0, 1) := by decide +kernel
theorem d_Teller_readToken_210 : decode b_Teller_readToken 210 = .ok (.dup, 1) := by decide +kernel
theorem d_Teller_readToken_211 : decode b_Teller_readToken 211 = .ok (.getfield 66, 3) := by decide +kernel
theorem d_Teller_readToken_214 : decode b_Teller_readToken 214 = .ok (.iconst 1, 1) := by decide +kernel
theorem d_Teller_readToken_215 : decode b_Teller_readToken 215 = .ok (.iadd, 1) := by decide +kernel
theorem d_Teller_readToken_216 : decode b_Teller_readToken 216 = .ok (.putfield 66, 3) := by decide +kernel
theorem d_Teller_readToken_219 : decode b_Teller_readToken 219 = .ok (.goto (-62), 3) := by decide +kernel
theorem d_Teller_readToken_222 : decode b_Teller_readToken 222 = .ok (.aload_n 0, 1) := by decide +kernel
theorem d_Teller_readToken_223 : decode b_Teller_readToken 223 = .ok (.getfield 66, 3) := by decide +kernel
theorem d_Teller_readToken_226 : decode b_Teller_readToken 226 = .ok (.aload_n 0, 1) := by decide +kernel
theorem d_Teller_readToken_227 : decode b_Teller_readToken 227 = .ok (.getfield 57, 3) := by decide +kernel
theorem d_Teller_readToken_230 : decode b_Teller_readToken 230 = .ok (.isub, 1) := by decide +kernel
theorem d_Teller_readToken_231 : decode b_Teller_readToken 231 = .ok (.iconst 2, 1) := by decide +kernel
theorem d_Teller_readToken_232 : decode b_Teller_readToken 232 = .ok (.if_icmp .le 45, 3) := by decide +kernel
theorem d_Teller_readToken_235 : decode b_Teller_readToken 235 = .ok (.aload_n 0, 1) := by decide +kernel
theorem d_Teller_readToken_236 : decode b_Teller_readToken 236 = .ok (.iconst 1, 1) := by decide +kernel
theorem d_Teller_readToken_237 : decode b_Teller_readToken 237 = .ok (.invokevirtual 88, 3) := by decide +kernel
theorem d_Teller_readToken_240 : decode b_Teller_readToken 240 = .ok (.goto 37, 3) := by decide +kernel
theorem d_Teller_readToken_243 : decode b_Teller_readToken 243 = .ok (.aload_n 0, 1) := by decide +kernel
theorem d_Teller_readToken_244 : decode b_Teller_readToken 244 = .ok (.bipush 59, 2) := by decide +kernel
theorem d_Teller_readToken_246 : decode b_Teller_readToken 246 = .ok (.bipush 59, 2) := by decide +kernel
theorem d_Teller_readToken_248 : decode b_Teller_readToken 248 = .ok (.invokevirtual 99, 3) := by decide +kernel
theorem d_Teller_readToken_251 : decode b_Teller_readToken 251 = .ok (.ifCond .eq 21, 3) := by decide +kernel
theorem d_Teller_readToken_254 : decode b_Teller_readToken 254 = .ok (.aload_n 0, 1) := by decide +kernel
theorem d_Teller_readToken_255 : decode b_Teller_readToken 255 = .ok (.iconst 3, 1) := by decide +kernel
theorem d_Teller_readToken_256 : decode b_Teller_readToken 256 = .ok (.putfield 48, 3) := by decide +kernel
theorem d_Teller_readToken_259 : decode b_Teller_readToken 259 = .ok (.aload_n 0, 1) := by decide +kernel
theorem d_Teller_readToken_260 : decode b_Teller_readToken 260 = .ok (.dup, 1) := by decide +kernel
theorem d_Teller_readToken_261 : decode b_Teller_readToken 261 = .ok (.getfield 66, 3) := by decide +kernel
theorem d_Teller_readToken_264 : decode b_Teller_readToken 264 = .ok (.iconst 1, 1) := by decide +kernel
theorem d_Teller_readToken_265 : decode b_Teller_readToken 265 = .ok (.iadd, 1) := by decide +kernel
theorem d_Teller_readToken_266 : decode b_Teller_readToken 266 = .ok (.putfield 66, 3) := by decide +kernel
theorem d_Teller_readToken_269 : decode b_Teller_readToken 269 = .ok (.goto 8, 3) := by decide +kernel
theorem d_Teller_readToken_272 : decode b_Teller_readToken 272 = .ok (.aload_n 0, 1) := by decide +kernel
theorem d_Teller_readToken_273 : decode b_Teller_readToken 273 = .ok (.iconst 1, 1) := by decide +kernel
theorem d_Teller_readToken_274 : decode b_Teller_readToken 274 = .ok (.invokevirtual 88, 3) := by decide +kernel
theorem d_Teller_readToken_277 : decode b_Teller_readToken 277 = .ok (.return_, 1) := by decide +kernel
def X_Teller_readToken_L8 (n : Nat) (kx52 : Mem → Option (Unit × Mem)) : Nat → Mem → Option (Unit × Mem)
    | 0, _ => none
    | m + 1, M => (if (M.1 1 1) ≤ (M.1 3 6) then
    kx52 M
    else
    gd (M.1 3 6) 320 (
      (if (M.1 2 (M.1 3 6).toNatClampNeg) = 32 then
        X_Teller_readToken_L8 n kx52 m (si M 3 6 ((M.1 3 6) + 1))
        else
        kx52 M)))
def X_Teller_readToken_L157 (n : Nat) (kx222 : Mem → Option (Unit × Mem)) : Nat → Mem → Option (Unit × Mem)
    | 0, _ => none
    | m + 1, M => (if (M.1 1 1) ≤ (M.1 3 6) then
    kx222 M
    else
    bd (X_Teller_isWithin n 48 57 M) fun r12 M13 =>
    (if r12 = 0 then
      kx222 M13
      else
      gd (M13.1 3 6) 320 (
        nm (si M13 3 9 (((10 * (M13.1 3 9)) + (M13.1 2 (M13.1 3 6).toNatClampNeg)) - 48)) fun N14 =>
        X_Teller_readToken_L157 n kx222 m (si N14 3 6 ((N14.1 3 6) + 1)))))
def X_Teller_readToken_L98 (n : Nat) : Nat → Mem → Option (Unit × Mem)
    | 0, _ => none
    | m + 1, M => (if (M.1 1 1) ≤ (M.1 3 6) then
    some ((), M)
    else
    bd (X_Teller_isWithin n 97 122 M) fun r18 M19 =>
    (if r18 = 0 then
      some ((), M19)
      else
      X_Teller_readToken_L98 n m (si M19 3 6 ((M19.1 3 6) + 1))))
def X_Teller_readToken (n : Nat) (M : Mem) : Option (Unit × Mem) :=
  (if (M.1 3 3) = 0 then
    X_Teller_readToken_L8 n (fun M1 => nm (si M1 3 8 (M1.1 3 6)) fun N2 =>
      (if (N2.1 3 6) < (N2.1 1 1) then
        bd (X_Teller_isWithin n 97 122 N2) fun r3 M4 =>
        (if r3 = 0 then
          bd (X_Teller_isWithin n 48 57 M4) fun r5 M6 =>
          (if r5 = 0 then
            bd (X_Teller_isWithin n 59 59 M6) fun r7 M8 =>
            (if r7 = 0 then
              bd (X_Teller_refuse n 1 M8) fun _ M10 =>
              some ((), M10)
              else
              nm (si M8 3 7 3) fun N11 =>
              some ((), si N11 3 6 ((N11.1 3 6) + 1)))
            else
            X_Teller_readToken_L157 n (fun M15 => (if ((M15.1 3 6) - (M15.1 3 8)) ≤ 2 then
                some ((), M15)
                else
                bd (X_Teller_refuse n 1 M15) fun _ M17 =>
                some ((), M17))) n (si (si M6 3 7 2) 3 9 0))
          else
          X_Teller_readToken_L98 n n (si M4 3 7 1))
        else
        some ((), si N2 3 7 0))) n M
    else
    some ((), M))
set_option maxRecDepth 20000 in
set_option maxHeartbeats 4000000 in
theorem X_Teller_readToken_L8_ok {n : Nat} {kx52 : Mem → Option (Unit × Mem)} (hkx52 : ∀ (M : Mem), J (mt_Teller_readToken) wU 52 [(0, Value.ref 3)] [] M (kx52 M)) : ∀ (m : Nat) (M : Mem), J (mt_Teller_readToken) wU 8 [(0, Value.ref 3)] [] M (X_Teller_readToken_L8 n kx52 m M) := by
  intro m
  induction m with
  | zero => intro _; exact j_none
  | succ m ih =>
    intro M
    show J _ _ _ _ _ _ ((if (M.1 1 1) ≤ (M.1 3 6) then
kx52 M
else
gd (M.1 3 6) 320 (
(if (M.1 2 (M.1 3 6).toNatClampNeg) = 32 then
X_Teller_readToken_L8 n kx52 m (si M 3 6 ((M.1 3 6) + 1))
else
kx52 M))))
    refine j_aload_n (pc := 8) (q := 0) d_Teller_readToken_8 rfl rfl ?_
    refine j_getI (pc := 9) d_Teller_readToken_9 fl_Teller_66 sx_3 (by decide) rfl ?_
    refine j_aload_n (pc := 12) (q := 0) d_Teller_readToken_12 rfl rfl ?_
    refine j_getA (pc := 13) d_Teller_readToken_13 fl_Teller_29 sx_3 (by decide) rfl ?_
    refine j_getI (pc := 16) d_Teller_readToken_16 fl_Teller_36 sx_1 (by decide) rfl ?_
    refine j_icmp_ge (pc := 19) (tgt := 52) d_Teller_readToken_19 (by decide) (fun _ => ?_) (fun _ => ?_)
    · exact hkx52 M
    · refine j_aload_n (pc := 22) (q := 0) d_Teller_readToken_22 rfl rfl ?_
      refine j_getA (pc := 23) d_Teller_readToken_23 fl_Teller_29 sx_3 (by decide) rfl ?_
      refine j_getA (pc := 26) d_Teller_readToken_26 fl_Teller_95 sx_1 (by decide) rfl ?_
      refine j_aload_n (pc := 29) (q := 0) d_Teller_readToken_29 rfl rfl ?_
      refine j_getI (pc := 30) d_Teller_readToken_30 fl_Teller_66 sx_3 (by decide) rfl ?_
      refine j_bald (pc := 33) d_Teller_readToken_33 sx_2 (fun _ => ?_)
      refine j_bipush (pc := 34) d_Teller_readToken_34 k_b_32 ?_
      refine j_icmp_ne (pc := 36) (tgt := 52) d_Teller_readToken_36 (by decide) (fun _ => ?_) (fun _ => ?_)
      · exact hkx52 M
      · refine j_aload_n (pc := 39) (q := 0) d_Teller_readToken_39 rfl rfl ?_
        refine j_dup (pc := 40) d_Teller_readToken_40 rfl ?_
        refine j_getI (pc := 41) d_Teller_readToken_41 fl_Teller_66 sx_3 (by decide) rfl ?_
        refine j_iconst (pc := 44) d_Teller_readToken_44 k_i_1 ?_
        refine j_iadd (pc := 45) d_Teller_readToken_45 ?_
        refine j_putI (pc := 46) d_Teller_readToken_46 fl_Teller_66 rfl sx_3 (by decide) rfl ?_
        refine j_goto (pc := 49) (tgt := 8) d_Teller_readToken_49 (by decide) ?_
        exact ih (si M 3 6 ((M.1 3 6) + 1))
set_option maxRecDepth 20000 in
set_option maxHeartbeats 4000000 in
theorem X_Teller_readToken_L157_ok {n : Nat} {kx222 : Mem → Option (Unit × Mem)} (hkx222 : ∀ (M : Mem), J (mt_Teller_readToken) wU 222 [(0, Value.ref 3)] [] M (kx222 M)) : ∀ (m : Nat) (M : Mem), J (mt_Teller_readToken) wU 157 [(0, Value.ref 3)] [] M (X_Teller_readToken_L157 n kx222 m M) := by
  intro m
  induction m with
  | zero => intro _; exact j_none
  | succ m ih =>
    intro M
    show J _ _ _ _ _ _ ((if (M.1 1 1) ≤ (M.1 3 6) then
kx222 M
else
bd (X_Teller_isWithin n 48 57 M) fun r12 M13 =>
(if r12 = 0 then
kx222 M13
else
gd (M13.1 3 6) 320 (
nm (si M13 3 9 (((10 * (M13.1 3 9)) + (M13.1 2 (M13.1 3 6).toNatClampNeg)) - 48)) fun N14 =>
X_Teller_readToken_L157 n kx222 m (si N14 3 6 ((N14.1 3 6) + 1))))))
    refine j_aload_n (pc := 157) (q := 0) d_Teller_readToken_157 rfl rfl ?_
    refine j_getI (pc := 158) d_Teller_readToken_158 fl_Teller_66 sx_3 (by decide) rfl ?_
    refine j_aload_n (pc := 161) (q := 0) d_Teller_readToken_161 rfl rfl ?_
    refine j_getA (pc := 162) d_Teller_readToken_162 fl_Teller_29 sx_3 (by decide) rfl ?_
    refine j_getI (pc := 165) d_Teller_readToken_165 fl_Teller_36 sx_1 (by decide) rfl ?_
    refine j_icmp_ge (pc := 168) (tgt := 222) d_Teller_readToken_168 (by decide) (fun _ => ?_) (fun _ => ?_)
    · exact hkx222 M
    · refine j_aload_n (pc := 171) (q := 0) d_Teller_readToken_171 rfl rfl ?_
      refine j_bipush (pc := 172) d_Teller_readToken_172 k_b_48 ?_
      refine j_bipush (pc := 174) d_Teller_readToken_174 k_b_57 ?_
      refine j_callV2 (pc := 176) d_Teller_readToken_176 (C_Teller_isWithin n 48 57 M) cV_Teller_99 cd_Teller_isWithin dn_Teller_isWithin rfl (by decide) (Nat.le_of_ble_eq_true rfl) (Nat.le_of_ble_eq_true rfl) nr_I sx_3 (by decide) rfl (fun r12 M13 => ?_)
      refine j_if_eq (pc := 179) (tgt := 222) d_Teller_readToken_179 (by decide) (fun _ => ?_) (fun _ => ?_)
      · exact hkx222 M13
      · refine j_aload_n (pc := 182) (q := 0) d_Teller_readToken_182 rfl rfl ?_
        refine j_bipush (pc := 183) d_Teller_readToken_183 k_b_10 ?_
        refine j_aload_n (pc := 185) (q := 0) d_Teller_readToken_185 rfl rfl ?_
        refine j_getI (pc := 186) d_Teller_readToken_186 fl_Teller_103 sx_3 (by decide) rfl ?_
        refine j_imul (pc := 189) d_Teller_readToken_189 ?_
        refine j_aload_n (pc := 190) (q := 0) d_Teller_readToken_190 rfl rfl ?_
        refine j_getA (pc := 191) d_Teller_readToken_191 fl_Teller_29 sx_3 (by decide) rfl ?_
        refine j_getA (pc := 194) d_Teller_readToken_194 fl_Teller_95 sx_1 (by decide) rfl ?_
        refine j_aload_n (pc := 197) (q := 0) d_Teller_readToken_197 rfl rfl ?_
        refine j_getI (pc := 198) d_Teller_readToken_198 fl_Teller_66 sx_3 (by decide) rfl ?_
        refine j_bald (pc := 201) d_Teller_readToken_201 sx_2 (fun _ => ?_)
        refine j_iadd (pc := 202) d_Teller_readToken_202 ?_
        refine j_bipush (pc := 203) d_Teller_readToken_203 k_b_48 ?_
        refine j_isub (pc := 205) d_Teller_readToken_205 ?_
        refine j_putI (pc := 206) d_Teller_readToken_206 fl_Teller_103 rfl sx_3 (by decide) rfl ?_
        refine j_aload_n (pc := 209) (q := 0) d_Teller_readToken_209 rfl rfl ?_
        refine j_dup (pc := 210) d_Teller_readToken_210 rfl ?_
        refine j_nmM (fun N14 => ?_)
        refine j_getI (pc := 211) d_Teller_readToken_211 fl_Teller_66 sx_3 (by decide) rfl ?_
        refine j_iconst (pc := 214) d_Teller_readToken_214 k_i_1 ?_
        refine j_iadd (pc := 215) d_Teller_readToken_215 ?_
        refine j_putI (pc := 216) d_Teller_readToken_216 fl_Teller_66 rfl sx_3 (by decide) rfl ?_
        refine j_goto (pc := 219) (tgt := 157) d_Teller_readToken_219 (by decide) ?_
        exact ih (si N14 3 6 ((N14.1 3 6) + 1))
set_option maxRecDepth 20000 in
set_option maxHeartbeats 4000000 in
theorem X_Teller_readToken_L98_ok {n : Nat} : ∀ (m : Nat) (M : Mem), J (mt_Teller_readToken) wU 98 [(0, Value.ref 3)] [] M (X_Teller_readToken_L98 n m M) := by
  intro m
  induction m with
  | zero => intro _; exact j_none
  | succ m ih =>
    intro M
    show J _ _ _ _ _ _ ((if (M.1 1 1) ≤ (M.1 3 6) then
some ((), M)
else
bd (X_Teller_isWithin n 97 122 M) fun r18 M19 =>
(if r18 = 0 then
some ((), M19)
else
X_Teller_readToken_L98 n m (si M19 3 6 ((M19.1 3 6) + 1)))))
    refine j_aload_n (pc := 98) (q := 0) d_Teller_readToken_98 rfl rfl ?_
    refine j_getI (pc := 99) d_Teller_readToken_99 fl_Teller_66 sx_3 (by decide) rfl ?_
    refine j_aload_n (pc := 102) (q := 0) d_Teller_readToken_102 rfl rfl ?_
    refine j_getA (pc := 103) d_Teller_readToken_103 fl_Teller_29 sx_3 (by decide) rfl ?_
    refine j_getI (pc := 106) d_Teller_readToken_106 fl_Teller_36 sx_1 (by decide) rfl ?_
    refine j_icmp_ge (pc := 109) (tgt := 277) d_Teller_readToken_109 (by decide) (fun _ => ?_) (fun _ => ?_)
    · exact j_return (pc := 277) d_Teller_readToken_277 rfl
    · refine j_aload_n (pc := 112) (q := 0) d_Teller_readToken_112 rfl rfl ?_
      refine j_bipush (pc := 113) d_Teller_readToken_113 k_b_97 ?_
      refine j_bipush (pc := 115) d_Teller_readToken_115 k_b_122 ?_
      refine j_callV2 (pc := 117) d_Teller_readToken_117 (C_Teller_isWithin n 97 122 M) cV_Teller_99 cd_Teller_isWithin dn_Teller_isWithin rfl (by decide) (Nat.le_of_ble_eq_true rfl) (Nat.le_of_ble_eq_true rfl) nr_I sx_3 (by decide) rfl (fun r18 M19 => ?_)
      refine j_if_eq (pc := 120) (tgt := 277) d_Teller_readToken_120 (by decide) (fun _ => ?_) (fun _ => ?_)
      · exact j_return (pc := 277) d_Teller_readToken_277 rfl
      · refine j_aload_n (pc := 123) (q := 0) d_Teller_readToken_123 rfl rfl ?_
        refine j_dup (pc := 124) d_Teller_readToken_124 rfl ?_
        refine j_getI (pc := 125) d_Teller_readToken_125 fl_Teller_66 sx_3 (by decide) rfl ?_
        refine j_iconst (pc := 128) d_Teller_readToken_128 k_i_1 ?_
        refine j_iadd (pc := 129) d_Teller_readToken_129 ?_
        refine j_putI (pc := 130) d_Teller_readToken_130 fl_Teller_66 rfl sx_3 (by decide) rfl ?_
        refine j_goto (pc := 133) (tgt := 98) d_Teller_readToken_133 (by decide) ?_
        exact ih (si M19 3 6 ((M19.1 3 6) + 1))
set_option maxRecDepth 20000 in
set_option maxHeartbeats 4000000 in
theorem C_Teller_readToken (n : Nat)    (M : Mem) : Ct y_Teller_readToken mt_Teller_readToken wU [Value.ref 3] M (X_Teller_readToken n M) := by
  refine ct_of (by decide +kernel) rfl (Nat.le_of_ble_eq_true rfl) ?_
  show J _ _ _ [(0, Value.ref 3)] _ _ _
  unfold X_Teller_readToken
  refine j_aload_n (pc := 0) (q := 0) d_Teller_readToken_0 rfl rfl ?_
  refine j_getI (pc := 1) d_Teller_readToken_1 fl_Teller_45 sx_3 (by decide) rfl ?_
  refine j_if_eq (pc := 4) (tgt := 8) d_Teller_readToken_4 (by decide) (fun _ => ?_) (fun _ => ?_)
  · refine X_Teller_readToken_L8_ok  (fun M1 => ?_) n M
    refine j_aload_n (pc := 52) (q := 0) d_Teller_readToken_52 rfl rfl ?_
    refine j_aload_n (pc := 53) (q := 0) d_Teller_readToken_53 rfl rfl ?_
    refine j_getI (pc := 54) d_Teller_readToken_54 fl_Teller_66 sx_3 (by decide) rfl ?_
    refine j_putI (pc := 57) d_Teller_readToken_57 fl_Teller_57 rfl sx_3 (by decide) rfl ?_
    refine j_aload_n (pc := 60) (q := 0) d_Teller_readToken_60 rfl rfl ?_
    refine j_nmM (fun N2 => ?_)
    refine j_getI (pc := 61) d_Teller_readToken_61 fl_Teller_66 sx_3 (by decide) rfl ?_
    refine j_aload_n (pc := 64) (q := 0) d_Teller_readToken_64 rfl rfl ?_
    refine j_getA (pc := 65) d_Teller_readToken_65 fl_Teller_29 sx_3 (by decide) rfl ?_
    refine j_getI (pc := 68) d_Teller_readToken_68 fl_Teller_36 sx_1 (by decide) rfl ?_
    refine j_icmp_lt (pc := 71) (tgt := 82) d_Teller_readToken_71 (by decide) (fun _ => ?_) (fun _ => ?_)
    · refine j_aload_n (pc := 82) (q := 0) d_Teller_readToken_82 rfl rfl ?_
      refine j_bipush (pc := 83) d_Teller_readToken_83 k_b_97 ?_
      refine j_bipush (pc := 85) d_Teller_readToken_85 k_b_122 ?_
      refine j_callV2 (pc := 87) d_Teller_readToken_87 (C_Teller_isWithin n 97 122 N2) cV_Teller_99 cd_Teller_isWithin dn_Teller_isWithin rfl (by decide) (Nat.le_of_ble_eq_true rfl) (Nat.le_of_ble_eq_true rfl) nr_I sx_3 (by decide) rfl (fun r3 M4 => ?_)
      refine j_if_eq (pc := 90) (tgt := 136) d_Teller_readToken_90 (by decide) (fun _ => ?_) (fun _ => ?_)
      · refine j_aload_n (pc := 136) (q := 0) d_Teller_readToken_136 rfl rfl ?_
        refine j_bipush (pc := 137) d_Teller_readToken_137 k_b_48 ?_
        refine j_bipush (pc := 139) d_Teller_readToken_139 k_b_57 ?_
        refine j_callV2 (pc := 141) d_Teller_readToken_141 (C_Teller_isWithin n 48 57 M4) cV_Teller_99 cd_Teller_isWithin dn_Teller_isWithin rfl (by decide) (Nat.le_of_ble_eq_true rfl) (Nat.le_of_ble_eq_true rfl) nr_I sx_3 (by decide) rfl (fun r5 M6 => ?_)
        refine j_if_eq (pc := 144) (tgt := 243) d_Teller_readToken_144 (by decide) (fun _ => ?_) (fun _ => ?_)
        · refine j_aload_n (pc := 243) (q := 0) d_Teller_readToken_243 rfl rfl ?_
          refine j_bipush (pc := 244) d_Teller_readToken_244 k_b_59 ?_
          refine j_bipush (pc := 246) d_Teller_readToken_246 k_b_59 ?_
          refine j_callV2 (pc := 248) d_Teller_readToken_248 (C_Teller_isWithin n 59 59 M6) cV_Teller_99 cd_Teller_isWithin dn_Teller_isWithin rfl (by decide) (Nat.le_of_ble_eq_true rfl) (Nat.le_of_ble_eq_true rfl) nr_I sx_3 (by decide) rfl (fun r7 M8 => ?_)
          refine j_if_eq (pc := 251) (tgt := 272) d_Teller_readToken_251 (by decide) (fun _ => ?_) (fun _ => ?_)
          · refine j_aload_n (pc := 272) (q := 0) d_Teller_readToken_272 rfl rfl ?_
            refine j_iconst (pc := 273) d_Teller_readToken_273 k_i_1 ?_
            refine j_callV1 (pc := 274) d_Teller_readToken_274 (C_Teller_refuse n 1 M8) cV_Teller_88 cd_Teller_refuse dn_Teller_refuse rfl (by decide) (Nat.le_of_ble_eq_true rfl) (Nat.le_of_ble_eq_true rfl) nr_U sx_3 (by decide) rfl (fun r9 M10 => ?_)
            exact j_return (pc := 277) d_Teller_readToken_277 rfl
          · refine j_aload_n (pc := 254) (q := 0) d_Teller_readToken_254 rfl rfl ?_
            refine j_iconst (pc := 255) d_Teller_readToken_255 k_i_3 ?_
            refine j_putI (pc := 256) d_Teller_readToken_256 fl_Teller_48 rfl sx_3 (by decide) rfl ?_
            refine j_aload_n (pc := 259) (q := 0) d_Teller_readToken_259 rfl rfl ?_
            refine j_dup (pc := 260) d_Teller_readToken_260 rfl ?_
            refine j_nmM (fun N11 => ?_)
            refine j_getI (pc := 261) d_Teller_readToken_261 fl_Teller_66 sx_3 (by decide) rfl ?_
            refine j_iconst (pc := 264) d_Teller_readToken_264 k_i_1 ?_
            refine j_iadd (pc := 265) d_Teller_readToken_265 ?_
            refine j_putI (pc := 266) d_Teller_readToken_266 fl_Teller_66 rfl sx_3 (by decide) rfl ?_
            refine j_goto (pc := 269) (tgt := 277) d_Teller_readToken_269 (by decide) ?_
            exact j_return (pc := 277) d_Teller_readToken_277 rfl
        · refine j_aload_n (pc := 147) (q := 0) d_Teller_readToken_147 rfl rfl ?_
          refine j_iconst (pc := 148) d_Teller_readToken_148 k_i_2 ?_
          refine j_putI (pc := 149) d_Teller_readToken_149 fl_Teller_48 rfl sx_3 (by decide) rfl ?_
          refine j_aload_n (pc := 152) (q := 0) d_Teller_readToken_152 rfl rfl ?_
          refine j_iconst (pc := 153) d_Teller_readToken_153 k_i_0 ?_
          refine j_putI (pc := 154) d_Teller_readToken_154 fl_Teller_103 rfl sx_3 (by decide) rfl ?_
          refine X_Teller_readToken_L157_ok  (fun M15 => ?_) n (si (si M6 3 7 2) 3 9 0)
          refine j_aload_n (pc := 222) (q := 0) d_Teller_readToken_222 rfl rfl ?_
          refine j_getI (pc := 223) d_Teller_readToken_223 fl_Teller_66 sx_3 (by decide) rfl ?_
          refine j_aload_n (pc := 226) (q := 0) d_Teller_readToken_226 rfl rfl ?_
          refine j_getI (pc := 227) d_Teller_readToken_227 fl_Teller_57 sx_3 (by decide) rfl ?_
          refine j_isub (pc := 230) d_Teller_readToken_230 ?_
          refine j_iconst (pc := 231) d_Teller_readToken_231 k_i_2 ?_
          refine j_icmp_le (pc := 232) (tgt := 277) d_Teller_readToken_232 (by decide) (fun _ => ?_) (fun _ => ?_)
          · exact j_return (pc := 277) d_Teller_readToken_277 rfl
          · refine j_aload_n (pc := 235) (q := 0) d_Teller_readToken_235 rfl rfl ?_
            refine j_iconst (pc := 236) d_Teller_readToken_236 k_i_1 ?_
            refine j_callV1 (pc := 237) d_Teller_readToken_237 (C_Teller_refuse n 1 M15) cV_Teller_88 cd_Teller_refuse dn_Teller_refuse rfl (by decide) (Nat.le_of_ble_eq_true rfl) (Nat.le_of_ble_eq_true rfl) nr_U sx_3 (by decide) rfl (fun r16 M17 => ?_)
            refine j_goto (pc := 240) (tgt := 277) d_Teller_readToken_240 (by decide) ?_
            exact j_return (pc := 277) d_Teller_readToken_277 rfl
      · refine j_aload_n (pc := 93) (q := 0) d_Teller_readToken_93 rfl rfl ?_
        refine j_iconst (pc := 94) d_Teller_readToken_94 k_i_1 ?_
        refine j_putI (pc := 95) d_Teller_readToken_95 fl_Teller_48 rfl sx_3 (by decide) rfl ?_
        exact X_Teller_readToken_L98_ok   n (si M4 3 7 1)
    · refine j_aload_n (pc := 74) (q := 0) d_Teller_readToken_74 rfl rfl ?_
      refine j_iconst (pc := 75) d_Teller_readToken_75 k_i_0 ?_
      refine j_putI (pc := 76) d_Teller_readToken_76 fl_Teller_48 rfl sx_3 (by decide) rfl ?_
      refine j_goto (pc := 79) (tgt := 277) d_Teller_readToken_79 (by decide) ?_
      exact j_return (pc := 277) d_Teller_readToken_277 rfl
  · exact j_return (pc := 7) d_Teller_readToken_7 rfl
-- Teller.isCalled (Ljava/lang/String;)Z
def mt_Teller_isCalled : Mt := ("ShakeHands$Teller", b_Teller_isCalled, 3, some .boolean, 12, SHx)
theorem d_Teller_isCalled_0 : decode b_Teller_isCalled 0 = .ok (.aload_n 0, 1) := by decide +kernel
theorem d_Teller_isCalled_1 : decode b_Teller_isCalled 1 = .ok (.getfield 66, 3) := by decide +kernel
theorem d_Teller_isCalled_4 : decode b_Teller_isCalled 4 = .ok (.aload_n 0, 1) := by decide +kernel
theorem d_Teller_isCalled_5 : decode b_Teller_isCalled 5 = .ok (.getfield 57, 3) := by decide +kernel
theorem d_Teller_isCalled_8 : decode b_Teller_isCalled 8 = .ok (.isub, 1) := by decide +kernel
theorem d_Teller_isCalled_9 : decode b_Teller_isCalled 9 = .ok (.aload_n 1, 1) := by decide +kernel
theorem d_Teller_isCalled_10 : decode b_Teller_isCalled 10 = .ok (.invokevirtual 106, 3) := by decide +kernel
theorem d_Teller_isCalled_13 : decode b_Teller_isCalled 13 = .ok (.if_icmp .eq 5, 3) := by decide +kernel
theorem d_Teller_isCalled_16 : decode b_Teller_isCalled 16 = .ok (.iconst 0, 1) := by decide +kernel
theorem d_Teller_isCalled_17 : decode b_Teller_isCalled 17 = .ok (.ireturn, 1) := by decide +kernel
theorem d_Teller_isCalled_18 : decode b_Teller_isCalled 18 = .ok (.iconst 0, 1) := by decide +kernel
theorem d_Teller_isCalled_19 : decode b_Teller_isCalled 19 = .ok (.istore_n 2, 1) := by decide +kernel
theorem d_Teller_isCalled_20 : decode b_Teller_isCalled 20 = .ok (.iload_n 2, 1) := by decide +kernel
theorem d_Teller_isCalled_21 : decode b_Teller_isCalled 21 = .ok (.aload_n 1, 1) := by decide +kernel
theorem d_Teller_isCalled_22 : decode b_Teller_isCalled 22 = .ok (.invokevirtual 106, 3) := by decide +kernel
theorem d_Teller_isCalled_25 : decode b_Teller_isCalled 25 = .ok (.if_icmp .ge 33, 3) := by decide +kernel
theorem d_Teller_isCalled_28 : decode b_Teller_isCalled 28 = .ok (.aload_n 0, 1) := by decide +kernel
theorem d_Teller_isCalled_29 : decode b_Teller_isCalled 29 = .ok (.getfield 29, 3) := by decide +kernel
theorem d_Teller_isCalled_32 : decode b_Teller_isCalled 32 = .ok (.getfield 95, 3) := by decide +kernel
theorem d_Teller_isCalled_35 : decode b_Teller_isCalled 35 = .ok (.aload_n 0, 1) := by decide +kernel
theorem d_Teller_isCalled_36 : decode b_Teller_isCalled 36 = .ok (.getfield 57, 3) := by decide +kernel
theorem d_Teller_isCalled_39 : decode b_Teller_isCalled 39 = .ok (.iload_n 2, 1) := by decide +kernel
theorem d_Teller_isCalled_40 : decode b_Teller_isCalled 40 = .ok (.iadd, 1) := by decide +kernel
theorem d_Teller_isCalled_41 : decode b_Teller_isCalled 41 = .ok (.baload, 1) := by decide +kernel
theorem d_Teller_isCalled_42 : decode b_Teller_isCalled 42 = .ok (.aload_n 1, 1) := by decide +kernel
theorem d_Teller_isCalled_43 : decode b_Teller_isCalled 43 = .ok (.iload_n 2, 1) := by decide +kernel
theorem d_Teller_isCalled_44 : decode b_Teller_isCalled 44 = .ok (.invokevirtual 111, 3) := by decide +kernel
theorem d_Teller_isCalled_47 : decode b_Teller_isCalled 47 = .ok (.if_icmp .eq 5, 3) := by decide +kernel
theorem d_Teller_isCalled_50 : decode b_Teller_isCalled 50 = .ok (.iconst 0, 1) := by decide +kernel
theorem d_Teller_isCalled_51 : decode b_Teller_isCalled 51 = .ok (.ireturn, 1) := by decide +kernel
theorem d_Teller_isCalled_52 : decode b_Teller_isCalled 52 = .ok (.iinc 2 1, 3) := by decide +kernel
theorem d_Teller_isCalled_55 : decode b_Teller_isCalled 55 = .ok (.goto (-35), 3) := by decide +kernel
theorem d_Teller_isCalled_58 : decode b_Teller_isCalled 58 = .ok (.iconst 1, 1) := by decide +kernel
theorem d_Teller_isCalled_59 : decode b_Teller_isCalled 59 = .ok (.ireturn, 1) := by decide +kernel
def X_Teller_isCalled_L20 (n : Nat) (k : Nat) : Nat → Int32 → Mem → Option (Int32 × Mem)
    | 0, _, _ => none
    | m + 1, v2, M => bd (some (nI (stLen.getD k 0) >>> ((0 : Int32) &&& 31), M)) fun r3 M4 =>
  (if r3 ≤ v2 then
    some (1, M4)
    else
    gd ((M4.1 3 8) + v2) 320 (
      bd (X_charAt k v2 M4) fun r5 M6 =>
      (if (M4.1 2 ((M4.1 3 8) + v2).toNatClampNeg) = r5 then
        X_Teller_isCalled_L20 n k m (v2 + 1) M6
        else
        some (0, M6))))
def X_Teller_isCalled (n : Nat) (k : Nat) (M : Mem) : Option (Int32 × Mem) :=
  bd (some (nI (stLen.getD k 0) >>> ((0 : Int32) &&& 31), M)) fun r1 M2 =>
  (if ((M.1 3 6) - (M.1 3 8)) = r1 then
    X_Teller_isCalled_L20 n k n 0 M2
    else
    some (0, M2))
set_option maxRecDepth 20000 in
set_option maxHeartbeats 4000000 in
theorem X_Teller_isCalled_L20_ok {n : Nat} {k : Nat} (h_k : k < 7) : ∀ (m : Nat) (v2 : Int32) (M : Mem), J (mt_Teller_isCalled) wI 20 [(0, Value.ref 3), (1, Value.ref (210 + k)), (2, Value.int v2)] [] M (X_Teller_isCalled_L20 n k m v2 M) := by
  intro m
  induction m with
  | zero => intro _ _; exact j_none
  | succ m ih =>
    intro v2 M
    show J _ _ _ _ _ _ (bd (some (nI (stLen.getD k 0) >>> ((0 : Int32) &&& 31), M)) fun r3 M4 =>
(if r3 ≤ v2 then
some (1, M4)
else
gd ((M4.1 3 8) + v2) 320 (
bd (X_charAt k v2 M4) fun r5 M6 =>
(if (M4.1 2 ((M4.1 3 8) + v2).toNatClampNeg) = r5 then
X_Teller_isCalled_L20 n k m (v2 + 1) M6
else
some (0, M6)))))
    refine j_iload_n (pc := 20) (q := 2) d_Teller_isCalled_20 rfl rfl ?_
    refine j_aload_n (pc := 21) (q := 1) d_Teller_isCalled_21 rfl rfl ?_
    refine j_callVS0 (pc := 22) d_Teller_isCalled_22 (C_String_length k h_k M) cV_Teller_106 cd_String_length dn_String_length rfl (by decide) (Nat.le_of_ble_eq_true rfl) (Nat.le_of_ble_eq_true rfl) nr_I h_k rfl (fun r3 M4 => ?_)
    refine j_icmp_ge (pc := 25) (tgt := 58) d_Teller_isCalled_25 (by decide) (fun _ => ?_) (fun _ => ?_)
    · refine j_iconst (pc := 58) d_Teller_isCalled_58 k_i_1 ?_
      exact j_zreturn (pc := 59) d_Teller_isCalled_59 rfl rfl
    · refine j_aload_n (pc := 28) (q := 0) d_Teller_isCalled_28 rfl rfl ?_
      refine j_getA (pc := 29) d_Teller_isCalled_29 fl_Teller_29 sx_3 (by decide) rfl ?_
      refine j_getA (pc := 32) d_Teller_isCalled_32 fl_Teller_95 sx_1 (by decide) rfl ?_
      refine j_aload_n (pc := 35) (q := 0) d_Teller_isCalled_35 rfl rfl ?_
      refine j_getI (pc := 36) d_Teller_isCalled_36 fl_Teller_57 sx_3 (by decide) rfl ?_
      refine j_iload_n (pc := 39) (q := 2) d_Teller_isCalled_39 rfl rfl ?_
      refine j_iadd (pc := 40) d_Teller_isCalled_40 ?_
      refine j_bald (pc := 41) d_Teller_isCalled_41 sx_2 (fun _ => ?_)
      refine j_aload_n (pc := 42) (q := 1) d_Teller_isCalled_42 rfl rfl ?_
      refine j_iload_n (pc := 43) (q := 2) d_Teller_isCalled_43 rfl rfl ?_
      refine j_callVS1 (pc := 44) d_Teller_isCalled_44 (C_String_charAt k h_k v2 M4) cV_Teller_111 cd_String_charAt dn_String_charAt rfl (by decide) (Nat.le_of_ble_eq_true rfl) (Nat.le_of_ble_eq_true rfl) nr_I h_k rfl (fun r5 M6 => ?_)
      refine j_icmp_eq (pc := 47) (tgt := 52) d_Teller_isCalled_47 (by decide) (fun _ => ?_) (fun _ => ?_)
      · refine j_iinc (pc := 52) (q := 2) d_Teller_isCalled_52 rfl (congrArg (v2 + ·) k_i_1) (by decide) rfl ?_
        refine j_goto (pc := 55) (tgt := 20) d_Teller_isCalled_55 (by decide) ?_
        refine j_lv [1, 2, 0] rfl ?_
        exact ih (v2 + 1) M6
      · refine j_iconst (pc := 50) d_Teller_isCalled_50 k_i_0 ?_
        exact j_zreturn (pc := 51) d_Teller_isCalled_51 rfl rfl
set_option maxRecDepth 20000 in
set_option maxHeartbeats 4000000 in
theorem C_Teller_isCalled (n : Nat) (k : Nat) (h_k : k < 7)  (M : Mem) : Ct y_Teller_isCalled mt_Teller_isCalled wI [Value.ref 3, Value.ref (210 + k)] M (X_Teller_isCalled n k M) := by
  refine ct_of (by decide +kernel) rfl (Nat.le_of_ble_eq_true rfl) ?_
  show J _ _ _ [(0, Value.ref 3), (1, Value.ref (210 + k))] _ _ _
  unfold X_Teller_isCalled
  refine j_aload_n (pc := 0) (q := 0) d_Teller_isCalled_0 rfl rfl ?_
  refine j_getI (pc := 1) d_Teller_isCalled_1 fl_Teller_66 sx_3 (by decide) rfl ?_
  refine j_aload_n (pc := 4) (q := 0) d_Teller_isCalled_4 rfl rfl ?_
  refine j_getI (pc := 5) d_Teller_isCalled_5 fl_Teller_57 sx_3 (by decide) rfl ?_
  refine j_isub (pc := 8) d_Teller_isCalled_8 ?_
  refine j_aload_n (pc := 9) (q := 1) d_Teller_isCalled_9 rfl rfl ?_
  refine j_callVS0 (pc := 10) d_Teller_isCalled_10 (C_String_length k h_k M) cV_Teller_106 cd_String_length dn_String_length rfl (by decide) (Nat.le_of_ble_eq_true rfl) (Nat.le_of_ble_eq_true rfl) nr_I h_k rfl (fun r1 M2 => ?_)
  refine j_icmp_eq (pc := 13) (tgt := 18) d_Teller_isCalled_13 (by decide) (fun _ => ?_) (fun _ => ?_)
  · refine j_iconst (pc := 18) d_Teller_isCalled_18 k_i_0 ?_
    refine j_istore_n (pc := 19) d_Teller_isCalled_19 rfl (by decide) rfl ?_
    refine j_lv [1, 2, 0] rfl ?_
    exact X_Teller_isCalled_L20_ok h_k  n 0 M2
  · refine j_iconst (pc := 16) d_Teller_isCalled_16 k_i_0 ?_
    exact j_zreturn (pc := 17) d_Teller_isCalled_17 rfl rfl
-- Teller.boundedValue (II)I
def mt_Teller_boundedValue : Mt := ("ShakeHands$Teller", b_Teller_boundedValue, 3, some .int, 3, SHx)
theorem d_Teller_boundedValue_0 : decode b_Teller_boundedValue 0 = .ok (.aload_n 0, 1) := by decide +kernel
theorem d_Teller_boundedValue_1 : decode b_Teller_boundedValue 1 = .ok (.getfield 45, 3) := by decide +kernel
theorem d_Teller_boundedValue_4 : decode b_Teller_boundedValue 4 = .ok (.ifCond .ne 24, 3) := by decide +kernel
theorem d_Teller_boundedValue_7 : decode b_Teller_boundedValue 7 = .ok (.aload_n 0, 1) := by decide +kernel
theorem d_Teller_boundedValue_8 : decode b_Teller_boundedValue 8 = .ok (.getfield 103, 3) := by decide +kernel
theorem d_Teller_boundedValue_11 : decode b_Teller_boundedValue 11 = .ok (.iload_n 1, 1) := by decide +kernel
theorem d_Teller_boundedValue_12 : decode b_Teller_boundedValue 12 = .ok (.if_icmp .lt 11, 3) := by decide +kernel
theorem d_Teller_boundedValue_15 : decode b_Teller_boundedValue 15 = .ok (.aload_n 0, 1) := by decide +kernel
theorem d_Teller_boundedValue_16 : decode b_Teller_boundedValue 16 = .ok (.getfield 103, 3) := by decide +kernel
theorem d_Teller_boundedValue_19 : decode b_Teller_boundedValue 19 = .ok (.iload_n 2, 1) := by decide +kernel
theorem d_Teller_boundedValue_20 : decode b_Teller_boundedValue 20 = .ok (.if_icmp .le 8, 3) := by decide +kernel
theorem d_Teller_boundedValue_23 : decode b_Teller_boundedValue 23 = .ok (.aload_n 0, 1) := by decide +kernel
theorem d_Teller_boundedValue_24 : decode b_Teller_boundedValue 24 = .ok (.iconst 3, 1) := by decide +kernel
theorem d_Teller_boundedValue_25 : decode b_Teller_boundedValue 25 = .ok (.invokevirtual 88, 3) := by decide +kernel
theorem d_Teller_boundedValue_28 : decode b_Teller_boundedValue 28 = .ok (.aload_n 0, 1) := by decide +kernel
theorem d_Teller_boundedValue_29 : decode b_Teller_boundedValue 29 = .ok (.getfield 45, 3) := by decide +kernel
theorem d_Teller_boundedValue_32 : decode b_Teller_boundedValue 32 = .ok (.ifCond .ne 10, 3) := by decide +kernel
theorem d_Teller_boundedValue_35 : decode b_Teller_boundedValue 35 = .ok (.aload_n 0, 1) := by decide +kernel
theorem d_Teller_boundedValue_36 : decode b_Teller_boundedValue 36 = .ok (.getfield 103, 3) := by decide +kernel
theorem d_Teller_boundedValue_39 : decode b_Teller_boundedValue 39 = .ok (.goto 4, 3) := by decide +kernel
theorem d_Teller_boundedValue_42 : decode b_Teller_boundedValue 42 = .ok (.iload_n 1, 1) := by decide +kernel
theorem d_Teller_boundedValue_43 : decode b_Teller_boundedValue 43 = .ok (.ireturn, 1) := by decide +kernel
def X_Teller_boundedValue (n : Nat) (p1 : Int32) (p2 : Int32) (M : Mem) : Option (Int32 × Mem) :=
  nm (fun (M1 : Mem) => (if (M1.1 3 3) = 0 then
      some ((M1.1 3 9), M1)
      else
      some (p1, M1))) fun k28 =>
  (if (M.1 3 3) = 0 then
    nm (bd (X_Teller_refuse n 3 M) fun _ M3 =>
      k28 M3) fun k23 =>
    (if (M.1 3 9) < p1 then
      k23
      else
      (if (M.1 3 9) ≤ p2 then
        k28 M
        else
        k23))
    else
    k28 M)
set_option maxRecDepth 20000 in
set_option maxHeartbeats 4000000 in
theorem C_Teller_boundedValue (n : Nat)   (p1 : Int32) (p2 : Int32) (M : Mem) : Ct y_Teller_boundedValue mt_Teller_boundedValue wI [Value.ref 3, Value.int p1, Value.int p2] M (X_Teller_boundedValue n p1 p2 M) := by
  refine ct_of (by decide +kernel) rfl (Nat.le_of_ble_eq_true rfl) ?_
  show J _ _ _ [(0, Value.ref 3), (1, Value.int p1), (2, Value.int p2)] _ _ _
  unfold X_Teller_boundedValue
  refine j_aload_n (pc := 0) (q := 0) d_Teller_boundedValue_0 rfl rfl ?_
  refine j_getI (pc := 1) d_Teller_boundedValue_1 fl_Teller_45 sx_3 (by decide) rfl ?_
  refine j_nmk (fun k => ∀ (M1 : Mem), J (mt_Teller_boundedValue) wI 28 [(0, Value.ref 3), (1, Value.int p1)] [] M1 (k M1)) (fun M1 => ?_) (fun k28 hk28 => ?_)
  · refine j_aload_n (pc := 28) (q := 0) d_Teller_boundedValue_28 rfl rfl ?_
    refine j_getI (pc := 29) d_Teller_boundedValue_29 fl_Teller_45 sx_3 (by decide) rfl ?_
    refine j_if_ne (pc := 32) (tgt := 42) d_Teller_boundedValue_32 (by decide) (fun _ => ?_) (fun _ => ?_)
    · refine j_iload_n (pc := 42) (q := 1) d_Teller_boundedValue_42 rfl rfl ?_
      exact j_ireturn (pc := 43) d_Teller_boundedValue_43 rfl
    · refine j_aload_n (pc := 35) (q := 0) d_Teller_boundedValue_35 rfl rfl ?_
      refine j_getI (pc := 36) d_Teller_boundedValue_36 fl_Teller_103 sx_3 (by decide) rfl ?_
      refine j_goto (pc := 39) (tgt := 43) d_Teller_boundedValue_39 (by decide) ?_
      exact j_ireturn (pc := 43) d_Teller_boundedValue_43 rfl
  · refine j_if_ne (pc := 4) (tgt := 28) d_Teller_boundedValue_4 (by decide) (fun _ => ?_) (fun _ => ?_)
    · refine j_lv [0, 1] rfl ?_
      exact hk28 M
    · refine j_aload_n (pc := 7) (q := 0) d_Teller_boundedValue_7 rfl rfl ?_
      refine j_getI (pc := 8) d_Teller_boundedValue_8 fl_Teller_103 sx_3 (by decide) rfl ?_
      refine j_iload_n (pc := 11) (q := 1) d_Teller_boundedValue_11 rfl rfl ?_
      refine j_nmk (fun k => J (mt_Teller_boundedValue) wI 23 [(0, Value.ref 3), (1, Value.int p1)] [] M k) (?_) (fun k23 hk23 => ?_)
      · refine j_aload_n (pc := 23) (q := 0) d_Teller_boundedValue_23 rfl rfl ?_
        refine j_iconst (pc := 24) d_Teller_boundedValue_24 k_i_3 ?_
        refine j_callV1 (pc := 25) d_Teller_boundedValue_25 (C_Teller_refuse n 3 M) cV_Teller_88 cd_Teller_refuse dn_Teller_refuse rfl (by decide) (Nat.le_of_ble_eq_true rfl) (Nat.le_of_ble_eq_true rfl) nr_U sx_3 (by decide) rfl (fun r2 M3 => ?_)
        exact hk28 M3
      · refine j_icmp_lt (pc := 12) (tgt := 23) d_Teller_boundedValue_12 (by decide) (fun _ => ?_) (fun _ => ?_)
        · refine j_lv [0, 1] rfl ?_
          exact hk23
        · refine j_aload_n (pc := 15) (q := 0) d_Teller_boundedValue_15 rfl rfl ?_
          refine j_getI (pc := 16) d_Teller_boundedValue_16 fl_Teller_103 sx_3 (by decide) rfl ?_
          refine j_iload_n (pc := 19) (q := 2) d_Teller_boundedValue_19 rfl rfl ?_
          refine j_icmp_le (pc := 20) (tgt := 28) d_Teller_boundedValue_20 (by decide) (fun _ => ?_) (fun _ => ?_)
          · refine j_lv [0, 1] rfl ?_
            exact hk28 M
          · refine j_lv [0, 1] rfl ?_
            exact hk23
-- Teller.takeNumber (II)I
def mt_Teller_takeNumber : Mt := ("ShakeHands$Teller", b_Teller_takeNumber, 3, some .int, 4, SHx)
theorem d_Teller_takeNumber_0 : decode b_Teller_takeNumber 0 = .ok (.aload_n 0, 1) := by decide +kernel
theorem d_Teller_takeNumber_1 : decode b_Teller_takeNumber 1 = .ok (.invokevirtual 42, 3) := by decide +kernel
theorem d_Teller_takeNumber_4 : decode b_Teller_takeNumber 4 = .ok (.aload_n 0, 1) := by decide +kernel
theorem d_Teller_takeNumber_5 : decode b_Teller_takeNumber 5 = .ok (.getfield 45, 3) := by decide +kernel
theorem d_Teller_takeNumber_8 : decode b_Teller_takeNumber 8 = .ok (.ifCond .ne 16, 3) := by decide +kernel
theorem d_Teller_takeNumber_11 : decode b_Teller_takeNumber 11 = .ok (.aload_n 0, 1) := by decide +kernel
theorem d_Teller_takeNumber_12 : decode b_Teller_takeNumber 12 = .ok (.getfield 48, 3) := by decide +kernel
theorem d_Teller_takeNumber_15 : decode b_Teller_takeNumber 15 = .ok (.iconst 2, 1) := by decide +kernel
theorem d_Teller_takeNumber_16 : decode b_Teller_takeNumber 16 = .ok (.if_icmp .eq 8, 3) := by decide +kernel
theorem d_Teller_takeNumber_19 : decode b_Teller_takeNumber 19 = .ok (.aload_n 0, 1) := by decide +kernel
theorem d_Teller_takeNumber_20 : decode b_Teller_takeNumber 20 = .ok (.iconst 2, 1) := by decide +kernel
theorem d_Teller_takeNumber_21 : decode b_Teller_takeNumber 21 = .ok (.invokevirtual 88, 3) := by decide +kernel
theorem d_Teller_takeNumber_24 : decode b_Teller_takeNumber 24 = .ok (.aload_n 0, 1) := by decide +kernel
theorem d_Teller_takeNumber_25 : decode b_Teller_takeNumber 25 = .ok (.iload_n 1, 1) := by decide +kernel
theorem d_Teller_takeNumber_26 : decode b_Teller_takeNumber 26 = .ok (.iload_n 2, 1) := by decide +kernel
theorem d_Teller_takeNumber_27 : decode b_Teller_takeNumber 27 = .ok (.invokevirtual 181, 3) := by decide +kernel
theorem d_Teller_takeNumber_30 : decode b_Teller_takeNumber 30 = .ok (.ireturn, 1) := by decide +kernel
def X_Teller_takeNumber (n : Nat) (p1 : Int32) (p2 : Int32) (M : Mem) : Option (Int32 × Mem) :=
  bd (X_Teller_readToken n M) fun _ M2 =>
  nm (fun (M3 : Mem) => bd (X_Teller_boundedValue n p1 p2 M3) fun r4 M5 =>
    some (r4, M5)) fun k24 =>
  (if (M2.1 3 3) = 0 then
    (if (M2.1 3 7) = 2 then
      k24 M2
      else
      bd (X_Teller_refuse n 2 M2) fun _ M7 =>
      k24 M7)
    else
    k24 M2)
set_option maxRecDepth 20000 in
set_option maxHeartbeats 4000000 in
theorem C_Teller_takeNumber (n : Nat)   (p1 : Int32) (p2 : Int32) (M : Mem) : Ct y_Teller_takeNumber mt_Teller_takeNumber wI [Value.ref 3, Value.int p1, Value.int p2] M (X_Teller_takeNumber n p1 p2 M) := by
  refine ct_of (by decide +kernel) rfl (Nat.le_of_ble_eq_true rfl) ?_
  show J _ _ _ [(0, Value.ref 3), (1, Value.int p1), (2, Value.int p2)] _ _ _
  unfold X_Teller_takeNumber
  refine j_aload_n (pc := 0) (q := 0) d_Teller_takeNumber_0 rfl rfl ?_
  refine j_callV0 (pc := 1) d_Teller_takeNumber_1 (C_Teller_readToken n M) cV_Teller_42 cd_Teller_readToken dn_Teller_readToken rfl (by decide) (Nat.le_of_ble_eq_true rfl) (Nat.le_of_ble_eq_true rfl) nr_U sx_3 (by decide) rfl (fun r1 M2 => ?_)
  refine j_aload_n (pc := 4) (q := 0) d_Teller_takeNumber_4 rfl rfl ?_
  refine j_getI (pc := 5) d_Teller_takeNumber_5 fl_Teller_45 sx_3 (by decide) rfl ?_
  refine j_nmk (fun k => ∀ (M3 : Mem), J (mt_Teller_takeNumber) wI 24 [(0, Value.ref 3), (1, Value.int p1), (2, Value.int p2)] [] M3 (k M3)) (fun M3 => ?_) (fun k24 hk24 => ?_)
  · refine j_aload_n (pc := 24) (q := 0) d_Teller_takeNumber_24 rfl rfl ?_
    refine j_iload_n (pc := 25) (q := 1) d_Teller_takeNumber_25 rfl rfl ?_
    refine j_iload_n (pc := 26) (q := 2) d_Teller_takeNumber_26 rfl rfl ?_
    refine j_callV2 (pc := 27) d_Teller_takeNumber_27 (C_Teller_boundedValue n p1 p2 M3) cV_Teller_181 cd_Teller_boundedValue dn_Teller_boundedValue rfl (by decide) (Nat.le_of_ble_eq_true rfl) (Nat.le_of_ble_eq_true rfl) nr_I sx_3 (by decide) rfl (fun r4 M5 => ?_)
    exact j_ireturn (pc := 30) d_Teller_takeNumber_30 rfl
  · refine j_if_ne (pc := 8) (tgt := 24) d_Teller_takeNumber_8 (by decide) (fun _ => ?_) (fun _ => ?_)
    · exact hk24 M2
    · refine j_aload_n (pc := 11) (q := 0) d_Teller_takeNumber_11 rfl rfl ?_
      refine j_getI (pc := 12) d_Teller_takeNumber_12 fl_Teller_48 sx_3 (by decide) rfl ?_
      refine j_iconst (pc := 15) d_Teller_takeNumber_15 k_i_2 ?_
      refine j_icmp_eq (pc := 16) (tgt := 24) d_Teller_takeNumber_16 (by decide) (fun _ => ?_) (fun _ => ?_)
      · exact hk24 M2
      · refine j_aload_n (pc := 19) (q := 0) d_Teller_takeNumber_19 rfl rfl ?_
        refine j_iconst (pc := 20) d_Teller_takeNumber_20 k_i_2 ?_
        refine j_callV1 (pc := 21) d_Teller_takeNumber_21 (C_Teller_refuse n 2 M2) cV_Teller_88 cd_Teller_refuse dn_Teller_refuse rfl (by decide) (Nat.le_of_ble_eq_true rfl) (Nat.le_of_ble_eq_true rfl) nr_U sx_3 (by decide) rfl (fun r6 M7 => ?_)
        exact hk24 M7
-- Teller.takeSign ()V
def mt_Teller_takeSign : Mt := ("ShakeHands$Teller", b_Teller_takeSign, 1, none, 4, SHx)
theorem d_Teller_takeSign_0 : decode b_Teller_takeSign 0 = .ok (.aload_n 0, 1) := by decide +kernel
theorem d_Teller_takeSign_1 : decode b_Teller_takeSign 1 = .ok (.invokevirtual 42, 3) := by decide +kernel
theorem d_Teller_takeSign_4 : decode b_Teller_takeSign 4 = .ok (.aload_n 0, 1) := by decide +kernel
theorem d_Teller_takeSign_5 : decode b_Teller_takeSign 5 = .ok (.getfield 48, 3) := by decide +kernel
theorem d_Teller_takeSign_8 : decode b_Teller_takeSign 8 = .ok (.iconst 3, 1) := by decide +kernel
theorem d_Teller_takeSign_9 : decode b_Teller_takeSign 9 = .ok (.if_icmp .eq 8, 3) := by decide +kernel
theorem d_Teller_takeSign_12 : decode b_Teller_takeSign 12 = .ok (.aload_n 0, 1) := by decide +kernel
theorem d_Teller_takeSign_13 : decode b_Teller_takeSign 13 = .ok (.iconst 2, 1) := by decide +kernel
theorem d_Teller_takeSign_14 : decode b_Teller_takeSign 14 = .ok (.invokevirtual 88, 3) := by decide +kernel
theorem d_Teller_takeSign_17 : decode b_Teller_takeSign 17 = .ok (.return_, 1) := by decide +kernel
def X_Teller_takeSign (n : Nat) (M : Mem) : Option (Unit × Mem) :=
  bd (X_Teller_readToken n M) fun _ M2 =>
  (if (M2.1 3 7) = 3 then
    some ((), M2)
    else
    bd (X_Teller_refuse n 2 M2) fun _ M4 =>
    some ((), M4))
set_option maxRecDepth 20000 in
set_option maxHeartbeats 4000000 in
theorem C_Teller_takeSign (n : Nat)    (M : Mem) : Ct y_Teller_takeSign mt_Teller_takeSign wU [Value.ref 3] M (X_Teller_takeSign n M) := by
  refine ct_of (by decide +kernel) rfl (Nat.le_of_ble_eq_true rfl) ?_
  show J _ _ _ [(0, Value.ref 3)] _ _ _
  unfold X_Teller_takeSign
  refine j_aload_n (pc := 0) (q := 0) d_Teller_takeSign_0 rfl rfl ?_
  refine j_callV0 (pc := 1) d_Teller_takeSign_1 (C_Teller_readToken n M) cV_Teller_42 cd_Teller_readToken dn_Teller_readToken rfl (by decide) (Nat.le_of_ble_eq_true rfl) (Nat.le_of_ble_eq_true rfl) nr_U sx_3 (by decide) rfl (fun r1 M2 => ?_)
  refine j_aload_n (pc := 4) (q := 0) d_Teller_takeSign_4 rfl rfl ?_
  refine j_getI (pc := 5) d_Teller_takeSign_5 fl_Teller_48 sx_3 (by decide) rfl ?_
  refine j_iconst (pc := 8) d_Teller_takeSign_8 k_i_3 ?_
  refine j_icmp_eq (pc := 9) (tgt := 17) d_Teller_takeSign_9 (by decide) (fun _ => ?_) (fun _ => ?_)
  · exact j_return (pc := 17) d_Teller_takeSign_17 rfl
  · refine j_aload_n (pc := 12) (q := 0) d_Teller_takeSign_12 rfl rfl ?_
    refine j_iconst (pc := 13) d_Teller_takeSign_13 k_i_2 ?_
    refine j_callV1 (pc := 14) d_Teller_takeSign_14 (C_Teller_refuse n 2 M2) cV_Teller_88 cd_Teller_refuse dn_Teller_refuse rfl (by decide) (Nat.le_of_ble_eq_true rfl) (Nat.le_of_ble_eq_true rfl) nr_U sx_3 (by decide) rfl (fun r3 M4 => ?_)
    exact j_return (pc := 17) d_Teller_takeSign_17 rfl
-- Teller.tellGlove ()V
def mt_Teller_tellGlove : Mt := ("ShakeHands$Teller", b_Teller_tellGlove, 2, none, 5, SHx)
theorem d_Teller_tellGlove_0 : decode b_Teller_tellGlove 0 = .ok (.aload_n 0, 1) := by decide +kernel
theorem d_Teller_tellGlove_1 : decode b_Teller_tellGlove 1 = .ok (.iconst 0, 1) := by decide +kernel
theorem d_Teller_tellGlove_2 : decode b_Teller_tellGlove 2 = .ok (.iconst 5, 1) := by decide +kernel
theorem d_Teller_tellGlove_3 : decode b_Teller_tellGlove 3 = .ok (.invokevirtual 162, 3) := by decide +kernel
theorem d_Teller_tellGlove_6 : decode b_Teller_tellGlove 6 = .ok (.istore_n 1, 1) := by decide +kernel
theorem d_Teller_tellGlove_7 : decode b_Teller_tellGlove 7 = .ok (.aload_n 0, 1) := by decide +kernel
theorem d_Teller_tellGlove_8 : decode b_Teller_tellGlove 8 = .ok (.getfield 63, 3) := by decide +kernel
theorem d_Teller_tellGlove_11 : decode b_Teller_tellGlove 11 = .ok (.iload_n 1, 1) := by decide +kernel
theorem d_Teller_tellGlove_12 : decode b_Teller_tellGlove 12 = .ok (.iushr, 1) := by decide +kernel
theorem d_Teller_tellGlove_13 : decode b_Teller_tellGlove 13 = .ok (.iconst 1, 1) := by decide +kernel
theorem d_Teller_tellGlove_14 : decode b_Teller_tellGlove 14 = .ok (.iand, 1) := by decide +kernel
theorem d_Teller_tellGlove_15 : decode b_Teller_tellGlove 15 = .ok (.ifCond .eq 8, 3) := by decide +kernel
theorem d_Teller_tellGlove_18 : decode b_Teller_tellGlove 18 = .ok (.aload_n 0, 1) := by decide +kernel
theorem d_Teller_tellGlove_19 : decode b_Teller_tellGlove 19 = .ok (.iconst 4, 1) := by decide +kernel
theorem d_Teller_tellGlove_20 : decode b_Teller_tellGlove 20 = .ok (.invokevirtual 88, 3) := by decide +kernel
theorem d_Teller_tellGlove_23 : decode b_Teller_tellGlove 23 = .ok (.aload_n 0, 1) := by decide +kernel
theorem d_Teller_tellGlove_24 : decode b_Teller_tellGlove 24 = .ok (.dup, 1) := by decide +kernel
theorem d_Teller_tellGlove_25 : decode b_Teller_tellGlove 25 = .ok (.getfield 63, 3) := by decide +kernel
theorem d_Teller_tellGlove_28 : decode b_Teller_tellGlove 28 = .ok (.iconst 1, 1) := by decide +kernel
theorem d_Teller_tellGlove_29 : decode b_Teller_tellGlove 29 = .ok (.iload_n 1, 1) := by decide +kernel
theorem d_Teller_tellGlove_30 : decode b_Teller_tellGlove 30 = .ok (.ishl, 1) := by decide +kernel
theorem d_Teller_tellGlove_31 : decode b_Teller_tellGlove 31 = .ok (.ior, 1) := by decide +kernel
theorem d_Teller_tellGlove_32 : decode b_Teller_tellGlove 32 = .ok (.putfield 63, 3) := by decide +kernel
theorem d_Teller_tellGlove_35 : decode b_Teller_tellGlove 35 = .ok (.aload_n 0, 1) := by decide +kernel
theorem d_Teller_tellGlove_36 : decode b_Teller_tellGlove 36 = .ok (.aload_n 0, 1) := by decide +kernel
theorem d_Teller_tellGlove_37 : decode b_Teller_tellGlove 37 = .ok (.getfield 79, 3) := by decide +kernel
theorem d_Teller_tellGlove_40 : decode b_Teller_tellGlove 40 = .ok (.iload_n 1, 1) := by decide +kernel
theorem d_Teller_tellGlove_41 : decode b_Teller_tellGlove 41 = .ok (.invokestatic 169, 3) := by decide +kernel
theorem d_Teller_tellGlove_44 : decode b_Teller_tellGlove 44 = .ok (.putfield 79, 3) := by decide +kernel
theorem d_Teller_tellGlove_47 : decode b_Teller_tellGlove 47 = .ok (.aload_n 0, 1) := by decide +kernel
theorem d_Teller_tellGlove_48 : decode b_Teller_tellGlove 48 = .ok (.invokevirtual 166, 3) := by decide +kernel
theorem d_Teller_tellGlove_51 : decode b_Teller_tellGlove 51 = .ok (.return_, 1) := by decide +kernel
def X_Teller_tellGlove (n : Nat) (M : Mem) : Option (Unit × Mem) :=
  bd (X_Teller_takeNumber n 0 5 M) fun r1 M2 =>
  nm (fun (M3 : Mem) => nm (si M3 3 2 ((M3.1 3 2) ||| (1 <<< (r1 &&& 31)))) fun N4 =>
    nm (si N4 3 13 (if (N4.1 3 13) < r1 then r1 else (N4.1 3 13))) fun N5 =>
    bd (X_Teller_takeSign n N5) fun _ M7 =>
    some ((), M7)) fun k23 =>
  (if ((((M2.1 3 2).toUInt32 >>> (r1.toUInt32 &&& Int32.toUInt32 31)).toInt32) &&& 1) = 0 then
    k23 M2
    else
    bd (X_Teller_refuse n 4 M2) fun _ M9 =>
    k23 M9)
set_option maxRecDepth 20000 in
set_option maxHeartbeats 4000000 in
theorem C_Teller_tellGlove (n : Nat)    (M : Mem) : Ct y_Teller_tellGlove mt_Teller_tellGlove wU [Value.ref 3] M (X_Teller_tellGlove n M) := by
  refine ct_of (by decide +kernel) rfl (Nat.le_of_ble_eq_true rfl) ?_
  show J _ _ _ [(0, Value.ref 3)] _ _ _
  unfold X_Teller_tellGlove
  refine j_aload_n (pc := 0) (q := 0) d_Teller_tellGlove_0 rfl rfl ?_
  refine j_iconst (pc := 1) d_Teller_tellGlove_1 k_i_0 ?_
  refine j_iconst (pc := 2) d_Teller_tellGlove_2 k_i_5 ?_
  refine j_callV2 (pc := 3) d_Teller_tellGlove_3 (C_Teller_takeNumber n 0 5 M) cV_Teller_162 cd_Teller_takeNumber dn_Teller_takeNumber rfl (by decide) (Nat.le_of_ble_eq_true rfl) (Nat.le_of_ble_eq_true rfl) nr_I sx_3 (by decide) rfl (fun r1 M2 => ?_)
  refine j_istore_n (pc := 6) d_Teller_tellGlove_6 rfl (by decide) rfl ?_
  refine j_aload_n (pc := 7) (q := 1) d_Teller_tellGlove_7 rfl rfl ?_
  refine j_getI (pc := 8) d_Teller_tellGlove_8 fl_Teller_63 sx_3 (by decide) rfl ?_
  refine j_iload_n (pc := 11) (q := 0) d_Teller_tellGlove_11 rfl rfl ?_
  refine j_iushr (pc := 12) d_Teller_tellGlove_12 ?_
  refine j_iconst (pc := 13) d_Teller_tellGlove_13 k_i_1 ?_
  refine j_iand (pc := 14) d_Teller_tellGlove_14 ?_
  refine j_nmk (fun k => ∀ (M3 : Mem), J (mt_Teller_tellGlove) wU 23 [(0, Value.ref 3), (1, Value.int r1)] [] M3 (k M3)) (fun M3 => ?_) (fun k23 hk23 => ?_)
  · refine j_aload_n (pc := 23) (q := 0) d_Teller_tellGlove_23 rfl rfl ?_
    refine j_dup (pc := 24) d_Teller_tellGlove_24 rfl ?_
    refine j_getI (pc := 25) d_Teller_tellGlove_25 fl_Teller_63 sx_3 (by decide) rfl ?_
    refine j_iconst (pc := 28) d_Teller_tellGlove_28 k_i_1 ?_
    refine j_iload_n (pc := 29) (q := 1) d_Teller_tellGlove_29 rfl rfl ?_
    refine j_ishl (pc := 30) d_Teller_tellGlove_30 ?_
    refine j_ior (pc := 31) d_Teller_tellGlove_31 ?_
    refine j_putI (pc := 32) d_Teller_tellGlove_32 fl_Teller_63 rfl sx_3 (by decide) rfl ?_
    refine j_aload_n (pc := 35) (q := 0) d_Teller_tellGlove_35 rfl rfl ?_
    refine j_aload_n (pc := 36) (q := 0) d_Teller_tellGlove_36 rfl rfl ?_
    refine j_nmM (fun N4 => ?_)
    refine j_getI (pc := 37) d_Teller_tellGlove_37 fl_Teller_79 sx_3 (by decide) rfl ?_
    refine j_iload_n (pc := 40) (q := 1) d_Teller_tellGlove_40 rfl rfl ?_
    refine j_mmax (pc := 41) d_Teller_tellGlove_41 mw_Teller_169 ms_max mc_max (by decide) (Nat.le_of_ble_eq_true rfl) ?_
    refine j_putI (pc := 44) d_Teller_tellGlove_44 fl_Teller_79 rfl sx_3 (by decide) rfl ?_
    refine j_aload_n (pc := 47) (q := 0) d_Teller_tellGlove_47 rfl rfl ?_
    refine j_nmM (fun N5 => ?_)
    refine j_callV0 (pc := 48) d_Teller_tellGlove_48 (C_Teller_takeSign n N5) cV_Teller_166 cd_Teller_takeSign dn_Teller_takeSign rfl (by decide) (Nat.le_of_ble_eq_true rfl) (Nat.le_of_ble_eq_true rfl) nr_U sx_3 (by decide) rfl (fun r6 M7 => ?_)
    exact j_return (pc := 51) d_Teller_tellGlove_51 rfl
  · refine j_if_eq (pc := 15) (tgt := 23) d_Teller_tellGlove_15 (by decide) (fun _ => ?_) (fun _ => ?_)
    · refine j_lv [1, 0] rfl ?_
      exact hk23 M2
    · refine j_aload_n (pc := 18) (q := 1) d_Teller_tellGlove_18 rfl rfl ?_
      refine j_iconst (pc := 19) d_Teller_tellGlove_19 k_i_4 ?_
      refine j_callV1 (pc := 20) d_Teller_tellGlove_20 (C_Teller_refuse n 4 M2) cV_Teller_88 cd_Teller_refuse dn_Teller_refuse rfl (by decide) (Nat.le_of_ble_eq_true rfl) (Nat.le_of_ble_eq_true rfl) nr_U sx_3 (by decide) rfl (fun r8 M9 => ?_)
      refine j_lv [1, 0] rfl ?_
      exact hk23 M9
-- Teller.tellHold ()V
def mt_Teller_tellHold : Mt := ("ShakeHands$Teller", b_Teller_tellHold, 1, none, 5, SHx)
theorem d_Teller_tellHold_0 : decode b_Teller_tellHold 0 = .ok (.aload_n 0, 1) := by decide +kernel
theorem d_Teller_tellHold_1 : decode b_Teller_tellHold 1 = .ok (.getfield 73, 3) := by decide +kernel
theorem d_Teller_tellHold_4 : decode b_Teller_tellHold 4 = .ok (.ifCond .eq 8, 3) := by decide +kernel
theorem d_Teller_tellHold_7 : decode b_Teller_tellHold 7 = .ok (.aload_n 0, 1) := by decide +kernel
theorem d_Teller_tellHold_8 : decode b_Teller_tellHold 8 = .ok (.iconst 4, 1) := by decide +kernel
theorem d_Teller_tellHold_9 : decode b_Teller_tellHold 9 = .ok (.invokevirtual 88, 3) := by decide +kernel
theorem d_Teller_tellHold_12 : decode b_Teller_tellHold 12 = .ok (.aload_n 0, 1) := by decide +kernel
theorem d_Teller_tellHold_13 : decode b_Teller_tellHold 13 = .ok (.iconst 1, 1) := by decide +kernel
theorem d_Teller_tellHold_14 : decode b_Teller_tellHold 14 = .ok (.putfield 73, 3) := by decide +kernel
theorem d_Teller_tellHold_17 : decode b_Teller_tellHold 17 = .ok (.aload_n 0, 1) := by decide +kernel
theorem d_Teller_tellHold_18 : decode b_Teller_tellHold 18 = .ok (.getfield 12, 3) := by decide +kernel
theorem d_Teller_tellHold_21 : decode b_Teller_tellHold 21 = .ok (.aload_n 0, 1) := by decide +kernel
theorem d_Teller_tellHold_22 : decode b_Teller_tellHold 22 = .ok (.iconst 1, 1) := by decide +kernel
theorem d_Teller_tellHold_23 : decode b_Teller_tellHold 23 = .ok (.bipush 9, 2) := by decide +kernel
theorem d_Teller_tellHold_25 : decode b_Teller_tellHold 25 = .ok (.invokevirtual 162, 3) := by decide +kernel
theorem d_Teller_tellHold_28 : decode b_Teller_tellHold 28 = .ok (.putfield 92, 3) := by decide +kernel
theorem d_Teller_tellHold_31 : decode b_Teller_tellHold 31 = .ok (.aload_n 0, 1) := by decide +kernel
theorem d_Teller_tellHold_32 : decode b_Teller_tellHold 32 = .ok (.invokevirtual 166, 3) := by decide +kernel
theorem d_Teller_tellHold_35 : decode b_Teller_tellHold 35 = .ok (.return_, 1) := by decide +kernel
def X_Teller_tellHold (n : Nat) (M : Mem) : Option (Unit × Mem) :=
  nm (fun (M1 : Mem) => nm (si M1 3 11 1) fun N2 =>
    bd (X_Teller_takeNumber n 1 9 N2) fun r3 M4 =>
    nm (si M4 4 1 r3) fun N5 =>
    bd (X_Teller_takeSign n N5) fun _ M7 =>
    some ((), M7)) fun k12 =>
  (if (M.1 3 11) = 0 then
    k12 M
    else
    bd (X_Teller_refuse n 4 M) fun _ M9 =>
    k12 M9)
set_option maxRecDepth 20000 in
set_option maxHeartbeats 4000000 in
theorem C_Teller_tellHold (n : Nat)    (M : Mem) : Ct y_Teller_tellHold mt_Teller_tellHold wU [Value.ref 3] M (X_Teller_tellHold n M) := by
  refine ct_of (by decide +kernel) rfl (Nat.le_of_ble_eq_true rfl) ?_
  show J _ _ _ [(0, Value.ref 3)] _ _ _
  unfold X_Teller_tellHold
  refine j_aload_n (pc := 0) (q := 0) d_Teller_tellHold_0 rfl rfl ?_
  refine j_getI (pc := 1) d_Teller_tellHold_1 fl_Teller_73 sx_3 (by decide) rfl ?_
  refine j_nmk (fun k => ∀ (M1 : Mem), J (mt_Teller_tellHold) wU 12 [(0, Value.ref 3)] [] M1 (k M1)) (fun M1 => ?_) (fun k12 hk12 => ?_)
  · refine j_aload_n (pc := 12) (q := 0) d_Teller_tellHold_12 rfl rfl ?_
    refine j_iconst (pc := 13) d_Teller_tellHold_13 k_i_1 ?_
    refine j_putZ (pc := 14) d_Teller_tellHold_14 fl_Teller_73 rfl rfl sx_3 (by decide) rfl ?_
    refine j_aload_n (pc := 17) (q := 0) d_Teller_tellHold_17 rfl rfl ?_
    refine j_getA (pc := 18) d_Teller_tellHold_18 fl_Teller_12 sx_3 (by decide) rfl ?_
    refine j_aload_n (pc := 21) (q := 0) d_Teller_tellHold_21 rfl rfl ?_
    refine j_iconst (pc := 22) d_Teller_tellHold_22 k_i_1 ?_
    refine j_bipush (pc := 23) d_Teller_tellHold_23 k_b_9 ?_
    refine j_nmM (fun N2 => ?_)
    refine j_callV2 (pc := 25) d_Teller_tellHold_25 (C_Teller_takeNumber n 1 9 N2) cV_Teller_162 cd_Teller_takeNumber dn_Teller_takeNumber rfl (by decide) (Nat.le_of_ble_eq_true rfl) (Nat.le_of_ble_eq_true rfl) nr_I sx_3 (by decide) rfl (fun r3 M4 => ?_)
    refine j_putI (pc := 28) d_Teller_tellHold_28 fl_Teller_92 rfl sx_4 (by decide) rfl ?_
    refine j_aload_n (pc := 31) (q := 0) d_Teller_tellHold_31 rfl rfl ?_
    refine j_nmM (fun N5 => ?_)
    refine j_callV0 (pc := 32) d_Teller_tellHold_32 (C_Teller_takeSign n N5) cV_Teller_166 cd_Teller_takeSign dn_Teller_takeSign rfl (by decide) (Nat.le_of_ble_eq_true rfl) (Nat.le_of_ble_eq_true rfl) nr_U sx_3 (by decide) rfl (fun r6 M7 => ?_)
    exact j_return (pc := 35) d_Teller_tellHold_35 rfl
  · refine j_if_eq (pc := 4) (tgt := 12) d_Teller_tellHold_4 (by decide) (fun _ => ?_) (fun _ => ?_)
    · exact hk12 M
    · refine j_aload_n (pc := 7) (q := 0) d_Teller_tellHold_7 rfl rfl ?_
      refine j_iconst (pc := 8) d_Teller_tellHold_8 k_i_4 ?_
      refine j_callV1 (pc := 9) d_Teller_tellHold_9 (C_Teller_refuse n 4 M) cV_Teller_88 cd_Teller_refuse dn_Teller_refuse rfl (by decide) (Nat.le_of_ble_eq_true rfl) (Nat.le_of_ble_eq_true rfl) nr_U sx_3 (by decide) rfl (fun r8 M9 => ?_)
      exact hk12 M9
-- Teller.tellJoin ()V
def mt_Teller_tellJoin : Mt := ("ShakeHands$Teller", b_Teller_tellJoin, 5, none, 5, SHx)
theorem d_Teller_tellJoin_0 : decode b_Teller_tellJoin 0 = .ok (.aload_n 0, 1) := by decide +kernel
theorem d_Teller_tellJoin_1 : decode b_Teller_tellJoin 1 = .ok (.getfield 12, 3) := by decide +kernel
theorem d_Teller_tellJoin_4 : decode b_Teller_tellJoin 4 = .ok (.getfield 200, 3) := by decide +kernel
theorem d_Teller_tellJoin_7 : decode b_Teller_tellJoin 7 = .ok (.iconst 4, 1) := by decide +kernel
theorem d_Teller_tellJoin_8 : decode b_Teller_tellJoin 8 = .ok (.if_icmp .lt 9, 3) := by decide +kernel
theorem d_Teller_tellJoin_11 : decode b_Teller_tellJoin 11 = .ok (.aload_n 0, 1) := by decide +kernel
theorem d_Teller_tellJoin_12 : decode b_Teller_tellJoin 12 = .ok (.iconst 5, 1) := by decide +kernel
theorem d_Teller_tellJoin_13 : decode b_Teller_tellJoin 13 = .ok (.invokevirtual 88, 3) := by decide +kernel
theorem d_Teller_tellJoin_16 : decode b_Teller_tellJoin 16 = .ok (.return_, 1) := by decide +kernel
theorem d_Teller_tellJoin_17 : decode b_Teller_tellJoin 17 = .ok (.aload_n 0, 1) := by decide +kernel
theorem d_Teller_tellJoin_18 : decode b_Teller_tellJoin 18 = .ok (.iconst 0, 1) := by decide +kernel
theorem d_Teller_tellJoin_19 : decode b_Teller_tellJoin 19 = .ok (.bipush 15, 2) := by decide +kernel
theorem d_Teller_tellJoin_21 : decode b_Teller_tellJoin 21 = .ok (.invokevirtual 162, 3) := by decide +kernel
theorem d_Teller_tellJoin_24 : decode b_Teller_tellJoin 24 = .ok (.istore_n 1, 1) := by decide +kernel
theorem d_Teller_tellJoin_25 : decode b_Teller_tellJoin 25 = .ok (.aload_n 0, 1) := by decide +kernel
theorem d_Teller_tellJoin_26 : decode b_Teller_tellJoin 26 = .ok (.iconst 0, 1) := by decide +kernel
theorem d_Teller_tellJoin_27 : decode b_Teller_tellJoin 27 = .ok (.bipush 15, 2) := by decide +kernel
theorem d_Teller_tellJoin_29 : decode b_Teller_tellJoin 29 = .ok (.invokevirtual 162, 3) := by decide +kernel
theorem d_Teller_tellJoin_32 : decode b_Teller_tellJoin 32 = .ok (.istore_n 2, 1) := by decide +kernel
theorem d_Teller_tellJoin_33 : decode b_Teller_tellJoin 33 = .ok (.iload_n 2, 1) := by decide +kernel
theorem d_Teller_tellJoin_34 : decode b_Teller_tellJoin 34 = .ok (.iload_n 1, 1) := by decide +kernel
theorem d_Teller_tellJoin_35 : decode b_Teller_tellJoin 35 = .ok (.if_icmp .ne 8, 3) := by decide +kernel
theorem d_Teller_tellJoin_38 : decode b_Teller_tellJoin 38 = .ok (.aload_n 0, 1) := by decide +kernel
theorem d_Teller_tellJoin_39 : decode b_Teller_tellJoin 39 = .ok (.iconst 4, 1) := by decide +kernel
theorem d_Teller_tellJoin_40 : decode b_Teller_tellJoin 40 = .ok (.invokevirtual 88, 3) := by decide +kernel
theorem d_Teller_tellJoin_43 : decode b_Teller_tellJoin 43 = .ok (.aload_n 0, 1) := by decide +kernel
theorem d_Teller_tellJoin_44 : decode b_Teller_tellJoin 44 = .ok (.iconst 0, 1) := by decide +kernel
theorem d_Teller_tellJoin_45 : decode b_Teller_tellJoin 45 = .ok (.bipush 15, 2) := by decide +kernel
theorem d_Teller_tellJoin_47 : decode b_Teller_tellJoin 47 = .ok (.invokevirtual 162, 3) := by decide +kernel
theorem d_Teller_tellJoin_50 : decode b_Teller_tellJoin 50 = .ok (.istore_n 3, 1) := by decide +kernel
theorem d_Teller_tellJoin_51 : decode b_Teller_tellJoin 51 = .ok (.iload_n 3, 1) := by decide +kernel
theorem d_Teller_tellJoin_52 : decode b_Teller_tellJoin 52 = .ok (.iload_n 1, 1) := by decide +kernel
theorem d_Teller_tellJoin_53 : decode b_Teller_tellJoin 53 = .ok (.if_icmp .eq 8, 3) := by decide +kernel
theorem d_Teller_tellJoin_56 : decode b_Teller_tellJoin 56 = .ok (.iload_n 3, 1) := by decide +kernel
theorem d_Teller_tellJoin_57 : decode b_Teller_tellJoin 57 = .ok (.iload_n 2, 1) := by decide +kernel
theorem d_Teller_tellJoin_58 : decode b_Teller_tellJoin 58 = .ok (.if_icmp .ne 8, 3) := by decide +kernel
theorem d_Teller_tellJoin_61 : decode b_Teller_tellJoin 61 = .ok (.aload_n 0, 1) := by decide +kernel
theorem d_Teller_tellJoin_62 : decode b_Teller_tellJoin 62 = .ok (.iconst 4, 1) := by decide +kernel
theorem d_Teller_tellJoin_63 : decode b_Teller_tellJoin 63 = .ok (.invokevirtual 88, 3) := by decide +kernel
theorem d_Teller_tellJoin_66 : decode b_Teller_tellJoin 66 = .ok (.aload_n 0, 1) := by decide +kernel
theorem d_Teller_tellJoin_67 : decode b_Teller_tellJoin 67 = .ok (.invokevirtual 166, 3) := by decide +kernel
theorem d_Teller_tellJoin_70 : decode b_Teller_tellJoin 70 = .ok (.iconst 3, 1) := by decide +kernel
theorem d_Teller_tellJoin_71 : decode b_Teller_tellJoin 71 = .ok (.aload_n 0, 1) := by decide +kernel
theorem d_Teller_tellJoin_72 : decode b_Teller_tellJoin 72 = .ok (.getfield 12, 3) := by decide +kernel
theorem d_Teller_tellJoin_75 : decode b_Teller_tellJoin 75 = .ok (.getfield 200, 3) := by decide +kernel
theorem d_Teller_tellJoin_78 : decode b_Teller_tellJoin 78 = .ok (.imul, 1) := by decide +kernel
theorem d_Teller_tellJoin_79 : decode b_Teller_tellJoin 79 = .ok (.istore 4, 2) := by decide +kernel
theorem d_Teller_tellJoin_81 : decode b_Teller_tellJoin 81 = .ok (.aload_n 0, 1) := by decide +kernel
theorem d_Teller_tellJoin_82 : decode b_Teller_tellJoin 82 = .ok (.getfield 12, 3) := by decide +kernel
theorem d_Teller_tellJoin_85 : decode b_Teller_tellJoin 85 = .ok (.getfield 203, 3) := by decide +kernel
theorem d_Teller_tellJoin_88 : decode b_Teller_tellJoin 88 = .ok (.iload 4, 2) := by decide +kernel
theorem d_Teller_tellJoin_90 : decode b_Teller_tellJoin 90 = .ok (.iload_n 1, 1) := by decide +kernel
theorem d_Teller_tellJoin_91 : decode b_Teller_tellJoin 91 = .ok (.iastore, 1) := by decide +kernel
theorem d_Teller_tellJoin_92 : decode b_Teller_tellJoin 92 = .ok (.aload_n 0, 1) := by decide +kernel
theorem d_Teller_tellJoin_93 : decode b_Teller_tellJoin 93 = .ok (.getfield 12, 3) := by decide +kernel
theorem d_Teller_tellJoin_96 : decode b_Teller_tellJoin 96 = .ok (.getfield 203, 3) := by decide +kernel
theorem d_Teller_tellJoin_99 : decode b_Teller_tellJoin 99 = .ok (.iload 4, 2) := by decide +kernel
theorem d_Teller_tellJoin_101 : decode b_Teller_tellJoin 101 = .ok (.iconst 1, 1) := by decide +kernel
theorem d_Teller_tellJoin_102 : decode b_Teller_tellJoin 102 = .ok (.iadd, 1) := by decide +kernel
theorem d_Teller_tellJoin_103 : decode b_Teller_tellJoin 103 = .ok (.iload_n 2, 1) := by decide +kernel
theorem d_Teller_tellJoin_104 : decode b_Teller_tellJoin 104 = .ok (.iastore, 1) := by decide +kernel
theorem d_Teller_tellJoin_105 : decode b_Teller_tellJoin 105 = .ok (.aload_n 0, 1) := by decide +kernel
theorem d_Teller_tellJoin_106 : decode b_Teller_tellJoin 106 = .ok (.getfield 12, 3) := by decide +kernel
theorem d_Teller_tellJoin_109 : decode b_Teller_tellJoin 109 = .ok (.getfield 203, 3) := by decide +kernel
theorem d_Teller_tellJoin_112 : decode b_Teller_tellJoin 112 = .ok (.iload 4, 2) := by decide +kernel
theorem d_Teller_tellJoin_114 : decode b_Teller_tellJoin 114 = .ok (.iconst 2, 1) := by decide +kernel
theorem d_Teller_tellJoin_115 : decode b_Teller_tellJoin 115 = .ok (.iadd, 1) := by decide +kernel
theorem d_Teller_tellJoin_116 : decode b_Teller_tellJoin 116 = .ok (.iload_n 3, 1) := by decide +kernel
theorem d_Teller_tellJoin_117 : decode b_Teller_tellJoin 117 = .ok (.iastore, 1) := by decide +kernel
theorem d_Teller_tellJoin_118 : decode b_Teller_tellJoin 118 = .ok (.aload_n 0, 1) := by decide +kernel
theorem d_Teller_tellJoin_119 : decode b_Teller_tellJoin 119 = .ok (.getfield 12, 3) := by decide +kernel
theorem d_Teller_tellJoin_122 : decode b_Teller_tellJoin 122 = .ok (.dup, 1) := by decide +kernel
theorem d_Teller_tellJoin_123 : decode b_Teller_tellJoin 123 = .ok (.getfield 200, 3) := by decide +kernel
theorem d_Teller_tellJoin_126 : decode b_Teller_tellJoin 126 = .ok (.iconst 1, 1) := by decide +kernel
theorem d_Teller_tellJoin_127 : decode b_Teller_tellJoin 127 = .ok (.iadd, 1) := by decide +kernel
theorem d_Teller_tellJoin_128 : decode b_Teller_tellJoin 128 = .ok (.putfield 200, 3) := by decide +kernel
theorem d_Teller_tellJoin_131 : decode b_Teller_tellJoin 131 = .ok (.return_, 1) := by decide +kernel
def X_Teller_tellJoin (n : Nat) (M : Mem) : Option (Unit × Mem) :=
  (if (M.1 4 3) < 4 then
    bd (X_Teller_takeNumber n 0 15 M) fun r1 M2 =>
    bd (X_Teller_takeNumber n 0 15 M2) fun r3 M4 =>
    nm (fun (M5 : Mem) => bd (X_Teller_takeNumber n 0 15 M5) fun r6 M7 =>
      nm (fun (M8 : Mem) => bd (X_Teller_takeSign n M8) fun _ M10 =>
        nm (3 * (M10.1 4 3)) fun x11 =>
        gd x11 12 (
          gd (x11 + 1) 12 (
            gd (x11 + 2) 12 (
              nm (si (si (si M10 5 (x11.toNatClampNeg) r1) 5 ((x11 + 1).toNatClampNeg) r3) 5 ((x11 + 2).toNatClampNeg) r6) fun N12 =>
              some ((), si N12 4 3 ((N12.1 4 3) + 1)))))) fun k66 =>
      nm (bd (X_Teller_refuse n 4 M7) fun _ M14 =>
        k66 M14) fun k61 =>
      (if r6 = r1 then
        k61
        else
        (if r6 = r3 then
          k61
          else
          k66 M7))) fun k43 =>
    (if r3 = r1 then
      bd (X_Teller_refuse n 4 M4) fun _ M16 =>
      k43 M16
      else
      k43 M4)
    else
    bd (X_Teller_refuse n 5 M) fun _ M18 =>
    some ((), M18))
set_option maxRecDepth 20000 in
set_option maxHeartbeats 4000000 in
theorem C_Teller_tellJoin (n : Nat)    (M : Mem) : Ct y_Teller_tellJoin mt_Teller_tellJoin wU [Value.ref 3] M (X_Teller_tellJoin n M) := by
  refine ct_of (by decide +kernel) rfl (Nat.le_of_ble_eq_true rfl) ?_
  show J _ _ _ [(0, Value.ref 3)] _ _ _
  unfold X_Teller_tellJoin
  refine j_aload_n (pc := 0) (q := 0) d_Teller_tellJoin_0 rfl rfl ?_
  refine j_getA (pc := 1) d_Teller_tellJoin_1 fl_Teller_12 sx_3 (by decide) rfl ?_
  refine j_getI (pc := 4) d_Teller_tellJoin_4 fl_Teller_200 sx_4 (by decide) rfl ?_
  refine j_iconst (pc := 7) d_Teller_tellJoin_7 k_i_4 ?_
  refine j_icmp_lt (pc := 8) (tgt := 17) d_Teller_tellJoin_8 (by decide) (fun _ => ?_) (fun _ => ?_)
  · refine j_aload_n (pc := 17) (q := 0) d_Teller_tellJoin_17 rfl rfl ?_
    refine j_iconst (pc := 18) d_Teller_tellJoin_18 k_i_0 ?_
    refine j_bipush (pc := 19) d_Teller_tellJoin_19 k_b_15 ?_
    refine j_callV2 (pc := 21) d_Teller_tellJoin_21 (C_Teller_takeNumber n 0 15 M) cV_Teller_162 cd_Teller_takeNumber dn_Teller_takeNumber rfl (by decide) (Nat.le_of_ble_eq_true rfl) (Nat.le_of_ble_eq_true rfl) nr_I sx_3 (by decide) rfl (fun r1 M2 => ?_)
    refine j_istore_n (pc := 24) d_Teller_tellJoin_24 rfl (by decide) rfl ?_
    refine j_aload_n (pc := 25) (q := 1) d_Teller_tellJoin_25 rfl rfl ?_
    refine j_iconst (pc := 26) d_Teller_tellJoin_26 k_i_0 ?_
    refine j_bipush (pc := 27) d_Teller_tellJoin_27 k_b_15 ?_
    refine j_callV2 (pc := 29) d_Teller_tellJoin_29 (C_Teller_takeNumber n 0 15 M2) cV_Teller_162 cd_Teller_takeNumber dn_Teller_takeNumber rfl (by decide) (Nat.le_of_ble_eq_true rfl) (Nat.le_of_ble_eq_true rfl) nr_I sx_3 (by decide) rfl (fun r3 M4 => ?_)
    refine j_istore_n (pc := 32) d_Teller_tellJoin_32 rfl (by decide) rfl ?_
    refine j_iload_n (pc := 33) (q := 0) d_Teller_tellJoin_33 rfl rfl ?_
    refine j_iload_n (pc := 34) (q := 1) d_Teller_tellJoin_34 rfl rfl ?_
    refine j_nmk (fun k => ∀ (M5 : Mem), J (mt_Teller_tellJoin) wU 43 [(0, Value.ref 3), (1, Value.int r1), (2, Value.int r3)] [] M5 (k M5)) (fun M5 => ?_) (fun k43 hk43 => ?_)
    · refine j_aload_n (pc := 43) (q := 0) d_Teller_tellJoin_43 rfl rfl ?_
      refine j_iconst (pc := 44) d_Teller_tellJoin_44 k_i_0 ?_
      refine j_bipush (pc := 45) d_Teller_tellJoin_45 k_b_15 ?_
      refine j_callV2 (pc := 47) d_Teller_tellJoin_47 (C_Teller_takeNumber n 0 15 M5) cV_Teller_162 cd_Teller_takeNumber dn_Teller_takeNumber rfl (by decide) (Nat.le_of_ble_eq_true rfl) (Nat.le_of_ble_eq_true rfl) nr_I sx_3 (by decide) rfl (fun r6 M7 => ?_)
      refine j_istore_n (pc := 50) d_Teller_tellJoin_50 rfl (by decide) rfl ?_
      refine j_iload_n (pc := 51) (q := 0) d_Teller_tellJoin_51 rfl rfl ?_
      refine j_iload_n (pc := 52) (q := 2) d_Teller_tellJoin_52 rfl rfl ?_
      refine j_nmk (fun k => ∀ (M8 : Mem), J (mt_Teller_tellJoin) wU 66 [(0, Value.ref 3), (1, Value.int r1), (2, Value.int r3), (3, Value.int r6)] [] M8 (k M8)) (fun M8 => ?_) (fun k66 hk66 => ?_)
      · refine j_aload_n (pc := 66) (q := 0) d_Teller_tellJoin_66 rfl rfl ?_
        refine j_callV0 (pc := 67) d_Teller_tellJoin_67 (C_Teller_takeSign n M8) cV_Teller_166 cd_Teller_takeSign dn_Teller_takeSign rfl (by decide) (Nat.le_of_ble_eq_true rfl) (Nat.le_of_ble_eq_true rfl) nr_U sx_3 (by decide) rfl (fun r9 M10 => ?_)
        refine j_iconst (pc := 70) d_Teller_tellJoin_70 k_i_3 ?_
        refine j_aload_n (pc := 71) (q := 0) d_Teller_tellJoin_71 rfl rfl ?_
        refine j_getA (pc := 72) d_Teller_tellJoin_72 fl_Teller_12 sx_3 (by decide) rfl ?_
        refine j_getI (pc := 75) d_Teller_tellJoin_75 fl_Teller_200 sx_4 (by decide) rfl ?_
        refine j_imul (pc := 78) d_Teller_tellJoin_78 ?_
        refine j_nmi (fun x11 => ?_)
        refine j_istore (pc := 79) d_Teller_tellJoin_79 (by decide) rfl ?_
        refine j_aload_n (pc := 81) (q := 1) d_Teller_tellJoin_81 rfl rfl ?_
        refine j_getA (pc := 82) d_Teller_tellJoin_82 fl_Teller_12 sx_3 (by decide) rfl ?_
        refine j_getA (pc := 85) d_Teller_tellJoin_85 fl_Teller_203 sx_4 (by decide) rfl ?_
        refine j_iload (pc := 88) (q := 0) d_Teller_tellJoin_88 rfl ?_
        refine j_iload_n (pc := 90) (q := 2) d_Teller_tellJoin_90 rfl rfl ?_
        refine j_iast (pc := 91) d_Teller_tellJoin_91 sx_5 (fun _ => ?_)
        refine j_aload_n (pc := 92) (q := 1) d_Teller_tellJoin_92 rfl rfl ?_
        refine j_getA (pc := 93) d_Teller_tellJoin_93 fl_Teller_12 sx_3 (by decide) rfl ?_
        refine j_getA (pc := 96) d_Teller_tellJoin_96 fl_Teller_203 sx_4 (by decide) rfl ?_
        refine j_iload (pc := 99) (q := 0) d_Teller_tellJoin_99 rfl ?_
        refine j_iconst (pc := 101) d_Teller_tellJoin_101 k_i_1 ?_
        refine j_iadd (pc := 102) d_Teller_tellJoin_102 ?_
        refine j_iload_n (pc := 103) (q := 3) d_Teller_tellJoin_103 rfl rfl ?_
        refine j_iast (pc := 104) d_Teller_tellJoin_104 sx_5 (fun _ => ?_)
        refine j_aload_n (pc := 105) (q := 1) d_Teller_tellJoin_105 rfl rfl ?_
        refine j_getA (pc := 106) d_Teller_tellJoin_106 fl_Teller_12 sx_3 (by decide) rfl ?_
        refine j_getA (pc := 109) d_Teller_tellJoin_109 fl_Teller_203 sx_4 (by decide) rfl ?_
        refine j_iload (pc := 112) (q := 0) d_Teller_tellJoin_112 rfl ?_
        refine j_iconst (pc := 114) d_Teller_tellJoin_114 k_i_2 ?_
        refine j_iadd (pc := 115) d_Teller_tellJoin_115 ?_
        refine j_iload_n (pc := 116) (q := 4) d_Teller_tellJoin_116 rfl rfl ?_
        refine j_iast (pc := 117) d_Teller_tellJoin_117 sx_5 (fun _ => ?_)
        refine j_aload_n (pc := 118) (q := 1) d_Teller_tellJoin_118 rfl rfl ?_
        refine j_getA (pc := 119) d_Teller_tellJoin_119 fl_Teller_12 sx_3 (by decide) rfl ?_
        refine j_dup (pc := 122) d_Teller_tellJoin_122 rfl ?_
        refine j_nmM (fun N12 => ?_)
        refine j_getI (pc := 123) d_Teller_tellJoin_123 fl_Teller_200 sx_4 (by decide) rfl ?_
        refine j_iconst (pc := 126) d_Teller_tellJoin_126 k_i_1 ?_
        refine j_iadd (pc := 127) d_Teller_tellJoin_127 ?_
        refine j_putI (pc := 128) d_Teller_tellJoin_128 fl_Teller_200 rfl sx_4 (by decide) rfl ?_
        exact j_return (pc := 131) d_Teller_tellJoin_131 rfl
      · refine j_nmk (fun k => J (mt_Teller_tellJoin) wU 61 [(0, Value.ref 3), (1, Value.int r1), (2, Value.int r3), (3, Value.int r6)] [] M7 k) (?_) (fun k61 hk61 => ?_)
        · refine j_aload_n (pc := 61) (q := 0) d_Teller_tellJoin_61 rfl rfl ?_
          refine j_iconst (pc := 62) d_Teller_tellJoin_62 k_i_4 ?_
          refine j_callV1 (pc := 63) d_Teller_tellJoin_63 (C_Teller_refuse n 4 M7) cV_Teller_88 cd_Teller_refuse dn_Teller_refuse rfl (by decide) (Nat.le_of_ble_eq_true rfl) (Nat.le_of_ble_eq_true rfl) nr_U sx_3 (by decide) rfl (fun r13 M14 => ?_)
          exact hk66 M14
        · refine j_icmp_eq (pc := 53) (tgt := 61) d_Teller_tellJoin_53 (by decide) (fun _ => ?_) (fun _ => ?_)
          · refine j_lv [1, 2, 3, 0] rfl ?_
            exact hk61
          · refine j_iload_n (pc := 56) (q := 0) d_Teller_tellJoin_56 rfl rfl ?_
            refine j_iload_n (pc := 57) (q := 3) d_Teller_tellJoin_57 rfl rfl ?_
            refine j_icmp_ne (pc := 58) (tgt := 66) d_Teller_tellJoin_58 (by decide) (fun _ => ?_) (fun _ => ?_)
            · refine j_lv [1, 2, 3, 0] rfl ?_
              exact hk66 M7
            · refine j_lv [1, 2, 3, 0] rfl ?_
              exact hk61
    · refine j_icmp_ne (pc := 35) (tgt := 43) d_Teller_tellJoin_35 (by decide) (fun _ => ?_) (fun _ => ?_)
      · refine j_lv [2, 1, 0] rfl ?_
        exact hk43 M4
      · refine j_aload_n (pc := 38) (q := 2) d_Teller_tellJoin_38 rfl rfl ?_
        refine j_iconst (pc := 39) d_Teller_tellJoin_39 k_i_4 ?_
        refine j_callV1 (pc := 40) d_Teller_tellJoin_40 (C_Teller_refuse n 4 M4) cV_Teller_88 cd_Teller_refuse dn_Teller_refuse rfl (by decide) (Nat.le_of_ble_eq_true rfl) (Nat.le_of_ble_eq_true rfl) nr_U sx_3 (by decide) rfl (fun r15 M16 => ?_)
        refine j_lv [2, 1, 0] rfl ?_
        exact hk43 M16
  · refine j_aload_n (pc := 11) (q := 0) d_Teller_tellJoin_11 rfl rfl ?_
    refine j_iconst (pc := 12) d_Teller_tellJoin_12 k_i_5 ?_
    refine j_callV1 (pc := 13) d_Teller_tellJoin_13 (C_Teller_refuse n 5 M) cV_Teller_88 cd_Teller_refuse dn_Teller_refuse rfl (by decide) (Nat.le_of_ble_eq_true rfl) (Nat.le_of_ble_eq_true rfl) nr_U sx_3 (by decide) rfl (fun r17 M18 => ?_)
    exact j_return (pc := 16) d_Teller_tellJoin_16 rfl
-- Teller.tellPair ([II)I
def mt_Teller_tellPair : Mt := ("ShakeHands$Teller", b_Teller_tellPair, 5, some .int, 5, SHx)
theorem d_Teller_tellPair_0 : decode b_Teller_tellPair 0 = .ok (.iload_n 2, 1) := by decide +kernel
theorem d_Teller_tellPair_1 : decode b_Teller_tellPair 1 = .ok (.aload_n 1, 1) := by decide +kernel
theorem d_Teller_tellPair_2 : decode b_Teller_tellPair 2 = .ok (.arraylength, 1) := by decide +kernel
theorem d_Teller_tellPair_3 : decode b_Teller_tellPair 3 = .ok (.if_icmp .lt 10, 3) := by decide +kernel
theorem d_Teller_tellPair_6 : decode b_Teller_tellPair 6 = .ok (.aload_n 0, 1) := by decide +kernel
theorem d_Teller_tellPair_7 : decode b_Teller_tellPair 7 = .ok (.iconst 5, 1) := by decide +kernel
theorem d_Teller_tellPair_8 : decode b_Teller_tellPair 8 = .ok (.invokevirtual 88, 3) := by decide +kernel
theorem d_Teller_tellPair_11 : decode b_Teller_tellPair 11 = .ok (.iload_n 2, 1) := by decide +kernel
theorem d_Teller_tellPair_12 : decode b_Teller_tellPair 12 = .ok (.ireturn, 1) := by decide +kernel
theorem d_Teller_tellPair_13 : decode b_Teller_tellPair 13 = .ok (.aload_n 0, 1) := by decide +kernel
theorem d_Teller_tellPair_14 : decode b_Teller_tellPair 14 = .ok (.iconst 0, 1) := by decide +kernel
theorem d_Teller_tellPair_15 : decode b_Teller_tellPair 15 = .ok (.iconst 5, 1) := by decide +kernel
theorem d_Teller_tellPair_16 : decode b_Teller_tellPair 16 = .ok (.invokevirtual 162, 3) := by decide +kernel
theorem d_Teller_tellPair_19 : decode b_Teller_tellPair 19 = .ok (.istore_n 3, 1) := by decide +kernel
theorem d_Teller_tellPair_20 : decode b_Teller_tellPair 20 = .ok (.aload_n 0, 1) := by decide +kernel
theorem d_Teller_tellPair_21 : decode b_Teller_tellPair 21 = .ok (.iconst 0, 1) := by decide +kernel
theorem d_Teller_tellPair_22 : decode b_Teller_tellPair 22 = .ok (.iconst 5, 1) := by decide +kernel
theorem d_Teller_tellPair_23 : decode b_Teller_tellPair 23 = .ok (.invokevirtual 162, 3) := by decide +kernel
theorem d_Teller_tellPair_26 : decode b_Teller_tellPair 26 = .ok (.istore 4, 2) := by decide +kernel
theorem d_Teller_tellPair_28 : decode b_Teller_tellPair 28 = .ok (.iload 4, 2) := by decide +kernel
theorem d_Teller_tellPair_30 : decode b_Teller_tellPair 30 = .ok (.iload_n 3, 1) := by decide +kernel
theorem d_Teller_tellPair_31 : decode b_Teller_tellPair 31 = .ok (.if_icmp .ne 8, 3) := by decide +kernel
theorem d_Teller_tellPair_34 : decode b_Teller_tellPair 34 = .ok (.aload_n 0, 1) := by decide +kernel
theorem d_Teller_tellPair_35 : decode b_Teller_tellPair 35 = .ok (.iconst 4, 1) := by decide +kernel
theorem d_Teller_tellPair_36 : decode b_Teller_tellPair 36 = .ok (.invokevirtual 88, 3) := by decide +kernel
theorem d_Teller_tellPair_39 : decode b_Teller_tellPair 39 = .ok (.aload_n 0, 1) := by decide +kernel
theorem d_Teller_tellPair_40 : decode b_Teller_tellPair 40 = .ok (.aload_n 0, 1) := by decide +kernel
theorem d_Teller_tellPair_41 : decode b_Teller_tellPair 41 = .ok (.getfield 79, 3) := by decide +kernel
theorem d_Teller_tellPair_44 : decode b_Teller_tellPair 44 = .ok (.iload_n 3, 1) := by decide +kernel
theorem d_Teller_tellPair_45 : decode b_Teller_tellPair 45 = .ok (.iload 4, 2) := by decide +kernel
theorem d_Teller_tellPair_47 : decode b_Teller_tellPair 47 = .ok (.invokestatic 169, 3) := by decide +kernel
theorem d_Teller_tellPair_50 : decode b_Teller_tellPair 50 = .ok (.invokestatic 169, 3) := by decide +kernel
theorem d_Teller_tellPair_53 : decode b_Teller_tellPair 53 = .ok (.putfield 79, 3) := by decide +kernel
theorem d_Teller_tellPair_56 : decode b_Teller_tellPair 56 = .ok (.aload_n 0, 1) := by decide +kernel
theorem d_Teller_tellPair_57 : decode b_Teller_tellPair 57 = .ok (.invokevirtual 166, 3) := by decide +kernel
theorem d_Teller_tellPair_60 : decode b_Teller_tellPair 60 = .ok (.aload_n 1, 1) := by decide +kernel
theorem d_Teller_tellPair_61 : decode b_Teller_tellPair 61 = .ok (.iload_n 2, 1) := by decide +kernel
theorem d_Teller_tellPair_62 : decode b_Teller_tellPair 62 = .ok (.aload_n 0, 1) := by decide +kernel
theorem d_Teller_tellPair_63 : decode b_Teller_tellPair 63 = .ok (.getfield 45, 3) := by decide +kernel
theorem d_Teller_tellPair_66 : decode b_Teller_tellPair 66 = .ok (.ifCond .ne 12, 3) := by decide +kernel
theorem d_Teller_tellPair_69 : decode b_Teller_tellPair 69 = .ok (.iload_n 3, 1) := by decide +kernel
theorem d_Teller_tellPair_70 : decode b_Teller_tellPair 70 = .ok (.iload 4, 2) := by decide +kernel
theorem d_Teller_tellPair_72 : decode b_Teller_tellPair 72 = .ok (.invokestatic 206, 3) := by decide +kernel
theorem d_Teller_tellPair_75 : decode b_Teller_tellPair 75 = .ok (.goto 4, 3) := by decide +kernel
theorem d_Teller_tellPair_78 : decode b_Teller_tellPair 78 = .ok (.iconst 0, 1) := by decide +kernel
theorem d_Teller_tellPair_79 : decode b_Teller_tellPair 79 = .ok (.iastore, 1) := by decide +kernel
theorem d_Teller_tellPair_80 : decode b_Teller_tellPair 80 = .ok (.iload_n 2, 1) := by decide +kernel
theorem d_Teller_tellPair_81 : decode b_Teller_tellPair 81 = .ok (.iconst 1, 1) := by decide +kernel
theorem d_Teller_tellPair_82 : decode b_Teller_tellPair 82 = .ok (.iadd, 1) := by decide +kernel
theorem d_Teller_tellPair_83 : decode b_Teller_tellPair 83 = .ok (.ireturn, 1) := by decide +kernel
def X_Teller_tellPair (n : Nat) (list ln : Nat) (p2 : Int32) (M : Mem) : Option (Int32 × Mem) :=
  (if p2 < (nI ln) then
    bd (X_Teller_takeNumber n 0 5 M) fun r1 M2 =>
    bd (X_Teller_takeNumber n 0 5 M2) fun r3 M4 =>
    nm (fun (M5 : Mem) => nm (si M5 3 13 (if (M5.1 3 13) < (if r1 < r3 then r3 else r1) then (if r1 < r3 then r3 else r1) else (M5.1 3 13))) fun N6 =>
      bd (X_Teller_takeSign n N6) fun _ M8 =>
      nm (fun (u9 : Int32) (M10 : Mem) => gd p2 ln (
          some ((p2 + 1), si M10 list (p2.toNatClampNeg) u9))) fun k79 =>
      (if (M8.1 3 3) = 0 then
        bd (X_ShakeHands_pairOf n r1 r3 M8) fun r11 M12 =>
        k79 r11 M12
        else
        k79 0 M8)) fun k39 =>
    (if r3 = r1 then
      bd (X_Teller_refuse n 4 M4) fun _ M14 =>
      k39 M14
      else
      k39 M4)
    else
    bd (X_Teller_refuse n 5 M) fun _ M16 =>
    some (p2, M16))
set_option maxRecDepth 20000 in
set_option maxHeartbeats 4000000 in
theorem C_Teller_tellPair (n : Nat) (list ln : Nat) (h_list : SHx[list]? = some (100, [ln])) (p2 : Int32) (M : Mem) : Ct y_Teller_tellPair mt_Teller_tellPair wI [Value.ref 3, Value.ref list, Value.int p2] M (X_Teller_tellPair n list ln p2 M) := by
  refine ct_of (by decide +kernel) rfl (Nat.le_of_ble_eq_true rfl) ?_
  show J _ _ _ [(0, Value.ref 3), (1, Value.ref list), (2, Value.int p2)] _ _ _
  unfold X_Teller_tellPair
  refine j_iload_n (pc := 0) (q := 2) d_Teller_tellPair_0 rfl rfl ?_
  refine j_aload_n (pc := 1) (q := 1) d_Teller_tellPair_1 rfl rfl ?_
  refine j_alen (pc := 2) (t := 0) d_Teller_tellPair_2 h_list (by decide) ?_
  refine j_icmp_lt (pc := 3) (tgt := 13) d_Teller_tellPair_3 (by decide) (fun _ => ?_) (fun _ => ?_)
  · refine j_aload_n (pc := 13) (q := 0) d_Teller_tellPair_13 rfl rfl ?_
    refine j_iconst (pc := 14) d_Teller_tellPair_14 k_i_0 ?_
    refine j_iconst (pc := 15) d_Teller_tellPair_15 k_i_5 ?_
    refine j_callV2 (pc := 16) d_Teller_tellPair_16 (C_Teller_takeNumber n 0 5 M) cV_Teller_162 cd_Teller_takeNumber dn_Teller_takeNumber rfl (by decide) (Nat.le_of_ble_eq_true rfl) (Nat.le_of_ble_eq_true rfl) nr_I sx_3 (by decide) rfl (fun r1 M2 => ?_)
    refine j_istore_n (pc := 19) d_Teller_tellPair_19 rfl (by decide) rfl ?_
    refine j_aload_n (pc := 20) (q := 1) d_Teller_tellPair_20 rfl rfl ?_
    refine j_iconst (pc := 21) d_Teller_tellPair_21 k_i_0 ?_
    refine j_iconst (pc := 22) d_Teller_tellPair_22 k_i_5 ?_
    refine j_callV2 (pc := 23) d_Teller_tellPair_23 (C_Teller_takeNumber n 0 5 M2) cV_Teller_162 cd_Teller_takeNumber dn_Teller_takeNumber rfl (by decide) (Nat.le_of_ble_eq_true rfl) (Nat.le_of_ble_eq_true rfl) nr_I sx_3 (by decide) rfl (fun r3 M4 => ?_)
    refine j_istore (pc := 26) d_Teller_tellPair_26 (by decide) rfl ?_
    refine j_iload (pc := 28) (q := 0) d_Teller_tellPair_28 rfl ?_
    refine j_iload_n (pc := 30) (q := 1) d_Teller_tellPair_30 rfl rfl ?_
    refine j_nmk (fun k => ∀ (M5 : Mem), J (mt_Teller_tellPair) wI 39 [(0, Value.ref 3), (1, Value.ref list), (2, Value.int p2), (3, Value.int r1), (4, Value.int r3)] [] M5 (k M5)) (fun M5 => ?_) (fun k39 hk39 => ?_)
    · refine j_aload_n (pc := 39) (q := 0) d_Teller_tellPair_39 rfl rfl ?_
      refine j_aload_n (pc := 40) (q := 0) d_Teller_tellPair_40 rfl rfl ?_
      refine j_getI (pc := 41) d_Teller_tellPair_41 fl_Teller_79 sx_3 (by decide) rfl ?_
      refine j_iload_n (pc := 44) (q := 3) d_Teller_tellPair_44 rfl rfl ?_
      refine j_iload (pc := 45) (q := 4) d_Teller_tellPair_45 rfl ?_
      refine j_mmax (pc := 47) d_Teller_tellPair_47 mw_Teller_169 ms_max mc_max (by decide) (Nat.le_of_ble_eq_true rfl) ?_
      refine j_mmax (pc := 50) d_Teller_tellPair_50 mw_Teller_169 ms_max mc_max (by decide) (Nat.le_of_ble_eq_true rfl) ?_
      refine j_putI (pc := 53) d_Teller_tellPair_53 fl_Teller_79 rfl sx_3 (by decide) rfl ?_
      refine j_aload_n (pc := 56) (q := 0) d_Teller_tellPair_56 rfl rfl ?_
      refine j_nmM (fun N6 => ?_)
      refine j_callV0 (pc := 57) d_Teller_tellPair_57 (C_Teller_takeSign n N6) cV_Teller_166 cd_Teller_takeSign dn_Teller_takeSign rfl (by decide) (Nat.le_of_ble_eq_true rfl) (Nat.le_of_ble_eq_true rfl) nr_U sx_3 (by decide) rfl (fun r7 M8 => ?_)
      refine j_aload_n (pc := 60) (q := 1) d_Teller_tellPair_60 rfl rfl ?_
      refine j_iload_n (pc := 61) (q := 2) d_Teller_tellPair_61 rfl rfl ?_
      refine j_aload_n (pc := 62) (q := 0) d_Teller_tellPair_62 rfl rfl ?_
      refine j_getI (pc := 63) d_Teller_tellPair_63 fl_Teller_45 sx_3 (by decide) rfl ?_
      refine j_nmk (fun k => ∀ (u9 : Int32) (M10 : Mem), J (mt_Teller_tellPair) wI 79 [(2, Value.int p2)] [Value.int u9, Value.int p2, Value.ref list] M10 (k u9 M10)) (fun u9 M10 => ?_) (fun k79 hk79 => ?_)
      · refine j_iast (pc := 79) d_Teller_tellPair_79 h_list (fun _ => ?_)
        refine j_iload_n (pc := 80) (q := 0) d_Teller_tellPair_80 rfl rfl ?_
        refine j_iconst (pc := 81) d_Teller_tellPair_81 k_i_1 ?_
        refine j_iadd (pc := 82) d_Teller_tellPair_82 ?_
        exact j_ireturn (pc := 83) d_Teller_tellPair_83 rfl
      · refine j_if_ne (pc := 66) (tgt := 78) d_Teller_tellPair_66 (by decide) (fun _ => ?_) (fun _ => ?_)
        · refine j_iconst (pc := 78) d_Teller_tellPair_78 k_i_0 ?_
          refine j_lv [2] rfl ?_
          exact hk79 0 M8
        · refine j_iload_n (pc := 69) (q := 3) d_Teller_tellPair_69 rfl rfl ?_
          refine j_iload (pc := 70) (q := 4) d_Teller_tellPair_70 rfl ?_
          refine j_callSN2 (pc := 72) d_Teller_tellPair_72 (C_ShakeHands_pairOf n r1 r3 M8) cSN_Teller_206 cd_ShakeHands_pairOf dn_ShakeHands_pairOf rfl (by decide) (Nat.le_of_ble_eq_true rfl) (Nat.le_of_ble_eq_true rfl) nr_I (fun r11 M12 => ?_)
          refine j_goto (pc := 75) (tgt := 79) d_Teller_tellPair_75 (by decide) ?_
          refine j_lv [2] rfl ?_
          exact hk79 r11 M12
    · refine j_icmp_ne (pc := 31) (tgt := 39) d_Teller_tellPair_31 (by decide) (fun _ => ?_) (fun _ => ?_)
      · refine j_lv [2, 3, 4, 1, 0] rfl ?_
        exact hk39 M4
      · refine j_aload_n (pc := 34) (q := 2) d_Teller_tellPair_34 rfl rfl ?_
        refine j_iconst (pc := 35) d_Teller_tellPair_35 k_i_4 ?_
        refine j_callV1 (pc := 36) d_Teller_tellPair_36 (C_Teller_refuse n 4 M4) cV_Teller_88 cd_Teller_refuse dn_Teller_refuse rfl (by decide) (Nat.le_of_ble_eq_true rfl) (Nat.le_of_ble_eq_true rfl) nr_U sx_3 (by decide) rfl (fun r13 M14 => ?_)
        refine j_lv [2, 3, 4, 1, 0] rfl ?_
        exact hk39 M14
  · refine j_aload_n (pc := 6) (q := 0) d_Teller_tellPair_6 rfl rfl ?_
    refine j_iconst (pc := 7) d_Teller_tellPair_7 k_i_5 ?_
    refine j_callV1 (pc := 8) d_Teller_tellPair_8 (C_Teller_refuse n 5 M) cV_Teller_88 cd_Teller_refuse dn_Teller_refuse rfl (by decide) (Nat.le_of_ble_eq_true rfl) (Nat.le_of_ble_eq_true rfl) nr_U sx_3 (by decide) rfl (fun r15 M16 => ?_)
    refine j_iload_n (pc := 11) (q := 2) d_Teller_tellPair_11 rfl rfl ?_
    exact j_ireturn (pc := 12) d_Teller_tellPair_12 rfl
-- Teller.tellPeople ()V
def mt_Teller_tellPeople : Mt := ("ShakeHands$Teller", b_Teller_tellPeople, 1, none, 5, SHx)
theorem d_Teller_tellPeople_0 : decode b_Teller_tellPeople 0 = .ok (.aload_n 0, 1) := by decide +kernel
theorem d_Teller_tellPeople_1 : decode b_Teller_tellPeople 1 = .ok (.getfield 69, 3) := by decide +kernel
theorem d_Teller_tellPeople_4 : decode b_Teller_tellPeople 4 = .ok (.ifCond .eq 8, 3) := by decide +kernel
theorem d_Teller_tellPeople_7 : decode b_Teller_tellPeople 7 = .ok (.aload_n 0, 1) := by decide +kernel
theorem d_Teller_tellPeople_8 : decode b_Teller_tellPeople 8 = .ok (.iconst 4, 1) := by decide +kernel
theorem d_Teller_tellPeople_9 : decode b_Teller_tellPeople 9 = .ok (.invokevirtual 88, 3) := by decide +kernel
theorem d_Teller_tellPeople_12 : decode b_Teller_tellPeople 12 = .ok (.aload_n 0, 1) := by decide +kernel
theorem d_Teller_tellPeople_13 : decode b_Teller_tellPeople 13 = .ok (.iconst 1, 1) := by decide +kernel
theorem d_Teller_tellPeople_14 : decode b_Teller_tellPeople 14 = .ok (.putfield 69, 3) := by decide +kernel
theorem d_Teller_tellPeople_17 : decode b_Teller_tellPeople 17 = .ok (.aload_n 0, 1) := by decide +kernel
theorem d_Teller_tellPeople_18 : decode b_Teller_tellPeople 18 = .ok (.getfield 12, 3) := by decide +kernel
theorem d_Teller_tellPeople_21 : decode b_Teller_tellPeople 21 = .ok (.aload_n 0, 1) := by decide +kernel
theorem d_Teller_tellPeople_22 : decode b_Teller_tellPeople 22 = .ok (.iconst 2, 1) := by decide +kernel
theorem d_Teller_tellPeople_23 : decode b_Teller_tellPeople 23 = .ok (.bipush 6, 2) := by decide +kernel
theorem d_Teller_tellPeople_25 : decode b_Teller_tellPeople 25 = .ok (.invokevirtual 162, 3) := by decide +kernel
theorem d_Teller_tellPeople_28 : decode b_Teller_tellPeople 28 = .ok (.putfield 85, 3) := by decide +kernel
theorem d_Teller_tellPeople_31 : decode b_Teller_tellPeople 31 = .ok (.aload_n 0, 1) := by decide +kernel
theorem d_Teller_tellPeople_32 : decode b_Teller_tellPeople 32 = .ok (.invokevirtual 166, 3) := by decide +kernel
theorem d_Teller_tellPeople_35 : decode b_Teller_tellPeople 35 = .ok (.return_, 1) := by decide +kernel
def X_Teller_tellPeople (n : Nat) (M : Mem) : Option (Unit × Mem) :=
  nm (fun (M1 : Mem) => nm (si M1 3 10 1) fun N2 =>
    bd (X_Teller_takeNumber n 2 6 N2) fun r3 M4 =>
    nm (si M4 4 0 r3) fun N5 =>
    bd (X_Teller_takeSign n N5) fun _ M7 =>
    some ((), M7)) fun k12 =>
  (if (M.1 3 10) = 0 then
    k12 M
    else
    bd (X_Teller_refuse n 4 M) fun _ M9 =>
    k12 M9)
set_option maxRecDepth 20000 in
set_option maxHeartbeats 4000000 in
theorem C_Teller_tellPeople (n : Nat)    (M : Mem) : Ct y_Teller_tellPeople mt_Teller_tellPeople wU [Value.ref 3] M (X_Teller_tellPeople n M) := by
  refine ct_of (by decide +kernel) rfl (Nat.le_of_ble_eq_true rfl) ?_
  show J _ _ _ [(0, Value.ref 3)] _ _ _
  unfold X_Teller_tellPeople
  refine j_aload_n (pc := 0) (q := 0) d_Teller_tellPeople_0 rfl rfl ?_
  refine j_getI (pc := 1) d_Teller_tellPeople_1 fl_Teller_69 sx_3 (by decide) rfl ?_
  refine j_nmk (fun k => ∀ (M1 : Mem), J (mt_Teller_tellPeople) wU 12 [(0, Value.ref 3)] [] M1 (k M1)) (fun M1 => ?_) (fun k12 hk12 => ?_)
  · refine j_aload_n (pc := 12) (q := 0) d_Teller_tellPeople_12 rfl rfl ?_
    refine j_iconst (pc := 13) d_Teller_tellPeople_13 k_i_1 ?_
    refine j_putZ (pc := 14) d_Teller_tellPeople_14 fl_Teller_69 rfl rfl sx_3 (by decide) rfl ?_
    refine j_aload_n (pc := 17) (q := 0) d_Teller_tellPeople_17 rfl rfl ?_
    refine j_getA (pc := 18) d_Teller_tellPeople_18 fl_Teller_12 sx_3 (by decide) rfl ?_
    refine j_aload_n (pc := 21) (q := 0) d_Teller_tellPeople_21 rfl rfl ?_
    refine j_iconst (pc := 22) d_Teller_tellPeople_22 k_i_2 ?_
    refine j_bipush (pc := 23) d_Teller_tellPeople_23 k_b_6 ?_
    refine j_nmM (fun N2 => ?_)
    refine j_callV2 (pc := 25) d_Teller_tellPeople_25 (C_Teller_takeNumber n 2 6 N2) cV_Teller_162 cd_Teller_takeNumber dn_Teller_takeNumber rfl (by decide) (Nat.le_of_ble_eq_true rfl) (Nat.le_of_ble_eq_true rfl) nr_I sx_3 (by decide) rfl (fun r3 M4 => ?_)
    refine j_putI (pc := 28) d_Teller_tellPeople_28 fl_Teller_85 rfl sx_4 (by decide) rfl ?_
    refine j_aload_n (pc := 31) (q := 0) d_Teller_tellPeople_31 rfl rfl ?_
    refine j_nmM (fun N5 => ?_)
    refine j_callV0 (pc := 32) d_Teller_tellPeople_32 (C_Teller_takeSign n N5) cV_Teller_166 cd_Teller_takeSign dn_Teller_takeSign rfl (by decide) (Nat.le_of_ble_eq_true rfl) (Nat.le_of_ble_eq_true rfl) nr_U sx_3 (by decide) rfl (fun r6 M7 => ?_)
    exact j_return (pc := 35) d_Teller_tellPeople_35 rfl
  · refine j_if_eq (pc := 4) (tgt := 12) d_Teller_tellPeople_4 (by decide) (fun _ => ?_) (fun _ => ?_)
    · exact hk12 M
    · refine j_aload_n (pc := 7) (q := 0) d_Teller_tellPeople_7 rfl rfl ?_
      refine j_iconst (pc := 8) d_Teller_tellPeople_8 k_i_4 ?_
      refine j_callV1 (pc := 9) d_Teller_tellPeople_9 (C_Teller_refuse n 4 M) cV_Teller_88 cd_Teller_refuse dn_Teller_refuse rfl (by decide) (Nat.le_of_ble_eq_true rfl) (Nat.le_of_ble_eq_true rfl) nr_U sx_3 (by decide) rfl (fun r8 M9 => ?_)
      exact hk12 M9
-- Teller.tellThing (I)V
def mt_Teller_tellThing : Mt := ("ShakeHands$Teller", b_Teller_tellThing, 2, none, 4, SHx)
theorem d_Teller_tellThing_0 : decode b_Teller_tellThing 0 = .ok (.aload_n 0, 1) := by decide +kernel
theorem d_Teller_tellThing_1 : decode b_Teller_tellThing 1 = .ok (.getfield 25, 3) := by decide +kernel
theorem d_Teller_tellThing_4 : decode b_Teller_tellThing 4 = .ok (.getfield 184, 3) := by decide +kernel
theorem d_Teller_tellThing_7 : decode b_Teller_tellThing 7 = .ok (.iload_n 1, 1) := by decide +kernel
theorem d_Teller_tellThing_8 : decode b_Teller_tellThing 8 = .ok (.iushr, 1) := by decide +kernel
theorem d_Teller_tellThing_9 : decode b_Teller_tellThing 9 = .ok (.iconst 1, 1) := by decide +kernel
theorem d_Teller_tellThing_10 : decode b_Teller_tellThing 10 = .ok (.iand, 1) := by decide +kernel
theorem d_Teller_tellThing_11 : decode b_Teller_tellThing 11 = .ok (.ifCond .eq 11, 3) := by decide +kernel
theorem d_Teller_tellThing_14 : decode b_Teller_tellThing 14 = .ok (.aload_n 0, 1) := by decide +kernel
theorem d_Teller_tellThing_15 : decode b_Teller_tellThing 15 = .ok (.iconst 4, 1) := by decide +kernel
theorem d_Teller_tellThing_16 : decode b_Teller_tellThing 16 = .ok (.invokevirtual 88, 3) := by decide +kernel
theorem d_Teller_tellThing_19 : decode b_Teller_tellThing 19 = .ok (.goto 34, 3) := by decide +kernel
theorem d_Teller_tellThing_22 : decode b_Teller_tellThing 22 = .ok (.aload_n 0, 1) := by decide +kernel
theorem d_Teller_tellThing_23 : decode b_Teller_tellThing 23 = .ok (.getfield 25, 3) := by decide +kernel
theorem d_Teller_tellThing_26 : decode b_Teller_tellThing 26 = .ok (.getfield 184, 3) := by decide +kernel
theorem d_Teller_tellThing_29 : decode b_Teller_tellThing 29 = .ok (.invokestatic 187, 3) := by decide +kernel
theorem d_Teller_tellThing_32 : decode b_Teller_tellThing 32 = .ok (.bipush 9, 2) := by decide +kernel
theorem d_Teller_tellThing_34 : decode b_Teller_tellThing 34 = .ok (.if_icmp .lt 11, 3) := by decide +kernel
theorem d_Teller_tellThing_37 : decode b_Teller_tellThing 37 = .ok (.aload_n 0, 1) := by decide +kernel
theorem d_Teller_tellThing_38 : decode b_Teller_tellThing 38 = .ok (.iconst 5, 1) := by decide +kernel
theorem d_Teller_tellThing_39 : decode b_Teller_tellThing 39 = .ok (.invokevirtual 88, 3) := by decide +kernel
theorem d_Teller_tellThing_42 : decode b_Teller_tellThing 42 = .ok (.goto 11, 3) := by decide +kernel
theorem d_Teller_tellThing_45 : decode b_Teller_tellThing 45 = .ok (.aload_n 0, 1) := by decide +kernel
theorem d_Teller_tellThing_46 : decode b_Teller_tellThing 46 = .ok (.getfield 25, 3) := by decide +kernel
theorem d_Teller_tellThing_49 : decode b_Teller_tellThing 49 = .ok (.iload_n 1, 1) := by decide +kernel
theorem d_Teller_tellThing_50 : decode b_Teller_tellThing 50 = .ok (.invokevirtual 197, 3) := by decide +kernel
theorem d_Teller_tellThing_53 : decode b_Teller_tellThing 53 = .ok (.return_, 1) := by decide +kernel
def X_Teller_tellThing (n : Nat) (p1 : Int32) (M : Mem) : Option (Unit × Mem) :=
  (if ((((M.1 10 1).toUInt32 >>> (p1.toUInt32 &&& Int32.toUInt32 31)).toInt32) &&& 1) = 0 then
    bd (X_Integer_bitCount n (M.1 10 1) M) fun r1 M2 =>
    (if r1 < 9 then
      bd (X_Row_add n 10 p1 M2) fun _ M4 =>
      some ((), M4)
      else
      bd (X_Teller_refuse n 5 M2) fun _ M6 =>
      some ((), M6))
    else
    bd (X_Teller_refuse n 4 M) fun _ M8 =>
    some ((), M8))
set_option maxRecDepth 20000 in
set_option maxHeartbeats 4000000 in
theorem C_Teller_tellThing (n : Nat)   (p1 : Int32) (M : Mem) : Ct y_Teller_tellThing mt_Teller_tellThing wU [Value.ref 3, Value.int p1] M (X_Teller_tellThing n p1 M) := by
  refine ct_of (by decide +kernel) rfl (Nat.le_of_ble_eq_true rfl) ?_
  show J _ _ _ [(0, Value.ref 3), (1, Value.int p1)] _ _ _
  unfold X_Teller_tellThing
  refine j_aload_n (pc := 0) (q := 0) d_Teller_tellThing_0 rfl rfl ?_
  refine j_getA (pc := 1) d_Teller_tellThing_1 fl_Teller_25 sx_3 (by decide) rfl ?_
  refine j_getI (pc := 4) d_Teller_tellThing_4 fl_Teller_184 sx_10 (by decide) rfl ?_
  refine j_iload_n (pc := 7) (q := 1) d_Teller_tellThing_7 rfl rfl ?_
  refine j_iushr (pc := 8) d_Teller_tellThing_8 ?_
  refine j_iconst (pc := 9) d_Teller_tellThing_9 k_i_1 ?_
  refine j_iand (pc := 10) d_Teller_tellThing_10 ?_
  refine j_if_eq (pc := 11) (tgt := 22) d_Teller_tellThing_11 (by decide) (fun _ => ?_) (fun _ => ?_)
  · refine j_aload_n (pc := 22) (q := 0) d_Teller_tellThing_22 rfl rfl ?_
    refine j_getA (pc := 23) d_Teller_tellThing_23 fl_Teller_25 sx_3 (by decide) rfl ?_
    refine j_getI (pc := 26) d_Teller_tellThing_26 fl_Teller_184 sx_10 (by decide) rfl ?_
    refine j_callS1 (pc := 29) d_Teller_tellThing_29 (C_Integer_bitCount n (M.1 10 1) M) cS_Teller_187 cd_Integer_bitCount dn_Integer_bitCount rfl (by decide) (Nat.le_of_ble_eq_true rfl) (Nat.le_of_ble_eq_true rfl) nr_I (fun r1 M2 => ?_)
    refine j_bipush (pc := 32) d_Teller_tellThing_32 k_b_9 ?_
    refine j_icmp_lt (pc := 34) (tgt := 45) d_Teller_tellThing_34 (by decide) (fun _ => ?_) (fun _ => ?_)
    · refine j_aload_n (pc := 45) (q := 0) d_Teller_tellThing_45 rfl rfl ?_
      refine j_getA (pc := 46) d_Teller_tellThing_46 fl_Teller_25 sx_3 (by decide) rfl ?_
      refine j_iload_n (pc := 49) (q := 1) d_Teller_tellThing_49 rfl rfl ?_
      refine j_callV1 (pc := 50) d_Teller_tellThing_50 (C_Row_add n 10 sx_10 p1 M2) cV_Teller_197 cd_Row_add dn_Row_add rfl (by decide) (Nat.le_of_ble_eq_true rfl) (Nat.le_of_ble_eq_true rfl) nr_U sx_10 (by decide) rfl (fun r3 M4 => ?_)
      exact j_return (pc := 53) d_Teller_tellThing_53 rfl
    · refine j_aload_n (pc := 37) (q := 0) d_Teller_tellThing_37 rfl rfl ?_
      refine j_iconst (pc := 38) d_Teller_tellThing_38 k_i_5 ?_
      refine j_callV1 (pc := 39) d_Teller_tellThing_39 (C_Teller_refuse n 5 M2) cV_Teller_88 cd_Teller_refuse dn_Teller_refuse rfl (by decide) (Nat.le_of_ble_eq_true rfl) (Nat.le_of_ble_eq_true rfl) nr_U sx_3 (by decide) rfl (fun r5 M6 => ?_)
      refine j_goto (pc := 42) (tgt := 53) d_Teller_tellThing_42 (by decide) ?_
      exact j_return (pc := 53) d_Teller_tellThing_53 rfl
  · refine j_aload_n (pc := 14) (q := 0) d_Teller_tellThing_14 rfl rfl ?_
    refine j_iconst (pc := 15) d_Teller_tellThing_15 k_i_4 ?_
    refine j_callV1 (pc := 16) d_Teller_tellThing_16 (C_Teller_refuse n 4 M) cV_Teller_88 cd_Teller_refuse dn_Teller_refuse rfl (by decide) (Nat.le_of_ble_eq_true rfl) (Nat.le_of_ble_eq_true rfl) nr_U sx_3 (by decide) rfl (fun r7 M8 => ?_)
    refine j_goto (pc := 19) (tgt := 53) d_Teller_tellThing_19 (by decide) ?_
    exact j_return (pc := 53) d_Teller_tellThing_53 rfl
-- Teller.tellRow ()V
def mt_Teller_tellRow : Mt := ("ShakeHands$Teller", b_Teller_tellRow, 3, none, 5, SHx)
theorem d_Teller_tellRow_0 : decode b_Teller_tellRow 0 = .ok (.aload_n 0, 1) := by decide +kernel
theorem d_Teller_tellRow_1 : decode b_Teller_tellRow 1 = .ok (.iconst 0, 1) := by decide +kernel
theorem d_Teller_tellRow_2 : decode b_Teller_tellRow 2 = .ok (.iconst 5, 1) := by decide +kernel
theorem d_Teller_tellRow_3 : decode b_Teller_tellRow 3 = .ok (.invokevirtual 162, 3) := by decide +kernel
theorem d_Teller_tellRow_6 : decode b_Teller_tellRow 6 = .ok (.istore_n 1, 1) := by decide +kernel
theorem d_Teller_tellRow_7 : decode b_Teller_tellRow 7 = .ok (.aload_n 0, 1) := by decide +kernel
theorem d_Teller_tellRow_8 : decode b_Teller_tellRow 8 = .ok (.getfield 76, 3) := by decide +kernel
theorem d_Teller_tellRow_11 : decode b_Teller_tellRow 11 = .ok (.iload_n 1, 1) := by decide +kernel
theorem d_Teller_tellRow_12 : decode b_Teller_tellRow 12 = .ok (.iushr, 1) := by decide +kernel
theorem d_Teller_tellRow_13 : decode b_Teller_tellRow 13 = .ok (.iconst 1, 1) := by decide +kernel
theorem d_Teller_tellRow_14 : decode b_Teller_tellRow 14 = .ok (.iand, 1) := by decide +kernel
theorem d_Teller_tellRow_15 : decode b_Teller_tellRow 15 = .ok (.ifCond .eq 8, 3) := by decide +kernel
theorem d_Teller_tellRow_18 : decode b_Teller_tellRow 18 = .ok (.aload_n 0, 1) := by decide +kernel
theorem d_Teller_tellRow_19 : decode b_Teller_tellRow 19 = .ok (.iconst 4, 1) := by decide +kernel
theorem d_Teller_tellRow_20 : decode b_Teller_tellRow 20 = .ok (.invokevirtual 88, 3) := by decide +kernel
theorem d_Teller_tellRow_23 : decode b_Teller_tellRow 23 = .ok (.aload_n 0, 1) := by decide +kernel
theorem d_Teller_tellRow_24 : decode b_Teller_tellRow 24 = .ok (.dup, 1) := by decide +kernel
theorem d_Teller_tellRow_25 : decode b_Teller_tellRow 25 = .ok (.getfield 76, 3) := by decide +kernel
theorem d_Teller_tellRow_28 : decode b_Teller_tellRow 28 = .ok (.iconst 1, 1) := by decide +kernel
theorem d_Teller_tellRow_29 : decode b_Teller_tellRow 29 = .ok (.iload_n 1, 1) := by decide +kernel
theorem d_Teller_tellRow_30 : decode b_Teller_tellRow 30 = .ok (.ishl, 1) := by decide +kernel
theorem d_Teller_tellRow_31 : decode b_Teller_tellRow 31 = .ok (.ior, 1) := by decide +kernel
theorem d_Teller_tellRow_32 : decode b_Teller_tellRow 32 = .ok (.putfield 76, 3) := by decide +kernel
theorem d_Teller_tellRow_35 : decode b_Teller_tellRow 35 = .ok (.aload_n 0, 1) := by decide +kernel
theorem d_Teller_tellRow_36 : decode b_Teller_tellRow 36 = .ok (.aload_n 0, 1) := by decide +kernel
theorem d_Teller_tellRow_37 : decode b_Teller_tellRow 37 = .ok (.getfield 79, 3) := by decide +kernel
theorem d_Teller_tellRow_40 : decode b_Teller_tellRow 40 = .ok (.iload_n 1, 1) := by decide +kernel
theorem d_Teller_tellRow_41 : decode b_Teller_tellRow 41 = .ok (.invokestatic 169, 3) := by decide +kernel
theorem d_Teller_tellRow_44 : decode b_Teller_tellRow 44 = .ok (.putfield 79, 3) := by decide +kernel
theorem d_Teller_tellRow_47 : decode b_Teller_tellRow 47 = .ok (.aload_n 0, 1) := by decide +kernel
theorem d_Teller_tellRow_48 : decode b_Teller_tellRow 48 = .ok (.getfield 25, 3) := by decide +kernel
theorem d_Teller_tellRow_51 : decode b_Teller_tellRow 51 = .ok (.lconst 0, 1) := by decide +kernel
theorem d_Teller_tellRow_52 : decode b_Teller_tellRow 52 = .ok (.invokevirtual 174, 3) := by decide +kernel
theorem d_Teller_tellRow_55 : decode b_Teller_tellRow 55 = .ok (.aload_n 0, 1) := by decide +kernel
theorem d_Teller_tellRow_56 : decode b_Teller_tellRow 56 = .ok (.aload_n 0, 1) := by decide +kernel
theorem d_Teller_tellRow_57 : decode b_Teller_tellRow 57 = .ok (.iconst 0, 1) := by decide +kernel
theorem d_Teller_tellRow_58 : decode b_Teller_tellRow 58 = .ok (.bipush 15, 2) := by decide +kernel
theorem d_Teller_tellRow_60 : decode b_Teller_tellRow 60 = .ok (.invokevirtual 162, 3) := by decide +kernel
theorem d_Teller_tellRow_63 : decode b_Teller_tellRow 63 = .ok (.invokevirtual 178, 3) := by decide +kernel
theorem d_Teller_tellRow_66 : decode b_Teller_tellRow 66 = .ok (.aload_n 0, 1) := by decide +kernel
theorem d_Teller_tellRow_67 : decode b_Teller_tellRow 67 = .ok (.invokevirtual 42, 3) := by decide +kernel
theorem d_Teller_tellRow_70 : decode b_Teller_tellRow 70 = .ok (.iconst 1, 1) := by decide +kernel
theorem d_Teller_tellRow_71 : decode b_Teller_tellRow 71 = .ok (.istore_n 2, 1) := by decide +kernel
theorem d_Teller_tellRow_72 : decode b_Teller_tellRow 72 = .ok (.iload_n 2, 1) := by decide +kernel
theorem d_Teller_tellRow_73 : decode b_Teller_tellRow 73 = .ok (.bipush 9, 2) := by decide +kernel
theorem d_Teller_tellRow_75 : decode b_Teller_tellRow 75 = .ok (.if_icmp .gt 39, 3) := by decide +kernel
theorem d_Teller_tellRow_78 : decode b_Teller_tellRow 78 = .ok (.aload_n 0, 1) := by decide +kernel
theorem d_Teller_tellRow_79 : decode b_Teller_tellRow 79 = .ok (.getfield 45, 3) := by decide +kernel
theorem d_Teller_tellRow_82 : decode b_Teller_tellRow 82 = .ok (.ifCond .ne 32, 3) := by decide +kernel
theorem d_Teller_tellRow_85 : decode b_Teller_tellRow 85 = .ok (.aload_n 0, 1) := by decide +kernel
theorem d_Teller_tellRow_86 : decode b_Teller_tellRow 86 = .ok (.getfield 48, 3) := by decide +kernel
theorem d_Teller_tellRow_89 : decode b_Teller_tellRow 89 = .ok (.iconst 2, 1) := by decide +kernel
theorem d_Teller_tellRow_90 : decode b_Teller_tellRow 90 = .ok (.if_icmp .ne 24, 3) := by decide +kernel
theorem d_Teller_tellRow_93 : decode b_Teller_tellRow 93 = .ok (.aload_n 0, 1) := by decide +kernel
theorem d_Teller_tellRow_94 : decode b_Teller_tellRow 94 = .ok (.aload_n 0, 1) := by decide +kernel
theorem d_Teller_tellRow_95 : decode b_Teller_tellRow 95 = .ok (.iconst 0, 1) := by decide +kernel
theorem d_Teller_tellRow_96 : decode b_Teller_tellRow 96 = .ok (.bipush 15, 2) := by decide +kernel
theorem d_Teller_tellRow_98 : decode b_Teller_tellRow 98 = .ok (.invokevirtual 181, 3) := by decide +kernel
theorem d_Teller_tellRow_101 : decode b_Teller_tellRow 101 = .ok (.invokevirtual 178, 3) := by decide +kernel
theorem d_Teller_tellRow_104 : decode b_Teller_tellRow 104 = .ok (.aload_n 0, 1) := by decide +kernel
theorem d_Teller_tellRow_105 : decode b_Teller_tellRow 105 = .ok (.invokevirtual 42, 3) := by decide +kernel
theorem d_Teller_tellRow_108 : decode b_Teller_tellRow 108 = .ok (.iinc 2 1, 3) := by decide +kernel
theorem d_Teller_tellRow_111 : decode b_Teller_tellRow 111 = .ok (.goto (-39), 3) := by decide +kernel
theorem d_Teller_tellRow_114 : decode b_Teller_tellRow 114 = .ok (.aload_n 0, 1) := by decide +kernel
theorem d_Teller_tellRow_115 : decode b_Teller_tellRow 115 = .ok (.getfield 48, 3) := by decide +kernel
theorem d_Teller_tellRow_118 : decode b_Teller_tellRow 118 = .ok (.iconst 3, 1) := by decide +kernel
theorem d_Teller_tellRow_119 : decode b_Teller_tellRow 119 = .ok (.if_icmp .eq 8, 3) := by decide +kernel
theorem d_Teller_tellRow_122 : decode b_Teller_tellRow 122 = .ok (.aload_n 0, 1) := by decide +kernel
theorem d_Teller_tellRow_123 : decode b_Teller_tellRow 123 = .ok (.iconst 2, 1) := by decide +kernel
theorem d_Teller_tellRow_124 : decode b_Teller_tellRow 124 = .ok (.invokevirtual 88, 3) := by decide +kernel
theorem d_Teller_tellRow_127 : decode b_Teller_tellRow 127 = .ok (.aload_n 0, 1) := by decide +kernel
theorem d_Teller_tellRow_128 : decode b_Teller_tellRow 128 = .ok (.aload_n 0, 1) := by decide +kernel
theorem d_Teller_tellRow_129 : decode b_Teller_tellRow 129 = .ok (.getfield 82, 3) := by decide +kernel
theorem d_Teller_tellRow_132 : decode b_Teller_tellRow 132 = .ok (.aload_n 0, 1) := by decide +kernel
theorem d_Teller_tellRow_133 : decode b_Teller_tellRow 133 = .ok (.getfield 25, 3) := by decide +kernel
theorem d_Teller_tellRow_136 : decode b_Teller_tellRow 136 = .ok (.getfield 184, 3) := by decide +kernel
theorem d_Teller_tellRow_139 : decode b_Teller_tellRow 139 = .ok (.invokestatic 187, 3) := by decide +kernel
theorem d_Teller_tellRow_142 : decode b_Teller_tellRow 142 = .ok (.invokestatic 169, 3) := by decide +kernel
theorem d_Teller_tellRow_145 : decode b_Teller_tellRow 145 = .ok (.putfield 82, 3) := by decide +kernel
theorem d_Teller_tellRow_148 : decode b_Teller_tellRow 148 = .ok (.aload_n 0, 1) := by decide +kernel
theorem d_Teller_tellRow_149 : decode b_Teller_tellRow 149 = .ok (.getfield 18, 3) := by decide +kernel
theorem d_Teller_tellRow_152 : decode b_Teller_tellRow 152 = .ok (.iload_n 1, 1) := by decide +kernel
theorem d_Teller_tellRow_153 : decode b_Teller_tellRow 153 = .ok (.aload_n 0, 1) := by decide +kernel
theorem d_Teller_tellRow_154 : decode b_Teller_tellRow 154 = .ok (.getfield 25, 3) := by decide +kernel
theorem d_Teller_tellRow_157 : decode b_Teller_tellRow 157 = .ok (.invokevirtual 193, 3) := by decide +kernel
theorem d_Teller_tellRow_160 : decode b_Teller_tellRow 160 = .ok (.lastore, 1) := by decide +kernel
theorem d_Teller_tellRow_161 : decode b_Teller_tellRow 161 = .ok (.return_, 1) := by decide +kernel
def X_Teller_tellRow_L72 (n : Nat) (a1 : Int32) (kx114 : Mem → Option (Unit × Mem)) : Nat → Int32 → Mem → Option (Unit × Mem)
    | 0, _, _ => none
    | m + 1, v2, M => (if 9 < v2 then
    kx114 M
    else
    (if (M.1 3 3) = 0 then
      (if (M.1 3 7) = 2 then
        bd (X_Teller_boundedValue n 0 15 M) fun r14 M15 =>
        bd (X_Teller_tellThing n r14 M15) fun _ M17 =>
        bd (X_Teller_readToken n M17) fun _ M19 =>
        X_Teller_tellRow_L72 n a1 kx114 m (v2 + 1) M19
        else
        kx114 M)
      else
      kx114 M))
def X_Teller_tellRow (n : Nat) (M : Mem) : Option (Unit × Mem) :=
  bd (X_Teller_takeNumber n 0 5 M) fun r1 M2 =>
  nm (fun (M3 : Mem) => nm (si M3 3 12 ((M3.1 3 12) ||| (1 <<< (r1 &&& 31)))) fun N4 =>
    nm (si N4 3 13 (if (N4.1 3 13) < r1 then r1 else (N4.1 3 13))) fun N5 =>
    bd (X_Row_take n 10 0 N5) fun _ M7 =>
    bd (X_Teller_takeNumber n 0 15 M7) fun r8 M9 =>
    bd (X_Teller_tellThing n r8 M9) fun _ M11 =>
    bd (X_Teller_readToken n M11) fun _ M13 =>
    X_Teller_tellRow_L72 n r1 (fun M20 => nm (fun (M21 : Mem) => bd (X_Integer_bitCount n (M21.1 10 1) M21) fun r22 M23 =>
        nm (si M23 3 14 (if (M21.1 3 14) < r22 then r22 else (M21.1 3 14))) fun N24 =>
        bd (X_Row_atRest n 10 N24) fun r25 M26 =>
        gd r1 6 (
          some ((), sl M26 9 (r1.toNatClampNeg) r25))) fun k127 =>
      (if (M20.1 3 7) = 3 then
        k127 M20
        else
        bd (X_Teller_refuse n 2 M20) fun _ M28 =>
        k127 M28)) n 1 M13) fun k23 =>
  (if ((((M2.1 3 12).toUInt32 >>> (r1.toUInt32 &&& Int32.toUInt32 31)).toInt32) &&& 1) = 0 then
    k23 M2
    else
    bd (X_Teller_refuse n 4 M2) fun _ M30 =>
    k23 M30)
set_option maxRecDepth 20000 in
set_option maxHeartbeats 4000000 in
theorem X_Teller_tellRow_L72_ok {n : Nat} {a1 : Int32} {kx114 : Mem → Option (Unit × Mem)} (hkx114 : ∀ (M : Mem), J (mt_Teller_tellRow) wU 114 [(0, Value.ref 3), (1, Value.int a1)] [] M (kx114 M)) : ∀ (m : Nat) (v2 : Int32) (M : Mem), J (mt_Teller_tellRow) wU 72 [(0, Value.ref 3), (1, Value.int a1), (2, Value.int v2)] [] M (X_Teller_tellRow_L72 n a1 kx114 m v2 M) := by
  intro m
  induction m with
  | zero => intro _ _; exact j_none
  | succ m ih =>
    intro v2 M
    show J _ _ _ _ _ _ ((if 9 < v2 then
kx114 M
else
(if (M.1 3 3) = 0 then
(if (M.1 3 7) = 2 then
bd (X_Teller_boundedValue n 0 15 M) fun r14 M15 =>
bd (X_Teller_tellThing n r14 M15) fun _ M17 =>
bd (X_Teller_readToken n M17) fun _ M19 =>
X_Teller_tellRow_L72 n a1 kx114 m (v2 + 1) M19
else
kx114 M)
else
kx114 M)))
    refine j_iload_n (pc := 72) (q := 2) d_Teller_tellRow_72 rfl rfl ?_
    refine j_bipush (pc := 73) d_Teller_tellRow_73 k_b_9 ?_
    refine j_icmp_gt (pc := 75) (tgt := 114) d_Teller_tellRow_75 (by decide) (fun _ => ?_) (fun _ => ?_)
    · refine j_lv [0, 1] rfl ?_
      exact hkx114 M
    · refine j_aload_n (pc := 78) (q := 0) d_Teller_tellRow_78 rfl rfl ?_
      refine j_getI (pc := 79) d_Teller_tellRow_79 fl_Teller_45 sx_3 (by decide) rfl ?_
      refine j_if_ne (pc := 82) (tgt := 114) d_Teller_tellRow_82 (by decide) (fun _ => ?_) (fun _ => ?_)
      · refine j_lv [0, 1] rfl ?_
        exact hkx114 M
      · refine j_aload_n (pc := 85) (q := 0) d_Teller_tellRow_85 rfl rfl ?_
        refine j_getI (pc := 86) d_Teller_tellRow_86 fl_Teller_48 sx_3 (by decide) rfl ?_
        refine j_iconst (pc := 89) d_Teller_tellRow_89 k_i_2 ?_
        refine j_icmp_ne (pc := 90) (tgt := 114) d_Teller_tellRow_90 (by decide) (fun _ => ?_) (fun _ => ?_)
        · refine j_lv [0, 1] rfl ?_
          exact hkx114 M
        · refine j_aload_n (pc := 93) (q := 0) d_Teller_tellRow_93 rfl rfl ?_
          refine j_aload_n (pc := 94) (q := 0) d_Teller_tellRow_94 rfl rfl ?_
          refine j_iconst (pc := 95) d_Teller_tellRow_95 k_i_0 ?_
          refine j_bipush (pc := 96) d_Teller_tellRow_96 k_b_15 ?_
          refine j_callV2 (pc := 98) d_Teller_tellRow_98 (C_Teller_boundedValue n 0 15 M) cV_Teller_181 cd_Teller_boundedValue dn_Teller_boundedValue rfl (by decide) (Nat.le_of_ble_eq_true rfl) (Nat.le_of_ble_eq_true rfl) nr_I sx_3 (by decide) rfl (fun r14 M15 => ?_)
          refine j_callV1 (pc := 101) d_Teller_tellRow_101 (C_Teller_tellThing n r14 M15) cV_Teller_178 cd_Teller_tellThing dn_Teller_tellThing rfl (by decide) (Nat.le_of_ble_eq_true rfl) (Nat.le_of_ble_eq_true rfl) nr_U sx_3 (by decide) rfl (fun r16 M17 => ?_)
          refine j_aload_n (pc := 104) (q := 0) d_Teller_tellRow_104 rfl rfl ?_
          refine j_callV0 (pc := 105) d_Teller_tellRow_105 (C_Teller_readToken n M17) cV_Teller_42 cd_Teller_readToken dn_Teller_readToken rfl (by decide) (Nat.le_of_ble_eq_true rfl) (Nat.le_of_ble_eq_true rfl) nr_U sx_3 (by decide) rfl (fun r18 M19 => ?_)
          refine j_iinc (pc := 108) (q := 2) d_Teller_tellRow_108 rfl (congrArg (v2 + ·) k_i_1) (by decide) rfl ?_
          refine j_goto (pc := 111) (tgt := 72) d_Teller_tellRow_111 (by decide) ?_
          refine j_lv [1, 2, 0] rfl ?_
          exact ih (v2 + 1) M19
set_option maxRecDepth 20000 in
set_option maxHeartbeats 4000000 in
theorem C_Teller_tellRow (n : Nat)    (M : Mem) : Ct y_Teller_tellRow mt_Teller_tellRow wU [Value.ref 3] M (X_Teller_tellRow n M) := by
  refine ct_of (by decide +kernel) rfl (Nat.le_of_ble_eq_true rfl) ?_
  show J _ _ _ [(0, Value.ref 3)] _ _ _
  unfold X_Teller_tellRow
  refine j_aload_n (pc := 0) (q := 0) d_Teller_tellRow_0 rfl rfl ?_
  refine j_iconst (pc := 1) d_Teller_tellRow_1 k_i_0 ?_
  refine j_iconst (pc := 2) d_Teller_tellRow_2 k_i_5 ?_
  refine j_callV2 (pc := 3) d_Teller_tellRow_3 (C_Teller_takeNumber n 0 5 M) cV_Teller_162 cd_Teller_takeNumber dn_Teller_takeNumber rfl (by decide) (Nat.le_of_ble_eq_true rfl) (Nat.le_of_ble_eq_true rfl) nr_I sx_3 (by decide) rfl (fun r1 M2 => ?_)
  refine j_istore_n (pc := 6) d_Teller_tellRow_6 rfl (by decide) rfl ?_
  refine j_aload_n (pc := 7) (q := 1) d_Teller_tellRow_7 rfl rfl ?_
  refine j_getI (pc := 8) d_Teller_tellRow_8 fl_Teller_76 sx_3 (by decide) rfl ?_
  refine j_iload_n (pc := 11) (q := 0) d_Teller_tellRow_11 rfl rfl ?_
  refine j_iushr (pc := 12) d_Teller_tellRow_12 ?_
  refine j_iconst (pc := 13) d_Teller_tellRow_13 k_i_1 ?_
  refine j_iand (pc := 14) d_Teller_tellRow_14 ?_
  refine j_nmk (fun k => ∀ (M3 : Mem), J (mt_Teller_tellRow) wU 23 [(0, Value.ref 3), (1, Value.int r1)] [] M3 (k M3)) (fun M3 => ?_) (fun k23 hk23 => ?_)
  · refine j_aload_n (pc := 23) (q := 0) d_Teller_tellRow_23 rfl rfl ?_
    refine j_dup (pc := 24) d_Teller_tellRow_24 rfl ?_
    refine j_getI (pc := 25) d_Teller_tellRow_25 fl_Teller_76 sx_3 (by decide) rfl ?_
    refine j_iconst (pc := 28) d_Teller_tellRow_28 k_i_1 ?_
    refine j_iload_n (pc := 29) (q := 1) d_Teller_tellRow_29 rfl rfl ?_
    refine j_ishl (pc := 30) d_Teller_tellRow_30 ?_
    refine j_ior (pc := 31) d_Teller_tellRow_31 ?_
    refine j_putI (pc := 32) d_Teller_tellRow_32 fl_Teller_76 rfl sx_3 (by decide) rfl ?_
    refine j_aload_n (pc := 35) (q := 0) d_Teller_tellRow_35 rfl rfl ?_
    refine j_aload_n (pc := 36) (q := 0) d_Teller_tellRow_36 rfl rfl ?_
    refine j_nmM (fun N4 => ?_)
    refine j_getI (pc := 37) d_Teller_tellRow_37 fl_Teller_79 sx_3 (by decide) rfl ?_
    refine j_iload_n (pc := 40) (q := 1) d_Teller_tellRow_40 rfl rfl ?_
    refine j_mmax (pc := 41) d_Teller_tellRow_41 mw_Teller_169 ms_max mc_max (by decide) (Nat.le_of_ble_eq_true rfl) ?_
    refine j_putI (pc := 44) d_Teller_tellRow_44 fl_Teller_79 rfl sx_3 (by decide) rfl ?_
    refine j_aload_n (pc := 47) (q := 0) d_Teller_tellRow_47 rfl rfl ?_
    refine j_getA (pc := 48) d_Teller_tellRow_48 fl_Teller_25 sx_3 (by decide) rfl ?_
    refine j_lconst (pc := 51) d_Teller_tellRow_51 k_l_0 ?_
    refine j_nmM (fun N5 => ?_)
    refine j_callV1 (pc := 52) d_Teller_tellRow_52 (C_Row_take n 10 sx_10 0 N5) cV_Teller_174 cd_Row_take dn_Row_take rfl (by decide) (Nat.le_of_ble_eq_true rfl) (Nat.le_of_ble_eq_true rfl) nr_U sx_10 (by decide) rfl (fun r6 M7 => ?_)
    refine j_aload_n (pc := 55) (q := 0) d_Teller_tellRow_55 rfl rfl ?_
    refine j_aload_n (pc := 56) (q := 0) d_Teller_tellRow_56 rfl rfl ?_
    refine j_iconst (pc := 57) d_Teller_tellRow_57 k_i_0 ?_
    refine j_bipush (pc := 58) d_Teller_tellRow_58 k_b_15 ?_
    refine j_callV2 (pc := 60) d_Teller_tellRow_60 (C_Teller_takeNumber n 0 15 M7) cV_Teller_162 cd_Teller_takeNumber dn_Teller_takeNumber rfl (by decide) (Nat.le_of_ble_eq_true rfl) (Nat.le_of_ble_eq_true rfl) nr_I sx_3 (by decide) rfl (fun r8 M9 => ?_)
    refine j_callV1 (pc := 63) d_Teller_tellRow_63 (C_Teller_tellThing n r8 M9) cV_Teller_178 cd_Teller_tellThing dn_Teller_tellThing rfl (by decide) (Nat.le_of_ble_eq_true rfl) (Nat.le_of_ble_eq_true rfl) nr_U sx_3 (by decide) rfl (fun r10 M11 => ?_)
    refine j_aload_n (pc := 66) (q := 0) d_Teller_tellRow_66 rfl rfl ?_
    refine j_callV0 (pc := 67) d_Teller_tellRow_67 (C_Teller_readToken n M11) cV_Teller_42 cd_Teller_readToken dn_Teller_readToken rfl (by decide) (Nat.le_of_ble_eq_true rfl) (Nat.le_of_ble_eq_true rfl) nr_U sx_3 (by decide) rfl (fun r12 M13 => ?_)
    refine j_iconst (pc := 70) d_Teller_tellRow_70 k_i_1 ?_
    refine j_istore_n (pc := 71) d_Teller_tellRow_71 rfl (by decide) rfl ?_
    refine j_lv [1, 2, 0] rfl ?_
    refine X_Teller_tellRow_L72_ok  (fun M20 => ?_) n 1 M13
    refine j_aload_n (pc := 114) (q := 0) d_Teller_tellRow_114 rfl rfl ?_
    refine j_getI (pc := 115) d_Teller_tellRow_115 fl_Teller_48 sx_3 (by decide) rfl ?_
    refine j_iconst (pc := 118) d_Teller_tellRow_118 k_i_3 ?_
    refine j_nmk (fun k => ∀ (M21 : Mem), J (mt_Teller_tellRow) wU 127 [(0, Value.ref 3), (1, Value.int r1)] [] M21 (k M21)) (fun M21 => ?_) (fun k127 hk127 => ?_)
    · refine j_aload_n (pc := 127) (q := 0) d_Teller_tellRow_127 rfl rfl ?_
      refine j_aload_n (pc := 128) (q := 0) d_Teller_tellRow_128 rfl rfl ?_
      refine j_getI (pc := 129) d_Teller_tellRow_129 fl_Teller_82 sx_3 (by decide) rfl ?_
      refine j_aload_n (pc := 132) (q := 0) d_Teller_tellRow_132 rfl rfl ?_
      refine j_getA (pc := 133) d_Teller_tellRow_133 fl_Teller_25 sx_3 (by decide) rfl ?_
      refine j_getI (pc := 136) d_Teller_tellRow_136 fl_Teller_184 sx_10 (by decide) rfl ?_
      refine j_callS1 (pc := 139) d_Teller_tellRow_139 (C_Integer_bitCount n (M21.1 10 1) M21) cS_Teller_187 cd_Integer_bitCount dn_Integer_bitCount rfl (by decide) (Nat.le_of_ble_eq_true rfl) (Nat.le_of_ble_eq_true rfl) nr_I (fun r22 M23 => ?_)
      refine j_mmax (pc := 142) d_Teller_tellRow_142 mw_Teller_169 ms_max mc_max (by decide) (Nat.le_of_ble_eq_true rfl) ?_
      refine j_putI (pc := 145) d_Teller_tellRow_145 fl_Teller_82 rfl sx_3 (by decide) rfl ?_
      refine j_aload_n (pc := 148) (q := 0) d_Teller_tellRow_148 rfl rfl ?_
      refine j_getA (pc := 149) d_Teller_tellRow_149 fl_Teller_18 sx_3 (by decide) rfl ?_
      refine j_iload_n (pc := 152) (q := 1) d_Teller_tellRow_152 rfl rfl ?_
      refine j_aload_n (pc := 153) (q := 0) d_Teller_tellRow_153 rfl rfl ?_
      refine j_getA (pc := 154) d_Teller_tellRow_154 fl_Teller_25 sx_3 (by decide) rfl ?_
      refine j_nmM (fun N24 => ?_)
      refine j_callV0 (pc := 157) d_Teller_tellRow_157 (C_Row_atRest n 10 sx_10 N24) cV_Teller_193 cd_Row_atRest dn_Row_atRest rfl (by decide) (Nat.le_of_ble_eq_true rfl) (Nat.le_of_ble_eq_true rfl) nr_L sx_10 (by decide) rfl (fun r25 M26 => ?_)
      refine j_last (pc := 160) d_Teller_tellRow_160 sx_9 (fun _ => ?_)
      exact j_return (pc := 161) d_Teller_tellRow_161 rfl
    · refine j_icmp_eq (pc := 119) (tgt := 127) d_Teller_tellRow_119 (by decide) (fun _ => ?_) (fun _ => ?_)
      · exact hk127 M20
      · refine j_aload_n (pc := 122) (q := 0) d_Teller_tellRow_122 rfl rfl ?_
        refine j_iconst (pc := 123) d_Teller_tellRow_123 k_i_2 ?_
        refine j_callV1 (pc := 124) d_Teller_tellRow_124 (C_Teller_refuse n 2 M20) cV_Teller_88 cd_Teller_refuse dn_Teller_refuse rfl (by decide) (Nat.le_of_ble_eq_true rfl) (Nat.le_of_ble_eq_true rfl) nr_U sx_3 (by decide) rfl (fun r27 M28 => ?_)
        exact hk127 M28
  · refine j_if_eq (pc := 15) (tgt := 23) d_Teller_tellRow_15 (by decide) (fun _ => ?_) (fun _ => ?_)
    · refine j_lv [1, 0] rfl ?_
      exact hk23 M2
    · refine j_aload_n (pc := 18) (q := 1) d_Teller_tellRow_18 rfl rfl ?_
      refine j_iconst (pc := 19) d_Teller_tellRow_19 k_i_4 ?_
      refine j_callV1 (pc := 20) d_Teller_tellRow_20 (C_Teller_refuse n 4 M2) cV_Teller_88 cd_Teller_refuse dn_Teller_refuse rfl (by decide) (Nat.le_of_ble_eq_true rfl) (Nat.le_of_ble_eq_true rfl) nr_U sx_3 (by decide) rfl (fun r29 M30 => ?_)
      refine j_lv [1, 0] rfl ?_
      exact hk23 M30
-- Teller.tellLine ()V
def mt_Teller_tellLine : Mt := ("ShakeHands$Teller", b_Teller_tellLine, 1, none, 13, SHx)
theorem d_Teller_tellLine_0 : decode b_Teller_tellLine 0 = .ok (.aload_n 0, 1) := by decide +kernel
theorem d_Teller_tellLine_1 : decode b_Teller_tellLine 1 = .ok (.getfield 48, 3) := by decide +kernel
theorem d_Teller_tellLine_4 : decode b_Teller_tellLine 4 = .ok (.iconst 1, 1) := by decide +kernel
theorem d_Teller_tellLine_5 : decode b_Teller_tellLine 5 = .ok (.if_icmp .eq 11, 3) := by decide +kernel
theorem d_Teller_tellLine_8 : decode b_Teller_tellLine 8 = .ok (.aload_n 0, 1) := by decide +kernel
theorem d_Teller_tellLine_9 : decode b_Teller_tellLine 9 = .ok (.iconst 2, 1) := by decide +kernel
theorem d_Teller_tellLine_10 : decode b_Teller_tellLine 10 = .ok (.invokevirtual 88, 3) := by decide +kernel
theorem d_Teller_tellLine_13 : decode b_Teller_tellLine 13 = .ok (.goto 162, 3) := by decide +kernel
theorem d_Teller_tellLine_16 : decode b_Teller_tellLine 16 = .ok (.aload_n 0, 1) := by decide +kernel
theorem d_Teller_tellLine_17 : decode b_Teller_tellLine 17 = .ok (.ldc 115, 2) := by decide +kernel
theorem d_Teller_tellLine_19 : decode b_Teller_tellLine 19 = .ok (.invokevirtual 116, 3) := by decide +kernel
theorem d_Teller_tellLine_22 : decode b_Teller_tellLine 22 = .ok (.ifCond .eq 10, 3) := by decide +kernel
theorem d_Teller_tellLine_25 : decode b_Teller_tellLine 25 = .ok (.aload_n 0, 1) := by decide +kernel
theorem d_Teller_tellLine_26 : decode b_Teller_tellLine 26 = .ok (.invokevirtual 120, 3) := by decide +kernel
theorem d_Teller_tellLine_29 : decode b_Teller_tellLine 29 = .ok (.goto 146, 3) := by decide +kernel
theorem d_Teller_tellLine_32 : decode b_Teller_tellLine 32 = .ok (.aload_n 0, 1) := by decide +kernel
theorem d_Teller_tellLine_33 : decode b_Teller_tellLine 33 = .ok (.ldc 123, 2) := by decide +kernel
theorem d_Teller_tellLine_35 : decode b_Teller_tellLine 35 = .ok (.invokevirtual 116, 3) := by decide +kernel
theorem d_Teller_tellLine_38 : decode b_Teller_tellLine 38 = .ok (.ifCond .eq 10, 3) := by decide +kernel
theorem d_Teller_tellLine_41 : decode b_Teller_tellLine 41 = .ok (.aload_n 0, 1) := by decide +kernel
theorem d_Teller_tellLine_42 : decode b_Teller_tellLine 42 = .ok (.invokevirtual 124, 3) := by decide +kernel
theorem d_Teller_tellLine_45 : decode b_Teller_tellLine 45 = .ok (.goto 130, 3) := by decide +kernel
theorem d_Teller_tellLine_48 : decode b_Teller_tellLine 48 = .ok (.aload_n 0, 1) := by decide +kernel
theorem d_Teller_tellLine_49 : decode b_Teller_tellLine 49 = .ok (.ldc 127, 2) := by decide +kernel
theorem d_Teller_tellLine_51 : decode b_Teller_tellLine 51 = .ok (.invokevirtual 116, 3) := by decide +kernel
theorem d_Teller_tellLine_54 : decode b_Teller_tellLine 54 = .ok (.ifCond .eq 10, 3) := by decide +kernel
theorem d_Teller_tellLine_57 : decode b_Teller_tellLine 57 = .ok (.aload_n 0, 1) := by decide +kernel
theorem d_Teller_tellLine_58 : decode b_Teller_tellLine 58 = .ok (.invokevirtual 129, 3) := by decide +kernel
theorem d_Teller_tellLine_61 : decode b_Teller_tellLine 61 = .ok (.goto 114, 3) := by decide +kernel
theorem d_Teller_tellLine_64 : decode b_Teller_tellLine 64 = .ok (.aload_n 0, 1) := by decide +kernel
theorem d_Teller_tellLine_65 : decode b_Teller_tellLine 65 = .ok (.ldc 132, 2) := by decide +kernel
theorem d_Teller_tellLine_67 : decode b_Teller_tellLine 67 = .ok (.invokevirtual 116, 3) := by decide +kernel
theorem d_Teller_tellLine_70 : decode b_Teller_tellLine 70 = .ok (.ifCond .eq 10, 3) := by decide +kernel
theorem d_Teller_tellLine_73 : decode b_Teller_tellLine 73 = .ok (.aload_n 0, 1) := by decide +kernel
theorem d_Teller_tellLine_74 : decode b_Teller_tellLine 74 = .ok (.invokevirtual 134, 3) := by decide +kernel
theorem d_Teller_tellLine_77 : decode b_Teller_tellLine 77 = .ok (.goto 98, 3) := by decide +kernel
theorem d_Teller_tellLine_80 : decode b_Teller_tellLine 80 = .ok (.aload_n 0, 1) := by decide +kernel
theorem d_Teller_tellLine_81 : decode b_Teller_tellLine 81 = .ok (.ldc 137, 2) := by decide +kernel
theorem d_Teller_tellLine_83 : decode b_Teller_tellLine 83 = .ok (.invokevirtual 116, 3) := by decide +kernel
theorem d_Teller_tellLine_86 : decode b_Teller_tellLine 86 = .ok (.ifCond .eq 31, 3) := by decide +kernel
theorem d_Teller_tellLine_89 : decode b_Teller_tellLine 89 = .ok (.aload_n 0, 1) := by decide +kernel
theorem d_Teller_tellLine_90 : decode b_Teller_tellLine 90 = .ok (.getfield 12, 3) := by decide +kernel
theorem d_Teller_tellLine_93 : decode b_Teller_tellLine 93 = .ok (.aload_n 0, 1) := by decide +kernel
theorem d_Teller_tellLine_94 : decode b_Teller_tellLine 94 = .ok (.aload_n 0, 1) := by decide +kernel
theorem d_Teller_tellLine_95 : decode b_Teller_tellLine 95 = .ok (.getfield 12, 3) := by decide +kernel
theorem d_Teller_tellLine_98 : decode b_Teller_tellLine 98 = .ok (.getfield 139, 3) := by decide +kernel
theorem d_Teller_tellLine_101 : decode b_Teller_tellLine 101 = .ok (.aload_n 0, 1) := by decide +kernel
theorem d_Teller_tellLine_102 : decode b_Teller_tellLine 102 = .ok (.getfield 12, 3) := by decide +kernel
theorem d_Teller_tellLine_105 : decode b_Teller_tellLine 105 = .ok (.getfield 143, 3) := by decide +kernel
theorem d_Teller_tellLine_108 : decode b_Teller_tellLine 108 = .ok (.invokevirtual 146, 3) := by decide +kernel
theorem d_Teller_tellLine_111 : decode b_Teller_tellLine 111 = .ok (.putfield 143, 3) := by decide +kernel
theorem d_Teller_tellLine_114 : decode b_Teller_tellLine 114 = .ok (.goto 61, 3) := by decide +kernel
theorem d_Teller_tellLine_117 : decode b_Teller_tellLine 117 = .ok (.aload_n 0, 1) := by decide +kernel
theorem d_Teller_tellLine_118 : decode b_Teller_tellLine 118 = .ok (.ldc 150, 2) := by decide +kernel
theorem d_Teller_tellLine_120 : decode b_Teller_tellLine 120 = .ok (.invokevirtual 116, 3) := by decide +kernel
theorem d_Teller_tellLine_123 : decode b_Teller_tellLine 123 = .ok (.ifCond .eq 31, 3) := by decide +kernel
theorem d_Teller_tellLine_126 : decode b_Teller_tellLine 126 = .ok (.aload_n 0, 1) := by decide +kernel
theorem d_Teller_tellLine_127 : decode b_Teller_tellLine 127 = .ok (.getfield 12, 3) := by decide +kernel
theorem d_Teller_tellLine_130 : decode b_Teller_tellLine 130 = .ok (.aload_n 0, 1) := by decide +kernel
theorem d_Teller_tellLine_131 : decode b_Teller_tellLine 131 = .ok (.aload_n 0, 1) := by decide +kernel
theorem d_Teller_tellLine_132 : decode b_Teller_tellLine 132 = .ok (.getfield 12, 3) := by decide +kernel
theorem d_Teller_tellLine_135 : decode b_Teller_tellLine 135 = .ok (.getfield 152, 3) := by decide +kernel
theorem d_Teller_tellLine_138 : decode b_Teller_tellLine 138 = .ok (.aload_n 0, 1) := by decide +kernel
theorem d_Teller_tellLine_139 : decode b_Teller_tellLine 139 = .ok (.getfield 12, 3) := by decide +kernel
theorem d_Teller_tellLine_142 : decode b_Teller_tellLine 142 = .ok (.getfield 154, 3) := by decide +kernel
theorem d_Teller_tellLine_145 : decode b_Teller_tellLine 145 = .ok (.invokevirtual 146, 3) := by decide +kernel
theorem d_Teller_tellLine_148 : decode b_Teller_tellLine 148 = .ok (.putfield 154, 3) := by decide +kernel
theorem d_Teller_tellLine_151 : decode b_Teller_tellLine 151 = .ok (.goto 24, 3) := by decide +kernel
theorem d_Teller_tellLine_154 : decode b_Teller_tellLine 154 = .ok (.aload_n 0, 1) := by decide +kernel
theorem d_Teller_tellLine_155 : decode b_Teller_tellLine 155 = .ok (.ldc 157, 2) := by decide +kernel
theorem d_Teller_tellLine_157 : decode b_Teller_tellLine 157 = .ok (.invokevirtual 116, 3) := by decide +kernel
theorem d_Teller_tellLine_160 : decode b_Teller_tellLine 160 = .ok (.ifCond .eq 10, 3) := by decide +kernel
theorem d_Teller_tellLine_163 : decode b_Teller_tellLine 163 = .ok (.aload_n 0, 1) := by decide +kernel
theorem d_Teller_tellLine_164 : decode b_Teller_tellLine 164 = .ok (.invokevirtual 159, 3) := by decide +kernel
theorem d_Teller_tellLine_167 : decode b_Teller_tellLine 167 = .ok (.goto 8, 3) := by decide +kernel
theorem d_Teller_tellLine_170 : decode b_Teller_tellLine 170 = .ok (.aload_n 0, 1) := by decide +kernel
theorem d_Teller_tellLine_171 : decode b_Teller_tellLine 171 = .ok (.iconst 2, 1) := by decide +kernel
theorem d_Teller_tellLine_172 : decode b_Teller_tellLine 172 = .ok (.invokevirtual 88, 3) := by decide +kernel
theorem d_Teller_tellLine_175 : decode b_Teller_tellLine 175 = .ok (.return_, 1) := by decide +kernel
def X_Teller_tellLine (n : Nat) (M : Mem) : Option (Unit × Mem) :=
  (if (M.1 3 7) = 1 then
    bd (X_Teller_isCalled n 0 M) fun r1 M2 =>
    (if r1 = 0 then
      bd (X_Teller_isCalled n 1 M2) fun r3 M4 =>
      (if r3 = 0 then
        bd (X_Teller_isCalled n 2 M4) fun r5 M6 =>
        (if r5 = 0 then
          bd (X_Teller_isCalled n 3 M6) fun r7 M8 =>
          (if r7 = 0 then
            bd (X_Teller_isCalled n 4 M8) fun r9 M10 =>
            (if r9 = 0 then
              bd (X_Teller_isCalled n 5 M10) fun r11 M12 =>
              (if r11 = 0 then
                bd (X_Teller_isCalled n 6 M12) fun r13 M14 =>
                (if r13 = 0 then
                  bd (X_Teller_refuse n 2 M14) fun _ M16 =>
                  some ((), M16)
                  else
                  bd (X_Teller_tellGlove n M14) fun _ M18 =>
                  some ((), M18))
                else
                bd (X_Teller_tellPair n 7 8 (M12.1 4 7) M12) fun r19 M20 =>
                some ((), si M20 4 7 r19))
              else
              bd (X_Teller_tellPair n 6 16 (M10.1 4 5) M10) fun r21 M22 =>
              some ((), si M22 4 5 r21))
            else
            bd (X_Teller_tellJoin n M8) fun _ M24 =>
            some ((), M24))
          else
          bd (X_Teller_tellRow n M6) fun _ M26 =>
          some ((), M26))
        else
        bd (X_Teller_tellHold n M4) fun _ M28 =>
        some ((), M28))
      else
      bd (X_Teller_tellPeople n M2) fun _ M30 =>
      some ((), M30))
    else
    bd (X_Teller_refuse n 2 M) fun _ M32 =>
    some ((), M32))
set_option maxRecDepth 20000 in
set_option maxHeartbeats 4000000 in
theorem C_Teller_tellLine (n : Nat)    (M : Mem) : Ct y_Teller_tellLine mt_Teller_tellLine wU [Value.ref 3] M (X_Teller_tellLine n M) := by
  refine ct_of (by decide +kernel) rfl (Nat.le_of_ble_eq_true rfl) ?_
  show J _ _ _ [(0, Value.ref 3)] _ _ _
  unfold X_Teller_tellLine
  refine j_aload_n (pc := 0) (q := 0) d_Teller_tellLine_0 rfl rfl ?_
  refine j_getI (pc := 1) d_Teller_tellLine_1 fl_Teller_48 sx_3 (by decide) rfl ?_
  refine j_iconst (pc := 4) d_Teller_tellLine_4 k_i_1 ?_
  refine j_icmp_eq (pc := 5) (tgt := 16) d_Teller_tellLine_5 (by decide) (fun _ => ?_) (fun _ => ?_)
  · refine j_aload_n (pc := 16) (q := 0) d_Teller_tellLine_16 rfl rfl ?_
    refine j_ldcS (pc := 17) (own := "ShakeHands$Teller") (k := 0) d_Teller_tellLine_17 rfl rfl ?_
    refine j_callV1 (pc := 19) d_Teller_tellLine_19 (C_Teller_isCalled n 0 (by decide) M) cV_Teller_116 cd_Teller_isCalled dn_Teller_isCalled rfl (by decide) (Nat.le_of_ble_eq_true rfl) (Nat.le_of_ble_eq_true rfl) nr_I sx_3 (by decide) rfl (fun r1 M2 => ?_)
    refine j_if_eq (pc := 22) (tgt := 32) d_Teller_tellLine_22 (by decide) (fun _ => ?_) (fun _ => ?_)
    · refine j_aload_n (pc := 32) (q := 0) d_Teller_tellLine_32 rfl rfl ?_
      refine j_ldcS (pc := 33) (own := "ShakeHands$Teller") (k := 1) d_Teller_tellLine_33 rfl rfl ?_
      refine j_callV1 (pc := 35) d_Teller_tellLine_35 (C_Teller_isCalled n 1 (by decide) M2) cV_Teller_116 cd_Teller_isCalled dn_Teller_isCalled rfl (by decide) (Nat.le_of_ble_eq_true rfl) (Nat.le_of_ble_eq_true rfl) nr_I sx_3 (by decide) rfl (fun r3 M4 => ?_)
      refine j_if_eq (pc := 38) (tgt := 48) d_Teller_tellLine_38 (by decide) (fun _ => ?_) (fun _ => ?_)
      · refine j_aload_n (pc := 48) (q := 0) d_Teller_tellLine_48 rfl rfl ?_
        refine j_ldcS (pc := 49) (own := "ShakeHands$Teller") (k := 2) d_Teller_tellLine_49 rfl rfl ?_
        refine j_callV1 (pc := 51) d_Teller_tellLine_51 (C_Teller_isCalled n 2 (by decide) M4) cV_Teller_116 cd_Teller_isCalled dn_Teller_isCalled rfl (by decide) (Nat.le_of_ble_eq_true rfl) (Nat.le_of_ble_eq_true rfl) nr_I sx_3 (by decide) rfl (fun r5 M6 => ?_)
        refine j_if_eq (pc := 54) (tgt := 64) d_Teller_tellLine_54 (by decide) (fun _ => ?_) (fun _ => ?_)
        · refine j_aload_n (pc := 64) (q := 0) d_Teller_tellLine_64 rfl rfl ?_
          refine j_ldcS (pc := 65) (own := "ShakeHands$Teller") (k := 3) d_Teller_tellLine_65 rfl rfl ?_
          refine j_callV1 (pc := 67) d_Teller_tellLine_67 (C_Teller_isCalled n 3 (by decide) M6) cV_Teller_116 cd_Teller_isCalled dn_Teller_isCalled rfl (by decide) (Nat.le_of_ble_eq_true rfl) (Nat.le_of_ble_eq_true rfl) nr_I sx_3 (by decide) rfl (fun r7 M8 => ?_)
          refine j_if_eq (pc := 70) (tgt := 80) d_Teller_tellLine_70 (by decide) (fun _ => ?_) (fun _ => ?_)
          · refine j_aload_n (pc := 80) (q := 0) d_Teller_tellLine_80 rfl rfl ?_
            refine j_ldcS (pc := 81) (own := "ShakeHands$Teller") (k := 4) d_Teller_tellLine_81 rfl rfl ?_
            refine j_callV1 (pc := 83) d_Teller_tellLine_83 (C_Teller_isCalled n 4 (by decide) M8) cV_Teller_116 cd_Teller_isCalled dn_Teller_isCalled rfl (by decide) (Nat.le_of_ble_eq_true rfl) (Nat.le_of_ble_eq_true rfl) nr_I sx_3 (by decide) rfl (fun r9 M10 => ?_)
            refine j_if_eq (pc := 86) (tgt := 117) d_Teller_tellLine_86 (by decide) (fun _ => ?_) (fun _ => ?_)
            · refine j_aload_n (pc := 117) (q := 0) d_Teller_tellLine_117 rfl rfl ?_
              refine j_ldcS (pc := 118) (own := "ShakeHands$Teller") (k := 5) d_Teller_tellLine_118 rfl rfl ?_
              refine j_callV1 (pc := 120) d_Teller_tellLine_120 (C_Teller_isCalled n 5 (by decide) M10) cV_Teller_116 cd_Teller_isCalled dn_Teller_isCalled rfl (by decide) (Nat.le_of_ble_eq_true rfl) (Nat.le_of_ble_eq_true rfl) nr_I sx_3 (by decide) rfl (fun r11 M12 => ?_)
              refine j_if_eq (pc := 123) (tgt := 154) d_Teller_tellLine_123 (by decide) (fun _ => ?_) (fun _ => ?_)
              · refine j_aload_n (pc := 154) (q := 0) d_Teller_tellLine_154 rfl rfl ?_
                refine j_ldcS (pc := 155) (own := "ShakeHands$Teller") (k := 6) d_Teller_tellLine_155 rfl rfl ?_
                refine j_callV1 (pc := 157) d_Teller_tellLine_157 (C_Teller_isCalled n 6 (by decide) M12) cV_Teller_116 cd_Teller_isCalled dn_Teller_isCalled rfl (by decide) (Nat.le_of_ble_eq_true rfl) (Nat.le_of_ble_eq_true rfl) nr_I sx_3 (by decide) rfl (fun r13 M14 => ?_)
                refine j_if_eq (pc := 160) (tgt := 170) d_Teller_tellLine_160 (by decide) (fun _ => ?_) (fun _ => ?_)
                · refine j_aload_n (pc := 170) (q := 0) d_Teller_tellLine_170 rfl rfl ?_
                  refine j_iconst (pc := 171) d_Teller_tellLine_171 k_i_2 ?_
                  refine j_callV1 (pc := 172) d_Teller_tellLine_172 (C_Teller_refuse n 2 M14) cV_Teller_88 cd_Teller_refuse dn_Teller_refuse rfl (by decide) (Nat.le_of_ble_eq_true rfl) (Nat.le_of_ble_eq_true rfl) nr_U sx_3 (by decide) rfl (fun r15 M16 => ?_)
                  exact j_return (pc := 175) d_Teller_tellLine_175 rfl
                · refine j_aload_n (pc := 163) (q := 0) d_Teller_tellLine_163 rfl rfl ?_
                  refine j_callV0 (pc := 164) d_Teller_tellLine_164 (C_Teller_tellGlove n M14) cV_Teller_159 cd_Teller_tellGlove dn_Teller_tellGlove rfl (by decide) (Nat.le_of_ble_eq_true rfl) (Nat.le_of_ble_eq_true rfl) nr_U sx_3 (by decide) rfl (fun r17 M18 => ?_)
                  refine j_goto (pc := 167) (tgt := 175) d_Teller_tellLine_167 (by decide) ?_
                  exact j_return (pc := 175) d_Teller_tellLine_175 rfl
              · refine j_aload_n (pc := 126) (q := 0) d_Teller_tellLine_126 rfl rfl ?_
                refine j_getA (pc := 127) d_Teller_tellLine_127 fl_Teller_12 sx_3 (by decide) rfl ?_
                refine j_aload_n (pc := 130) (q := 0) d_Teller_tellLine_130 rfl rfl ?_
                refine j_aload_n (pc := 131) (q := 0) d_Teller_tellLine_131 rfl rfl ?_
                refine j_getA (pc := 132) d_Teller_tellLine_132 fl_Teller_12 sx_3 (by decide) rfl ?_
                refine j_getA (pc := 135) d_Teller_tellLine_135 fl_Teller_152 sx_4 (by decide) rfl ?_
                refine j_aload_n (pc := 138) (q := 0) d_Teller_tellLine_138 rfl rfl ?_
                refine j_getA (pc := 139) d_Teller_tellLine_139 fl_Teller_12 sx_3 (by decide) rfl ?_
                refine j_getI (pc := 142) d_Teller_tellLine_142 fl_Teller_154 sx_4 (by decide) rfl ?_
                refine j_callV2 (pc := 145) d_Teller_tellLine_145 (C_Teller_tellPair n 7 8 sx_7 (M12.1 4 7) M12) cV_Teller_146 cd_Teller_tellPair dn_Teller_tellPair rfl (by decide) (Nat.le_of_ble_eq_true rfl) (Nat.le_of_ble_eq_true rfl) nr_I sx_3 (by decide) rfl (fun r19 M20 => ?_)
                refine j_putI (pc := 148) d_Teller_tellLine_148 fl_Teller_154 rfl sx_4 (by decide) rfl ?_
                refine j_goto (pc := 151) (tgt := 175) d_Teller_tellLine_151 (by decide) ?_
                exact j_return (pc := 175) d_Teller_tellLine_175 rfl
            · refine j_aload_n (pc := 89) (q := 0) d_Teller_tellLine_89 rfl rfl ?_
              refine j_getA (pc := 90) d_Teller_tellLine_90 fl_Teller_12 sx_3 (by decide) rfl ?_
              refine j_aload_n (pc := 93) (q := 0) d_Teller_tellLine_93 rfl rfl ?_
              refine j_aload_n (pc := 94) (q := 0) d_Teller_tellLine_94 rfl rfl ?_
              refine j_getA (pc := 95) d_Teller_tellLine_95 fl_Teller_12 sx_3 (by decide) rfl ?_
              refine j_getA (pc := 98) d_Teller_tellLine_98 fl_Teller_139 sx_4 (by decide) rfl ?_
              refine j_aload_n (pc := 101) (q := 0) d_Teller_tellLine_101 rfl rfl ?_
              refine j_getA (pc := 102) d_Teller_tellLine_102 fl_Teller_12 sx_3 (by decide) rfl ?_
              refine j_getI (pc := 105) d_Teller_tellLine_105 fl_Teller_143 sx_4 (by decide) rfl ?_
              refine j_callV2 (pc := 108) d_Teller_tellLine_108 (C_Teller_tellPair n 6 16 sx_6 (M10.1 4 5) M10) cV_Teller_146 cd_Teller_tellPair dn_Teller_tellPair rfl (by decide) (Nat.le_of_ble_eq_true rfl) (Nat.le_of_ble_eq_true rfl) nr_I sx_3 (by decide) rfl (fun r21 M22 => ?_)
              refine j_putI (pc := 111) d_Teller_tellLine_111 fl_Teller_143 rfl sx_4 (by decide) rfl ?_
              refine j_goto (pc := 114) (tgt := 175) d_Teller_tellLine_114 (by decide) ?_
              exact j_return (pc := 175) d_Teller_tellLine_175 rfl
          · refine j_aload_n (pc := 73) (q := 0) d_Teller_tellLine_73 rfl rfl ?_
            refine j_callV0 (pc := 74) d_Teller_tellLine_74 (C_Teller_tellJoin n M8) cV_Teller_134 cd_Teller_tellJoin dn_Teller_tellJoin rfl (by decide) (Nat.le_of_ble_eq_true rfl) (Nat.le_of_ble_eq_true rfl) nr_U sx_3 (by decide) rfl (fun r23 M24 => ?_)
            refine j_goto (pc := 77) (tgt := 175) d_Teller_tellLine_77 (by decide) ?_
            exact j_return (pc := 175) d_Teller_tellLine_175 rfl
        · refine j_aload_n (pc := 57) (q := 0) d_Teller_tellLine_57 rfl rfl ?_
          refine j_callV0 (pc := 58) d_Teller_tellLine_58 (C_Teller_tellRow n M6) cV_Teller_129 cd_Teller_tellRow dn_Teller_tellRow rfl (by decide) (Nat.le_of_ble_eq_true rfl) (Nat.le_of_ble_eq_true rfl) nr_U sx_3 (by decide) rfl (fun r25 M26 => ?_)
          refine j_goto (pc := 61) (tgt := 175) d_Teller_tellLine_61 (by decide) ?_
          exact j_return (pc := 175) d_Teller_tellLine_175 rfl
      · refine j_aload_n (pc := 41) (q := 0) d_Teller_tellLine_41 rfl rfl ?_
        refine j_callV0 (pc := 42) d_Teller_tellLine_42 (C_Teller_tellHold n M4) cV_Teller_124 cd_Teller_tellHold dn_Teller_tellHold rfl (by decide) (Nat.le_of_ble_eq_true rfl) (Nat.le_of_ble_eq_true rfl) nr_U sx_3 (by decide) rfl (fun r27 M28 => ?_)
        refine j_goto (pc := 45) (tgt := 175) d_Teller_tellLine_45 (by decide) ?_
        exact j_return (pc := 175) d_Teller_tellLine_175 rfl
    · refine j_aload_n (pc := 25) (q := 0) d_Teller_tellLine_25 rfl rfl ?_
      refine j_callV0 (pc := 26) d_Teller_tellLine_26 (C_Teller_tellPeople n M2) cV_Teller_120 cd_Teller_tellPeople dn_Teller_tellPeople rfl (by decide) (Nat.le_of_ble_eq_true rfl) (Nat.le_of_ble_eq_true rfl) nr_U sx_3 (by decide) rfl (fun r29 M30 => ?_)
      refine j_goto (pc := 29) (tgt := 175) d_Teller_tellLine_29 (by decide) ?_
      exact j_return (pc := 175) d_Teller_tellLine_175 rfl
  · refine j_aload_n (pc := 8) (q := 0) d_Teller_tellLine_8 rfl rfl ?_
    refine j_iconst (pc := 9) d_Teller_tellLine_9 k_i_2 ?_
    refine j_callV1 (pc := 10) d_Teller_tellLine_10 (C_Teller_refuse n 2 M) cV_Teller_88 cd_Teller_refuse dn_Teller_refuse rfl (by decide) (Nat.le_of_ble_eq_true rfl) (Nat.le_of_ble_eq_true rfl) nr_U sx_3 (by decide) rfl (fun r31 M32 => ?_)
    refine j_goto (pc := 13) (tgt := 175) d_Teller_tellLine_13 (by decide) ?_
    exact j_return (pc := 175) d_Teller_tellLine_175 rfl
-- Teller.tell ()I
def mt_Teller_tell : Mt := ("ShakeHands$Teller", b_Teller_tell, 2, some .int, 14, SHx)
theorem d_Teller_tell_0 : decode b_Teller_tell 0 = .ok (.aload_n 0, 1) := by decide +kernel
theorem d_Teller_tell_1 : decode b_Teller_tell 1 = .ok (.invokevirtual 33, 3) := by decide +kernel
theorem d_Teller_tell_4 : decode b_Teller_tell 4 = .ok (.iconst 0, 1) := by decide +kernel
theorem d_Teller_tell_5 : decode b_Teller_tell 5 = .ok (.istore_n 1, 1) := by decide +kernel
theorem d_Teller_tell_6 : decode b_Teller_tell 6 = .ok (.iload_n 1, 1) := by decide +kernel
theorem d_Teller_tell_7 : decode b_Teller_tell 7 = .ok (.aload_n 0, 1) := by decide +kernel
theorem d_Teller_tell_8 : decode b_Teller_tell 8 = .ok (.getfield 29, 3) := by decide +kernel
theorem d_Teller_tell_11 : decode b_Teller_tell 11 = .ok (.getfield 36, 3) := by decide +kernel
theorem d_Teller_tell_14 : decode b_Teller_tell 14 = .ok (.if_icmp .gt 34, 3) := by decide +kernel
theorem d_Teller_tell_17 : decode b_Teller_tell 17 = .ok (.aload_n 0, 1) := by decide +kernel
theorem d_Teller_tell_18 : decode b_Teller_tell 18 = .ok (.invokevirtual 42, 3) := by decide +kernel
theorem d_Teller_tell_21 : decode b_Teller_tell 21 = .ok (.aload_n 0, 1) := by decide +kernel
theorem d_Teller_tell_22 : decode b_Teller_tell 22 = .ok (.getfield 45, 3) := by decide +kernel
theorem d_Teller_tell_25 : decode b_Teller_tell 25 = .ok (.ifCond .ne 23, 3) := by decide +kernel
theorem d_Teller_tell_28 : decode b_Teller_tell 28 = .ok (.aload_n 0, 1) := by decide +kernel
theorem d_Teller_tell_29 : decode b_Teller_tell 29 = .ok (.getfield 48, 3) := by decide +kernel
theorem d_Teller_tell_32 : decode b_Teller_tell 32 = .ok (.ifCond .ne 6, 3) := by decide +kernel
theorem d_Teller_tell_35 : decode b_Teller_tell 35 = .ok (.goto 13, 3) := by decide +kernel
theorem d_Teller_tell_38 : decode b_Teller_tell 38 = .ok (.aload_n 0, 1) := by decide +kernel
theorem d_Teller_tell_39 : decode b_Teller_tell 39 = .ok (.invokevirtual 51, 3) := by decide +kernel
theorem d_Teller_tell_42 : decode b_Teller_tell 42 = .ok (.iinc 1 1, 3) := by decide +kernel
theorem d_Teller_tell_45 : decode b_Teller_tell 45 = .ok (.goto (-39), 3) := by decide +kernel
theorem d_Teller_tell_48 : decode b_Teller_tell 48 = .ok (.aload_n 0, 1) := by decide +kernel
theorem d_Teller_tell_49 : decode b_Teller_tell 49 = .ok (.invokevirtual 54, 3) := by decide +kernel
theorem d_Teller_tell_52 : decode b_Teller_tell 52 = .ok (.aload_n 0, 1) := by decide +kernel
theorem d_Teller_tell_53 : decode b_Teller_tell 53 = .ok (.getfield 45, 3) := by decide +kernel
theorem d_Teller_tell_56 : decode b_Teller_tell 56 = .ok (.ifCond .ne 7, 3) := by decide +kernel
theorem d_Teller_tell_59 : decode b_Teller_tell 59 = .ok (.iload_n 1, 1) := by decide +kernel
theorem d_Teller_tell_60 : decode b_Teller_tell 60 = .ok (.goto 10, 3) := by decide +kernel
theorem d_Teller_tell_63 : decode b_Teller_tell 63 = .ok (.bipush (-10), 2) := by decide +kernel
theorem d_Teller_tell_65 : decode b_Teller_tell 65 = .ok (.aload_n 0, 1) := by decide +kernel
theorem d_Teller_tell_66 : decode b_Teller_tell 66 = .ok (.getfield 57, 3) := by decide +kernel
theorem d_Teller_tell_69 : decode b_Teller_tell 69 = .ok (.isub, 1) := by decide +kernel
theorem d_Teller_tell_70 : decode b_Teller_tell 70 = .ok (.ireturn, 1) := by decide +kernel
def X_Teller_tell_L6 (n : Nat) (kx48 : Int32 → Mem → Option (Int32 × Mem)) (kx35 : Int32 → Mem → Option (Int32 × Mem)) : Nat → Int32 → Mem → Option (Int32 × Mem)
    | 0, _, _ => none
    | m + 1, v1, M => (if (M.1 1 1) < v1 then
    kx48 v1 M
    else
    bd (X_Teller_readToken n M) fun _ M4 =>
    (if (M4.1 3 3) = 0 then
      (if (M4.1 3 7) = 0 then
        kx35 v1 M4
        else
        bd (X_Teller_tellLine n M4) fun _ M6 =>
        X_Teller_tell_L6 n kx48 kx35 m (v1 + 1) M6)
      else
      kx48 v1 M4))
def X_Teller_tell (n : Nat) (M : Mem) : Option (Int32 × Mem) :=
  bd (X_Teller_begin n M) fun _ M2 =>
  X_Teller_tell_L6 n (fun y7 M8 => bd (X_Teller_lookBack n M8) fun _ M10 =>
    (if (M10.1 3 3) = 0 then
      some (y7, M10)
      else
      some (((-10) - (M10.1 3 8)), M10))) (fun y11 M12 => bd (X_Teller_lookBack n M12) fun _ M14 =>
    (if (M14.1 3 3) = 0 then
      some (y11, M14)
      else
      some (((-10) - (M14.1 3 8)), M14))) n 0 M2
set_option maxRecDepth 20000 in
set_option maxHeartbeats 4000000 in
theorem X_Teller_tell_L6_ok {n : Nat} {kx48 : Int32 → Mem → Option (Int32 × Mem)} {kx35 : Int32 → Mem → Option (Int32 × Mem)} (hkx48 : ∀ (w1 : Int32) (M : Mem), J (mt_Teller_tell) wI 48 [(0, Value.ref 3), (1, Value.int w1)] [] M (kx48 w1 M)) (hkx35 : ∀ (w1 : Int32) (M : Mem), J (mt_Teller_tell) wI 35 [(0, Value.ref 3), (1, Value.int w1)] [] M (kx35 w1 M)) : ∀ (m : Nat) (v1 : Int32) (M : Mem), J (mt_Teller_tell) wI 6 [(0, Value.ref 3), (1, Value.int v1)] [] M (X_Teller_tell_L6 n kx48 kx35 m v1 M) := by
  intro m
  induction m with
  | zero => intro _ _; exact j_none
  | succ m ih =>
    intro v1 M
    show J _ _ _ _ _ _ ((if (M.1 1 1) < v1 then
kx48 v1 M
else
bd (X_Teller_readToken n M) fun _ M4 =>
(if (M4.1 3 3) = 0 then
(if (M4.1 3 7) = 0 then
kx35 v1 M4
else
bd (X_Teller_tellLine n M4) fun _ M6 =>
X_Teller_tell_L6 n kx48 kx35 m (v1 + 1) M6)
else
kx48 v1 M4)))
    refine j_iload_n (pc := 6) (q := 1) d_Teller_tell_6 rfl rfl ?_
    refine j_aload_n (pc := 7) (q := 0) d_Teller_tell_7 rfl rfl ?_
    refine j_getA (pc := 8) d_Teller_tell_8 fl_Teller_29 sx_3 (by decide) rfl ?_
    refine j_getI (pc := 11) d_Teller_tell_11 fl_Teller_36 sx_1 (by decide) rfl ?_
    refine j_icmp_gt (pc := 14) (tgt := 48) d_Teller_tell_14 (by decide) (fun _ => ?_) (fun _ => ?_)
    · exact hkx48 v1 M
    · refine j_aload_n (pc := 17) (q := 0) d_Teller_tell_17 rfl rfl ?_
      refine j_callV0 (pc := 18) d_Teller_tell_18 (C_Teller_readToken n M) cV_Teller_42 cd_Teller_readToken dn_Teller_readToken rfl (by decide) (Nat.le_of_ble_eq_true rfl) (Nat.le_of_ble_eq_true rfl) nr_U sx_3 (by decide) rfl (fun r3 M4 => ?_)
      refine j_aload_n (pc := 21) (q := 0) d_Teller_tell_21 rfl rfl ?_
      refine j_getI (pc := 22) d_Teller_tell_22 fl_Teller_45 sx_3 (by decide) rfl ?_
      refine j_if_ne (pc := 25) (tgt := 48) d_Teller_tell_25 (by decide) (fun _ => ?_) (fun _ => ?_)
      · exact hkx48 v1 M4
      · refine j_aload_n (pc := 28) (q := 0) d_Teller_tell_28 rfl rfl ?_
        refine j_getI (pc := 29) d_Teller_tell_29 fl_Teller_48 sx_3 (by decide) rfl ?_
        refine j_if_ne (pc := 32) (tgt := 38) d_Teller_tell_32 (by decide) (fun _ => ?_) (fun _ => ?_)
        · refine j_aload_n (pc := 38) (q := 0) d_Teller_tell_38 rfl rfl ?_
          refine j_callV0 (pc := 39) d_Teller_tell_39 (C_Teller_tellLine n M4) cV_Teller_51 cd_Teller_tellLine dn_Teller_tellLine rfl (by decide) (Nat.le_of_ble_eq_true rfl) (Nat.le_of_ble_eq_true rfl) nr_U sx_3 (by decide) rfl (fun r5 M6 => ?_)
          refine j_iinc (pc := 42) (q := 1) d_Teller_tell_42 rfl (congrArg (v1 + ·) k_i_1) (by decide) rfl ?_
          refine j_goto (pc := 45) (tgt := 6) d_Teller_tell_45 (by decide) ?_
          refine j_lv [1, 0] rfl ?_
          exact ih (v1 + 1) M6
        · exact hkx35 v1 M4
set_option maxRecDepth 20000 in
set_option maxHeartbeats 4000000 in
theorem C_Teller_tell (n : Nat)    (M : Mem) : Ct y_Teller_tell mt_Teller_tell wI [Value.ref 3] M (X_Teller_tell n M) := by
  refine ct_of (by decide +kernel) rfl (Nat.le_of_ble_eq_true rfl) ?_
  show J _ _ _ [(0, Value.ref 3)] _ _ _
  unfold X_Teller_tell
  refine j_aload_n (pc := 0) (q := 0) d_Teller_tell_0 rfl rfl ?_
  refine j_callV0 (pc := 1) d_Teller_tell_1 (C_Teller_begin n M) cV_Teller_33 cd_Teller_begin dn_Teller_begin rfl (by decide) (Nat.le_of_ble_eq_true rfl) (Nat.le_of_ble_eq_true rfl) nr_U sx_3 (by decide) rfl (fun r1 M2 => ?_)
  refine j_iconst (pc := 4) d_Teller_tell_4 k_i_0 ?_
  refine j_istore_n (pc := 5) d_Teller_tell_5 rfl (by decide) rfl ?_
  refine j_lv [1, 0] rfl ?_
  refine X_Teller_tell_L6_ok  (fun y7 M8 => ?_) (fun y11 M12 => ?_) n 0 M2
  · refine j_aload_n (pc := 48) (q := 0) d_Teller_tell_48 rfl rfl ?_
    refine j_callV0 (pc := 49) d_Teller_tell_49 (C_Teller_lookBack n M8) cV_Teller_54 cd_Teller_lookBack dn_Teller_lookBack rfl (by decide) (Nat.le_of_ble_eq_true rfl) (Nat.le_of_ble_eq_true rfl) nr_U sx_3 (by decide) rfl (fun r9 M10 => ?_)
    refine j_aload_n (pc := 52) (q := 0) d_Teller_tell_52 rfl rfl ?_
    refine j_getI (pc := 53) d_Teller_tell_53 fl_Teller_45 sx_3 (by decide) rfl ?_
    refine j_if_ne (pc := 56) (tgt := 63) d_Teller_tell_56 (by decide) (fun _ => ?_) (fun _ => ?_)
    · refine j_bipush (pc := 63) d_Teller_tell_63 k_b_m10 ?_
      refine j_aload_n (pc := 65) (q := 0) d_Teller_tell_65 rfl rfl ?_
      refine j_getI (pc := 66) d_Teller_tell_66 fl_Teller_57 sx_3 (by decide) rfl ?_
      refine j_isub (pc := 69) d_Teller_tell_69 ?_
      exact j_ireturn (pc := 70) d_Teller_tell_70 rfl
    · refine j_iload_n (pc := 59) (q := 1) d_Teller_tell_59 rfl rfl ?_
      refine j_goto (pc := 60) (tgt := 70) d_Teller_tell_60 (by decide) ?_
      exact j_ireturn (pc := 70) d_Teller_tell_70 rfl
  · refine j_goto (pc := 35) (tgt := 48) d_Teller_tell_35 (by decide) ?_
    refine j_aload_n (pc := 48) (q := 0) d_Teller_tell_48 rfl rfl ?_
    refine j_callV0 (pc := 49) d_Teller_tell_49 (C_Teller_lookBack n M12) cV_Teller_54 cd_Teller_lookBack dn_Teller_lookBack rfl (by decide) (Nat.le_of_ble_eq_true rfl) (Nat.le_of_ble_eq_true rfl) nr_U sx_3 (by decide) rfl (fun r13 M14 => ?_)
    refine j_aload_n (pc := 52) (q := 0) d_Teller_tell_52 rfl rfl ?_
    refine j_getI (pc := 53) d_Teller_tell_53 fl_Teller_45 sx_3 (by decide) rfl ?_
    refine j_if_ne (pc := 56) (tgt := 63) d_Teller_tell_56 (by decide) (fun _ => ?_) (fun _ => ?_)
    · refine j_bipush (pc := 63) d_Teller_tell_63 k_b_m10 ?_
      refine j_aload_n (pc := 65) (q := 0) d_Teller_tell_65 rfl rfl ?_
      refine j_getI (pc := 66) d_Teller_tell_66 fl_Teller_57 sx_3 (by decide) rfl ?_
      refine j_isub (pc := 69) d_Teller_tell_69 ?_
      exact j_ireturn (pc := 70) d_Teller_tell_70 rfl
    · refine j_iload_n (pc := 59) (q := 1) d_Teller_tell_59 rfl rfl ?_
      refine j_goto (pc := 60) (tgt := 70) d_Teller_tell_60 (by decide) ?_
      exact j_ireturn (pc := 70) d_Teller_tell_70 rfl
end
