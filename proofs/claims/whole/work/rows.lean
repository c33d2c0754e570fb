section
-- ===== PART A: goes FIRST, ahead of the names: the tables' words, and 'selects' of the private methods out of them =====
/-- a private method of a class that the tables say can be made, by its rows of tables_1 -/
def lw_okq (q : MethodName × Nat) : Prop := (q.1.cls ≠ "java/lang/invoke/MethodHandle" ∧ q.1.cls ≠ "java/lang/invoke/VarHandle") ∧ Cond.instantiable q.1.cls q.2 ∈ tables_1 ∧ Cond.privateMethod q.1 ∈ tables_1 ∧ Cond.instanceMethod q.1 ∈ tables_1
theorem lw_p0 : lw_okq (⟨"ShakeHands$Teller", "begin", "()V"⟩, 15) := ⟨⟨by decide +kernel, by decide +kernel⟩, List.mem_of_getElem? (i := 44) (by decide +kernel), List.mem_of_getElem? (i := 350) (by decide +kernel), List.mem_of_getElem? (i := 351) (by decide +kernel)⟩
theorem lw_p1 : lw_okq (⟨"ShakeHands$Teller", "readToken", "()V"⟩, 15) := ⟨⟨by decide +kernel, by decide +kernel⟩, List.mem_of_getElem? (i := 44) (by decide +kernel), List.mem_of_getElem? (i := 358) (by decide +kernel), List.mem_of_getElem? (i := 359) (by decide +kernel)⟩
theorem lw_p2 : lw_okq (⟨"ShakeHands$Teller", "isWithin", "(CC)Z"⟩, 15) := ⟨⟨by decide +kernel, by decide +kernel⟩, List.mem_of_getElem? (i := 44) (by decide +kernel), List.mem_of_getElem? (i := 362) (by decide +kernel), List.mem_of_getElem? (i := 363) (by decide +kernel)⟩
theorem lw_p3 : lw_okq (⟨"ShakeHands$Teller", "refuse", "(I)V"⟩, 15) := ⟨⟨by decide +kernel, by decide +kernel⟩, List.mem_of_getElem? (i := 44) (by decide +kernel), List.mem_of_getElem? (i := 366) (by decide +kernel), List.mem_of_getElem? (i := 367) (by decide +kernel)⟩
theorem lw_p4 : lw_okq (⟨"ShakeHands$Teller", "tellLine", "()V"⟩, 15) := ⟨⟨by decide +kernel, by decide +kernel⟩, List.mem_of_getElem? (i := 44) (by decide +kernel), List.mem_of_getElem? (i := 370) (by decide +kernel), List.mem_of_getElem? (i := 371) (by decide +kernel)⟩
theorem lw_p5 : lw_okq (⟨"ShakeHands$Teller", "isCalled", "(Ljava/lang/String;)Z"⟩, 15) := ⟨⟨by decide +kernel, by decide +kernel⟩, List.mem_of_getElem? (i := 44) (by decide +kernel), List.mem_of_getElem? (i := 375) (by decide +kernel), List.mem_of_getElem? (i := 376) (by decide +kernel)⟩
theorem lw_p6 : lw_okq (⟨"ShakeHands$Teller", "tellPeople", "()V"⟩, 15) := ⟨⟨by decide +kernel, by decide +kernel⟩, List.mem_of_getElem? (i := 44) (by decide +kernel), List.mem_of_getElem? (i := 427) (by decide +kernel), List.mem_of_getElem? (i := 428) (by decide +kernel)⟩
theorem lw_p7 : lw_okq (⟨"ShakeHands$Teller", "takeNumber", "(II)I"⟩, 15) := ⟨⟨by decide +kernel, by decide +kernel⟩, List.mem_of_getElem? (i := 44) (by decide +kernel), List.mem_of_getElem? (i := 431) (by decide +kernel), List.mem_of_getElem? (i := 432) (by decide +kernel)⟩
theorem lw_p8 : lw_okq (⟨"ShakeHands$Teller", "boundedValue", "(II)I"⟩, 15) := ⟨⟨by decide +kernel, by decide +kernel⟩, List.mem_of_getElem? (i := 44) (by decide +kernel), List.mem_of_getElem? (i := 435) (by decide +kernel), List.mem_of_getElem? (i := 436) (by decide +kernel)⟩
theorem lw_p9 : lw_okq (⟨"ShakeHands$Teller", "takeSign", "()V"⟩, 15) := ⟨⟨by decide +kernel, by decide +kernel⟩, List.mem_of_getElem? (i := 44) (by decide +kernel), List.mem_of_getElem? (i := 439) (by decide +kernel), List.mem_of_getElem? (i := 440) (by decide +kernel)⟩
theorem lw_p10 : lw_okq (⟨"ShakeHands$Teller", "tellHold", "()V"⟩, 15) := ⟨⟨by decide +kernel, by decide +kernel⟩, List.mem_of_getElem? (i := 44) (by decide +kernel), List.mem_of_getElem? (i := 444) (by decide +kernel), List.mem_of_getElem? (i := 445) (by decide +kernel)⟩
theorem lw_p11 : lw_okq (⟨"ShakeHands$Teller", "tellRow", "()V"⟩, 15) := ⟨⟨by decide +kernel, by decide +kernel⟩, List.mem_of_getElem? (i := 44) (by decide +kernel), List.mem_of_getElem? (i := 449) (by decide +kernel), List.mem_of_getElem? (i := 450) (by decide +kernel)⟩
theorem lw_p12 : lw_okq (⟨"ShakeHands$Teller", "tellThing", "(I)V"⟩, 15) := ⟨⟨by decide +kernel, by decide +kernel⟩, List.mem_of_getElem? (i := 44) (by decide +kernel), List.mem_of_getElem? (i := 461) (by decide +kernel), List.mem_of_getElem? (i := 462) (by decide +kernel)⟩
theorem lw_p13 : lw_okq (⟨"ShakeHands$Teller", "tellJoin", "()V"⟩, 15) := ⟨⟨by decide +kernel, by decide +kernel⟩, List.mem_of_getElem? (i := 44) (by decide +kernel), List.mem_of_getElem? (i := 481) (by decide +kernel), List.mem_of_getElem? (i := 482) (by decide +kernel)⟩
theorem lw_p14 : lw_okq (⟨"ShakeHands$Teller", "tellPair", "([II)I"⟩, 15) := ⟨⟨by decide +kernel, by decide +kernel⟩, List.mem_of_getElem? (i := 44) (by decide +kernel), List.mem_of_getElem? (i := 486) (by decide +kernel), List.mem_of_getElem? (i := 487) (by decide +kernel)⟩
theorem lw_p15 : lw_okq (⟨"ShakeHands$Teller", "tellGlove", "()V"⟩, 15) := ⟨⟨by decide +kernel, by decide +kernel⟩, List.mem_of_getElem? (i := 44) (by decide +kernel), List.mem_of_getElem? (i := 499) (by decide +kernel), List.mem_of_getElem? (i := 500) (by decide +kernel)⟩
def lw_privs_1 : List (MethodName × Nat) := [(⟨"ShakeHands$Teller", "begin", "()V"⟩, 15), (⟨"ShakeHands$Teller", "readToken", "()V"⟩, 15), (⟨"ShakeHands$Teller", "isWithin", "(CC)Z"⟩, 15), (⟨"ShakeHands$Teller", "refuse", "(I)V"⟩, 15), (⟨"ShakeHands$Teller", "tellLine", "()V"⟩, 15), (⟨"ShakeHands$Teller", "isCalled", "(Ljava/lang/String;)Z"⟩, 15), (⟨"ShakeHands$Teller", "tellPeople", "()V"⟩, 15), (⟨"ShakeHands$Teller", "takeNumber", "(II)I"⟩, 15), (⟨"ShakeHands$Teller", "boundedValue", "(II)I"⟩, 15), (⟨"ShakeHands$Teller", "takeSign", "()V"⟩, 15), (⟨"ShakeHands$Teller", "tellHold", "()V"⟩, 15), (⟨"ShakeHands$Teller", "tellRow", "()V"⟩, 15), (⟨"ShakeHands$Teller", "tellThing", "(I)V"⟩, 15), (⟨"ShakeHands$Teller", "tellJoin", "()V"⟩, 15), (⟨"ShakeHands$Teller", "tellPair", "([II)I"⟩, 15), (⟨"ShakeHands$Teller", "tellGlove", "()V"⟩, 15)]
theorem lw_r1 : ∀ q ∈ lw_privs_1, lw_okq q := List.forall_mem_cons.mpr ⟨lw_p0, List.forall_mem_cons.mpr ⟨lw_p1, List.forall_mem_cons.mpr ⟨lw_p2, List.forall_mem_cons.mpr ⟨lw_p3, List.forall_mem_cons.mpr ⟨lw_p4, List.forall_mem_cons.mpr ⟨lw_p5, List.forall_mem_cons.mpr ⟨lw_p6, List.forall_mem_cons.mpr ⟨lw_p7, List.forall_mem_cons.mpr ⟨lw_p8, List.forall_mem_cons.mpr ⟨lw_p9, List.forall_mem_cons.mpr ⟨lw_p10, List.forall_mem_cons.mpr ⟨lw_p11, List.forall_mem_cons.mpr ⟨lw_p12, List.forall_mem_cons.mpr ⟨lw_p13, List.forall_mem_cons.mpr ⟨lw_p14, List.forall_mem_cons.mpr ⟨lw_p15, fun _ h => absurd h List.not_mem_nil⟩⟩⟩⟩⟩⟩⟩⟩⟩⟩⟩⟩⟩⟩⟩⟩
theorem lw_p16 : lw_okq (⟨"ShakeHands$Teller", "lookBack", "()V"⟩, 15) := ⟨⟨by decide +kernel, by decide +kernel⟩, List.mem_of_getElem? (i := 44) (by decide +kernel), List.mem_of_getElem? (i := 503) (by decide +kernel), List.mem_of_getElem? (i := 504) (by decide +kernel)⟩
theorem lw_p17 : lw_okq (⟨"ShakeHands", "isOne", "(I)Z"⟩, 11) := ⟨⟨by decide +kernel, by decide +kernel⟩, List.mem_of_getElem? (i := 19) (by decide +kernel), List.mem_of_getElem? (i := 536) (by decide +kernel), List.mem_of_getElem? (i := 537) (by decide +kernel)⟩
theorem lw_p18 : lw_okq (⟨"ShakeHands", "knowsNow", "(II)Z"⟩, 11) := ⟨⟨by decide +kernel, by decide +kernel⟩, List.mem_of_getElem? (i := 19) (by decide +kernel), List.mem_of_getElem? (i := 567) (by decide +kernel), List.mem_of_getElem? (i := 568) (by decide +kernel)⟩
theorem lw_p19 : lw_okq (⟨"ShakeHands$Circle", "settle", "()V"⟩, 9) := ⟨⟨by decide +kernel, by decide +kernel⟩, List.mem_of_getElem? (i := 50) (by decide +kernel), List.mem_of_getElem? (i := 580) (by decide +kernel), List.mem_of_getElem? (i := 581) (by decide +kernel)⟩
theorem lw_p20 : lw_okq (⟨"ShakeHands$Circle", "firstJoin", "()I"⟩, 9) := ⟨⟨by decide +kernel, by decide +kernel⟩, List.mem_of_getElem? (i := 50) (by decide +kernel), List.mem_of_getElem? (i := 584) (by decide +kernel), List.mem_of_getElem? (i := 585) (by decide +kernel)⟩
theorem lw_p21 : lw_okq (⟨"ShakeHands", "areTwo", "(II)Z"⟩, 11) := ⟨⟨by decide +kernel, by decide +kernel⟩, List.mem_of_getElem? (i := 19) (by decide +kernel), List.mem_of_getElem? (i := 614) (by decide +kernel), List.mem_of_getElem? (i := 615) (by decide +kernel)⟩
theorem lw_p22 : lw_okq (⟨"ShakeHands", "isFeastPart", "(I)Z"⟩, 11) := ⟨⟨by decide +kernel, by decide +kernel⟩, List.mem_of_getElem? (i := 19) (by decide +kernel), List.mem_of_getElem? (i := 636) (by decide +kernel), List.mem_of_getElem? (i := 637) (by decide +kernel)⟩
theorem lw_p23 : lw_okq (⟨"ShakeHands", "takeTrial", "()V"⟩, 11) := ⟨⟨by decide +kernel, by decide +kernel⟩, List.mem_of_getElem? (i := 19) (by decide +kernel), List.mem_of_getElem? (i := 652) (by decide +kernel), List.mem_of_getElem? (i := 653) (by decide +kernel)⟩
theorem lw_p24 : lw_okq (⟨"ShakeHands", "arePeople", "(I)Z"⟩, 11) := ⟨⟨by decide +kernel, by decide +kernel⟩, List.mem_of_getElem? (i := 19) (by decide +kernel), List.mem_of_getElem? (i := 668) (by decide +kernel), List.mem_of_getElem? (i := 669) (by decide +kernel)⟩
theorem lw_p25 : lw_okq (⟨"ShakeHands", "everybody", "()I"⟩, 11) := ⟨⟨by decide +kernel, by decide +kernel⟩, List.mem_of_getElem? (i := 19) (by decide +kernel), List.mem_of_getElem? (i := 672) (by decide +kernel), List.mem_of_getElem? (i := 673) (by decide +kernel)⟩
theorem lw_p26 : lw_okq (⟨"ShakeHands$Search", "isBarred", "([J)Z"⟩, 13) := ⟨⟨by decide +kernel, by decide +kernel⟩, List.mem_of_getElem? (i := 202) (by decide +kernel), List.mem_of_getElem? (i := 689) (by decide +kernel), List.mem_of_getElem? (i := 690) (by decide +kernel)⟩
theorem lw_p27 : lw_okq (⟨"ShakeHands$Search", "amiss", "([J)I"⟩, 13) := ⟨⟨by decide +kernel, by decide +kernel⟩, List.mem_of_getElem? (i := 202) (by decide +kernel), List.mem_of_getElem? (i := 697) (by decide +kernel), List.mem_of_getElem? (i := 698) (by decide +kernel)⟩
theorem lw_p28 : lw_okq (⟨"ShakeHands$Search", "step", "(II)Z"⟩, 13) := ⟨⟨by decide +kernel, by decide +kernel⟩, List.mem_of_getElem? (i := 202) (by decide +kernel), List.mem_of_getElem? (i := 710) (by decide +kernel), List.mem_of_getElem? (i := 711) (by decide +kernel)⟩
theorem lw_p29 : lw_okq (⟨"ShakeHands$Habit", "sameDay", "(I)I"⟩, 4) := ⟨⟨by decide +kernel, by decide +kernel⟩, List.mem_of_getElem? (i := 255) (by decide +kernel), List.mem_of_getElem? (i := 752) (by decide +kernel), List.mem_of_getElem? (i := 753) (by decide +kernel)⟩
theorem lw_p30 : lw_okq (⟨"ShakeHands$Search", "unlikeSeen", "([J)I"⟩, 13) := ⟨⟨by decide +kernel, by decide +kernel⟩, List.mem_of_getElem? (i := 202) (by decide +kernel), List.mem_of_getElem? (i := 781) (by decide +kernel), List.mem_of_getElem? (i := 782) (by decide +kernel)⟩
theorem lw_p31 : lw_okq (⟨"ShakeHands", "fewestGloves", "(II)I"⟩, 11) := ⟨⟨by decide +kernel, by decide +kernel⟩, List.mem_of_getElem? (i := 19) (by decide +kernel), List.mem_of_getElem? (i := 806) (by decide +kernel), List.mem_of_getElem? (i := 807) (by decide +kernel)⟩
def lw_privs_2 : List (MethodName × Nat) := [(⟨"ShakeHands$Teller", "lookBack", "()V"⟩, 15), (⟨"ShakeHands", "isOne", "(I)Z"⟩, 11), (⟨"ShakeHands", "knowsNow", "(II)Z"⟩, 11), (⟨"ShakeHands$Circle", "settle", "()V"⟩, 9), (⟨"ShakeHands$Circle", "firstJoin", "()I"⟩, 9), (⟨"ShakeHands", "areTwo", "(II)Z"⟩, 11), (⟨"ShakeHands", "isFeastPart", "(I)Z"⟩, 11), (⟨"ShakeHands", "takeTrial", "()V"⟩, 11), (⟨"ShakeHands", "arePeople", "(I)Z"⟩, 11), (⟨"ShakeHands", "everybody", "()I"⟩, 11), (⟨"ShakeHands$Search", "isBarred", "([J)Z"⟩, 13), (⟨"ShakeHands$Search", "amiss", "([J)I"⟩, 13), (⟨"ShakeHands$Search", "step", "(II)Z"⟩, 13), (⟨"ShakeHands$Habit", "sameDay", "(I)I"⟩, 4), (⟨"ShakeHands$Search", "unlikeSeen", "([J)I"⟩, 13), (⟨"ShakeHands", "fewestGloves", "(II)I"⟩, 11)]
theorem lw_r2 : ∀ q ∈ lw_privs_2, lw_okq q := List.forall_mem_cons.mpr ⟨lw_p16, List.forall_mem_cons.mpr ⟨lw_p17, List.forall_mem_cons.mpr ⟨lw_p18, List.forall_mem_cons.mpr ⟨lw_p19, List.forall_mem_cons.mpr ⟨lw_p20, List.forall_mem_cons.mpr ⟨lw_p21, List.forall_mem_cons.mpr ⟨lw_p22, List.forall_mem_cons.mpr ⟨lw_p23, List.forall_mem_cons.mpr ⟨lw_p24, List.forall_mem_cons.mpr ⟨lw_p25, List.forall_mem_cons.mpr ⟨lw_p26, List.forall_mem_cons.mpr ⟨lw_p27, List.forall_mem_cons.mpr ⟨lw_p28, List.forall_mem_cons.mpr ⟨lw_p29, List.forall_mem_cons.mpr ⟨lw_p30, List.forall_mem_cons.mpr ⟨lw_p31, fun _ h => absurd h List.not_mem_nil⟩⟩⟩⟩⟩⟩⟩⟩⟩⟩⟩⟩⟩⟩⟩⟩
theorem lw_p32 : lw_okq (⟨"ShakeHands", "knownToAll", "()I"⟩, 11) := ⟨⟨by decide +kernel, by decide +kernel⟩, List.mem_of_getElem? (i := 19) (by decide +kernel), List.mem_of_getElem? (i := 873) (by decide +kernel), List.mem_of_getElem? (i := 874) (by decide +kernel)⟩
theorem lw_p33 : lw_okq (⟨"ShakeHandsModel", "firstDraft", "()V"⟩, 55) := ⟨⟨by decide +kernel, by decide +kernel⟩, List.mem_of_getElem? (i := 878) (by decide +kernel), List.mem_of_getElem? (i := 887) (by decide +kernel), List.mem_of_getElem? (i := 888) (by decide +kernel)⟩
theorem lw_p34 : lw_okq (⟨"ShakeHandsModel", "keepDraft", "()V"⟩, 55) := ⟨⟨by decide +kernel, by decide +kernel⟩, List.mem_of_getElem? (i := 878) (by decide +kernel), List.mem_of_getElem? (i := 891) (by decide +kernel), List.mem_of_getElem? (i := 892) (by decide +kernel)⟩
theorem lw_p35 : lw_okq (⟨"ShakeHandsModel", "next", "()V"⟩, 55) := ⟨⟨by decide +kernel, by decide +kernel⟩, List.mem_of_getElem? (i := 878) (by decide +kernel), List.mem_of_getElem? (i := 1081) (by decide +kernel), List.mem_of_getElem? (i := 1082) (by decide +kernel)⟩
theorem lw_p36 : lw_okq (⟨"ShakeHandsModel", "look", "(I)I"⟩, 55) := ⟨⟨by decide +kernel, by decide +kernel⟩, List.mem_of_getElem? (i := 878) (by decide +kernel), List.mem_of_getElem? (i := 1085) (by decide +kernel), List.mem_of_getElem? (i := 1086) (by decide +kernel)⟩
theorem lw_p37 : lw_okq (⟨"ShakeHandsModel", "needs", "(ZI)V"⟩, 55) := ⟨⟨by decide +kernel, by decide +kernel⟩, List.mem_of_getElem? (i := 878) (by decide +kernel), List.mem_of_getElem? (i := 1093) (by decide +kernel), List.mem_of_getElem? (i := 1094) (by decide +kernel)⟩
theorem lw_p38 : lw_okq (⟨"ShakeHandsModel", "readLine", "()V"⟩, 55) := ⟨⟨by decide +kernel, by decide +kernel⟩, List.mem_of_getElem? (i := 878) (by decide +kernel), List.mem_of_getElem? (i := 1097) (by decide +kernel), List.mem_of_getElem? (i := 1098) (by decide +kernel)⟩
theorem lw_p39 : lw_okq (⟨"ShakeHandsModel", "nameNow", "()I"⟩, 55) := ⟨⟨by decide +kernel, by decide +kernel⟩, List.mem_of_getElem? (i := 878) (by decide +kernel), List.mem_of_getElem? (i := 1101) (by decide +kernel), List.mem_of_getElem? (i := 1102) (by decide +kernel)⟩
theorem lw_p40 : lw_okq (⟨"ShakeHandsModel", "is", "(IIIII)Z"⟩, 55) := ⟨⟨by decide +kernel, by decide +kernel⟩, List.mem_of_getElem? (i := 878) (by decide +kernel), List.mem_of_getElem? (i := 1105) (by decide +kernel), List.mem_of_getElem? (i := 1106) (by decide +kernel)⟩
theorem lw_p41 : lw_okq (⟨"ShakeHandsModel", "readNumber", "(II)I"⟩, 55) := ⟨⟨by decide +kernel, by decide +kernel⟩, List.mem_of_getElem? (i := 878) (by decide +kernel), List.mem_of_getElem? (i := 1109) (by decide +kernel), List.mem_of_getElem? (i := 1110) (by decide +kernel)⟩
theorem lw_p42 : lw_okq (⟨"ShakeHandsModel", "looked", "(II)I"⟩, 55) := ⟨⟨by decide +kernel, by decide +kernel⟩, List.mem_of_getElem? (i := 878) (by decide +kernel), List.mem_of_getElem? (i := 1113) (by decide +kernel), List.mem_of_getElem? (i := 1114) (by decide +kernel)⟩
theorem lw_p43 : lw_okq (⟨"ShakeHandsModel", "readKnows", "()V"⟩, 55) := ⟨⟨by decide +kernel, by decide +kernel⟩, List.mem_of_getElem? (i := 878) (by decide +kernel), List.mem_of_getElem? (i := 1117) (by decide +kernel), List.mem_of_getElem? (i := 1118) (by decide +kernel)⟩
theorem lw_p44 : lw_okq (⟨"ShakeHandsModel", "tells", "(I)V"⟩, 55) := ⟨⟨by decide +kernel, by decide +kernel⟩, List.mem_of_getElem? (i := 878) (by decide +kernel), List.mem_of_getElem? (i := 1121) (by decide +kernel), List.mem_of_getElem? (i := 1122) (by decide +kernel)⟩
theorem lw_p45 : lw_okq (⟨"ShakeHandsModel", "readJoin", "()V"⟩, 55) := ⟨⟨by decide +kernel, by decide +kernel⟩, List.mem_of_getElem? (i := 878) (by decide +kernel), List.mem_of_getElem? (i := 1125) (by decide +kernel), List.mem_of_getElem? (i := 1126) (by decide +kernel)⟩
theorem lw_p46 : lw_okq (⟨"ShakeHandsModel", "readHand", "()I"⟩, 55) := ⟨⟨by decide +kernel, by decide +kernel⟩, List.mem_of_getElem? (i := 878) (by decide +kernel), List.mem_of_getElem? (i := 1129) (by decide +kernel), List.mem_of_getElem? (i := 1130) (by decide +kernel)⟩
theorem lw_p47 : lw_okq (⟨"ShakeHandsModel", "readGlove", "()V"⟩, 55) := ⟨⟨by decide +kernel, by decide +kernel⟩, List.mem_of_getElem? (i := 878) (by decide +kernel), List.mem_of_getElem? (i := 1133) (by decide +kernel), List.mem_of_getElem? (i := 1134) (by decide +kernel)⟩
def lw_privs_3 : List (MethodName × Nat) := [(⟨"ShakeHands", "knownToAll", "()I"⟩, 11), (⟨"ShakeHandsModel", "firstDraft", "()V"⟩, 55), (⟨"ShakeHandsModel", "keepDraft", "()V"⟩, 55), (⟨"ShakeHandsModel", "next", "()V"⟩, 55), (⟨"ShakeHandsModel", "look", "(I)I"⟩, 55), (⟨"ShakeHandsModel", "needs", "(ZI)V"⟩, 55), (⟨"ShakeHandsModel", "readLine", "()V"⟩, 55), (⟨"ShakeHandsModel", "nameNow", "()I"⟩, 55), (⟨"ShakeHandsModel", "is", "(IIIII)Z"⟩, 55), (⟨"ShakeHandsModel", "readNumber", "(II)I"⟩, 55), (⟨"ShakeHandsModel", "looked", "(II)I"⟩, 55), (⟨"ShakeHandsModel", "readKnows", "()V"⟩, 55), (⟨"ShakeHandsModel", "tells", "(I)V"⟩, 55), (⟨"ShakeHandsModel", "readJoin", "()V"⟩, 55), (⟨"ShakeHandsModel", "readHand", "()I"⟩, 55), (⟨"ShakeHandsModel", "readGlove", "()V"⟩, 55)]
theorem lw_r3 : ∀ q ∈ lw_privs_3, lw_okq q := List.forall_mem_cons.mpr ⟨lw_p32, List.forall_mem_cons.mpr ⟨lw_p33, List.forall_mem_cons.mpr ⟨lw_p34, List.forall_mem_cons.mpr ⟨lw_p35, List.forall_mem_cons.mpr ⟨lw_p36, List.forall_mem_cons.mpr ⟨lw_p37, List.forall_mem_cons.mpr ⟨lw_p38, List.forall_mem_cons.mpr ⟨lw_p39, List.forall_mem_cons.mpr ⟨lw_p40, List.forall_mem_cons.mpr ⟨lw_p41, List.forall_mem_cons.mpr ⟨lw_p42, List.forall_mem_cons.mpr ⟨lw_p43, List.forall_mem_cons.mpr ⟨lw_p44, List.forall_mem_cons.mpr ⟨lw_p45, List.forall_mem_cons.mpr ⟨lw_p46, List.forall_mem_cons.mpr ⟨lw_p47, fun _ h => absurd h List.not_mem_nil⟩⟩⟩⟩⟩⟩⟩⟩⟩⟩⟩⟩⟩⟩⟩⟩
theorem lw_p48 : lw_okq (⟨"ShakeHandsModel", "isHeld", "()Z"⟩, 55) := ⟨⟨by decide +kernel, by decide +kernel⟩, List.mem_of_getElem? (i := 878) (by decide +kernel), List.mem_of_getElem? (i := 1137) (by decide +kernel), List.mem_of_getElem? (i := 1138) (by decide +kernel)⟩
theorem lw_p49 : lw_okq (⟨"ShakeHandsModel", "worn", "()I"⟩, 55) := ⟨⟨by decide +kernel, by decide +kernel⟩, List.mem_of_getElem? (i := 878) (by decide +kernel), List.mem_of_getElem? (i := 1149) (by decide +kernel), List.mem_of_getElem? (i := 1150) (by decide +kernel)⟩
theorem lw_p50 : lw_okq (⟨"ShakeHandsModel", "isOne", "(I)Z"⟩, 55) := ⟨⟨by decide +kernel, by decide +kernel⟩, List.mem_of_getElem? (i := 878) (by decide +kernel), List.mem_of_getElem? (i := 1169) (by decide +kernel), List.mem_of_getElem? (i := 1170) (by decide +kernel)⟩
theorem lw_p51 : lw_okq (⟨"ShakeHandsModel", "knowsNow", "(I)I"⟩, 55) := ⟨⟨by decide +kernel, by decide +kernel⟩, List.mem_of_getElem? (i := 878) (by decide +kernel), List.mem_of_getElem? (i := 1173) (by decide +kernel), List.mem_of_getElem? (i := 1174) (by decide +kernel)⟩
theorem lw_p52 : lw_okq (⟨"ShakeHandsModel", "begins", "(I)V"⟩, 55) := ⟨⟨by decide +kernel, by decide +kernel⟩, List.mem_of_getElem? (i := 878) (by decide +kernel), List.mem_of_getElem? (i := 1177) (by decide +kernel), List.mem_of_getElem? (i := 1178) (by decide +kernel)⟩
theorem lw_p53 : lw_okq (⟨"ShakeHandsModel", "knowsIn", "(II)I"⟩, 55) := ⟨⟨by decide +kernel, by decide +kernel⟩, List.mem_of_getElem? (i := 878) (by decide +kernel), List.mem_of_getElem? (i := 1181) (by decide +kernel), List.mem_of_getElem? (i := 1182) (by decide +kernel)⟩
theorem lw_p54 : lw_okq (⟨"ShakeHandsModel", "whoNow", "(I)I"⟩, 55) := ⟨⟨by decide +kernel, by decide +kernel⟩, List.mem_of_getElem? (i := 878) (by decide +kernel), List.mem_of_getElem? (i := 1197) (by decide +kernel), List.mem_of_getElem? (i := 1198) (by decide +kernel)⟩
theorem lw_p55 : lw_okq (⟨"ShakeHandsModel", "whoIn", "(II)I"⟩, 55) := ⟨⟨by decide +kernel, by decide +kernel⟩, List.mem_of_getElem? (i := 878) (by decide +kernel), List.mem_of_getElem? (i := 1201) (by decide +kernel), List.mem_of_getElem? (i := 1202) (by decide +kernel)⟩
theorem lw_p56 : lw_okq (⟨"ShakeHandsModel", "knowsIt", "(II)Z"⟩, 55) := ⟨⟨by decide +kernel, by decide +kernel⟩, List.mem_of_getElem? (i := 878) (by decide +kernel), List.mem_of_getElem? (i := 1209) (by decide +kernel), List.mem_of_getElem? (i := 1210) (by decide +kernel)⟩
theorem lw_p57 : lw_okq (⟨"ShakeHandsModel", "takes", "([II)V"⟩, 55) := ⟨⟨by decide +kernel, by decide +kernel⟩, List.mem_of_getElem? (i := 878) (by decide +kernel), List.mem_of_getElem? (i := 1213) (by decide +kernel), List.mem_of_getElem? (i := 1214) (by decide +kernel)⟩
theorem lw_p58 : lw_okq (⟨"ShakeHandsModel", "adds", "(I)V"⟩, 55) := ⟨⟨by decide +kernel, by decide +kernel⟩, List.mem_of_getElem? (i := 878) (by decide +kernel), List.mem_of_getElem? (i := 1217) (by decide +kernel), List.mem_of_getElem? (i := 1218) (by decide +kernel)⟩
theorem lw_p59 : lw_okq (⟨"ShakeHandsModel", "place", "(I)I"⟩, 55) := ⟨⟨by decide +kernel, by decide +kernel⟩, List.mem_of_getElem? (i := 878) (by decide +kernel), List.mem_of_getElem? (i := 1221) (by decide +kernel), List.mem_of_getElem? (i := 1222) (by decide +kernel)⟩
theorem lw_p60 : lw_okq (⟨"ShakeHandsModel", "settles", "()V"⟩, 55) := ⟨⟨by decide +kernel, by decide +kernel⟩, List.mem_of_getElem? (i := 878) (by decide +kernel), List.mem_of_getElem? (i := 1225) (by decide +kernel), List.mem_of_getElem? (i := 1226) (by decide +kernel)⟩
theorem lw_p61 : lw_okq (⟨"ShakeHandsModel", "drops", "(I)V"⟩, 55) := ⟨⟨by decide +kernel, by decide +kernel⟩, List.mem_of_getElem? (i := 878) (by decide +kernel), List.mem_of_getElem? (i := 1229) (by decide +kernel), List.mem_of_getElem? (i := 1230) (by decide +kernel)⟩
theorem lw_p62 : lw_okq (⟨"ShakeHandsModel", "puts", "([II)V"⟩, 55) := ⟨⟨by decide +kernel, by decide +kernel⟩, List.mem_of_getElem? (i := 878) (by decide +kernel), List.mem_of_getElem? (i := 1233) (by decide +kernel), List.mem_of_getElem? (i := 1234) (by decide +kernel)⟩
theorem lw_p63 : lw_okq (⟨"ShakeHandsModel", "areTwo", "(II)Z"⟩, 55) := ⟨⟨by decide +kernel, by decide +kernel⟩, List.mem_of_getElem? (i := 878) (by decide +kernel), List.mem_of_getElem? (i := 1249) (by decide +kernel), List.mem_of_getElem? (i := 1250) (by decide +kernel)⟩
def lw_privs_4 : List (MethodName × Nat) := [(⟨"ShakeHandsModel", "isHeld", "()Z"⟩, 55), (⟨"ShakeHandsModel", "worn", "()I"⟩, 55), (⟨"ShakeHandsModel", "isOne", "(I)Z"⟩, 55), (⟨"ShakeHandsModel", "knowsNow", "(I)I"⟩, 55), (⟨"ShakeHandsModel", "begins", "(I)V"⟩, 55), (⟨"ShakeHandsModel", "knowsIn", "(II)I"⟩, 55), (⟨"ShakeHandsModel", "whoNow", "(I)I"⟩, 55), (⟨"ShakeHandsModel", "whoIn", "(II)I"⟩, 55), (⟨"ShakeHandsModel", "knowsIt", "(II)Z"⟩, 55), (⟨"ShakeHandsModel", "takes", "([II)V"⟩, 55), (⟨"ShakeHandsModel", "adds", "(I)V"⟩, 55), (⟨"ShakeHandsModel", "place", "(I)I"⟩, 55), (⟨"ShakeHandsModel", "settles", "()V"⟩, 55), (⟨"ShakeHandsModel", "drops", "(I)V"⟩, 55), (⟨"ShakeHandsModel", "puts", "([II)V"⟩, 55), (⟨"ShakeHandsModel", "areTwo", "(II)Z"⟩, 55)]
theorem lw_r4 : ∀ q ∈ lw_privs_4, lw_okq q := List.forall_mem_cons.mpr ⟨lw_p48, List.forall_mem_cons.mpr ⟨lw_p49, List.forall_mem_cons.mpr ⟨lw_p50, List.forall_mem_cons.mpr ⟨lw_p51, List.forall_mem_cons.mpr ⟨lw_p52, List.forall_mem_cons.mpr ⟨lw_p53, List.forall_mem_cons.mpr ⟨lw_p54, List.forall_mem_cons.mpr ⟨lw_p55, List.forall_mem_cons.mpr ⟨lw_p56, List.forall_mem_cons.mpr ⟨lw_p57, List.forall_mem_cons.mpr ⟨lw_p58, List.forall_mem_cons.mpr ⟨lw_p59, List.forall_mem_cons.mpr ⟨lw_p60, List.forall_mem_cons.mpr ⟨lw_p61, List.forall_mem_cons.mpr ⟨lw_p62, List.forall_mem_cons.mpr ⟨lw_p63, fun _ h => absurd h List.not_mem_nil⟩⟩⟩⟩⟩⟩⟩⟩⟩⟩⟩⟩⟩⟩⟩⟩
theorem lw_p64 : lw_okq (⟨"ShakeHandsModel", "shakesNow", "(I)V"⟩, 55) := ⟨⟨by decide +kernel, by decide +kernel⟩, List.mem_of_getElem? (i := 878) (by decide +kernel), List.mem_of_getElem? (i := 1253) (by decide +kernel), List.mem_of_getElem? (i := 1254) (by decide +kernel)⟩
theorem lw_p65 : lw_okq (⟨"ShakeHandsModel", "shakes", "(III)V"⟩, 55) := ⟨⟨by decide +kernel, by decide +kernel⟩, List.mem_of_getElem? (i := 878) (by decide +kernel), List.mem_of_getElem? (i := 1257) (by decide +kernel), List.mem_of_getElem? (i := 1258) (by decide +kernel)⟩
theorem lw_p66 : lw_okq (⟨"ShakeHandsModel", "becomes", "(I)V"⟩, 55) := ⟨⟨by decide +kernel, by decide +kernel⟩, List.mem_of_getElem? (i := 878) (by decide +kernel), List.mem_of_getElem? (i := 1261) (by decide +kernel), List.mem_of_getElem? (i := 1262) (by decide +kernel)⟩
theorem lw_p67 : lw_okq (⟨"ShakeHandsModel", "anyNow", "()I"⟩, 55) := ⟨⟨by decide +kernel, by decide +kernel⟩, List.mem_of_getElem? (i := 878) (by decide +kernel), List.mem_of_getElem? (i := 1269) (by decide +kernel), List.mem_of_getElem? (i := 1270) (by decide +kernel)⟩
theorem lw_p68 : lw_okq (⟨"ShakeHandsModel", "anyIn", "(I)I"⟩, 55) := ⟨⟨by decide +kernel, by decide +kernel⟩, List.mem_of_getElem? (i := 878) (by decide +kernel), List.mem_of_getElem? (i := 1273) (by decide +kernel), List.mem_of_getElem? (i := 1274) (by decide +kernel)⟩
theorem lw_p69 : lw_okq (⟨"ShakeHandsModel", "feasts", "(II)V"⟩, 55) := ⟨⟨by decide +kernel, by decide +kernel⟩, List.mem_of_getElem? (i := 878) (by decide +kernel), List.mem_of_getElem? (i := 1277) (by decide +kernel), List.mem_of_getElem? (i := 1278) (by decide +kernel)⟩
theorem lw_p70 : lw_okq (⟨"ShakeHandsModel", "areOnes", "(I)Z"⟩, 55) := ⟨⟨by decide +kernel, by decide +kernel⟩, List.mem_of_getElem? (i := 878) (by decide +kernel), List.mem_of_getElem? (i := 1297) (by decide +kernel), List.mem_of_getElem? (i := 1298) (by decide +kernel)⟩
theorem lw_p71 : lw_okq (⟨"ShakeHandsModel", "asks", "(IIII)V"⟩, 55) := ⟨⟨by decide +kernel, by decide +kernel⟩, List.mem_of_getElem? (i := 878) (by decide +kernel), List.mem_of_getElem? (i := 1303) (by decide +kernel), List.mem_of_getElem? (i := 1304) (by decide +kernel)⟩
theorem lw_p72 : lw_okq (⟨"ShakeHandsModel", "fewestHands", "()I"⟩, 55) := ⟨⟨by decide +kernel, by decide +kernel⟩, List.mem_of_getElem? (i := 878) (by decide +kernel), List.mem_of_getElem? (i := 1307) (by decide +kernel), List.mem_of_getElem? (i := 1308) (by decide +kernel)⟩
theorem lw_p73 : lw_okq (⟨"ShakeHandsModel", "layRows", "(IZ)I"⟩, 55) := ⟨⟨by decide +kernel, by decide +kernel⟩, List.mem_of_getElem? (i := 878) (by decide +kernel), List.mem_of_getElem? (i := 1311) (by decide +kernel), List.mem_of_getElem? (i := 1312) (by decide +kernel)⟩
theorem lw_p74 : lw_okq (⟨"ShakeHandsModel", "isStill", "(I)Z"⟩, 55) := ⟨⟨by decide +kernel, by decide +kernel⟩, List.mem_of_getElem? (i := 878) (by decide +kernel), List.mem_of_getElem? (i := 1315) (by decide +kernel), List.mem_of_getElem? (i := 1316) (by decide +kernel)⟩
theorem lw_p75 : lw_okq (⟨"ShakeHandsModel", "isGood", "(I)Z"⟩, 55) := ⟨⟨by decide +kernel, by decide +kernel⟩, List.mem_of_getElem? (i := 878) (by decide +kernel), List.mem_of_getElem? (i := 1319) (by decide +kernel), List.mem_of_getElem? (i := 1320) (by decide +kernel)⟩
theorem lw_p76 : lw_okq (⟨"ShakeHandsModel", "isSeen", "(I)Z"⟩, 55) := ⟨⟨by decide +kernel, by decide +kernel⟩, List.mem_of_getElem? (i := 878) (by decide +kernel), List.mem_of_getElem? (i := 1323) (by decide +kernel), List.mem_of_getElem? (i := 1324) (by decide +kernel)⟩
theorem lw_p77 : lw_okq (⟨"ShakeHandsModel", "aRow", "(I)V"⟩, 55) := ⟨⟨by decide +kernel, by decide +kernel⟩, List.mem_of_getElem? (i := 878) (by decide +kernel), List.mem_of_getElem? (i := 1327) (by decide +kernel), List.mem_of_getElem? (i := 1328) (by decide +kernel)⟩
theorem lw_p78 : lw_okq (⟨"ShakeHandsModel", "freeFrom", "(I)I"⟩, 55) := ⟨⟨by decide +kernel, by decide +kernel⟩, List.mem_of_getElem? (i := 878) (by decide +kernel), List.mem_of_getElem? (i := 1331) (by decide +kernel), List.mem_of_getElem? (i := 1332) (by decide +kernel)⟩
theorem lw_p79 : lw_okq (⟨"ShakeHandsModel", "isFreePair", "(I)Z"⟩, 55) := ⟨⟨by decide +kernel, by decide +kernel⟩, List.mem_of_getElem? (i := 878) (by decide +kernel), List.mem_of_getElem? (i := 1335) (by decide +kernel), List.mem_of_getElem? (i := 1336) (by decide +kernel)⟩
def lw_privs_5 : List (MethodName × Nat) := [(⟨"ShakeHandsModel", "shakesNow", "(I)V"⟩, 55), (⟨"ShakeHandsModel", "shakes", "(III)V"⟩, 55), (⟨"ShakeHandsModel", "becomes", "(I)V"⟩, 55), (⟨"ShakeHandsModel", "anyNow", "()I"⟩, 55), (⟨"ShakeHandsModel", "anyIn", "(I)I"⟩, 55), (⟨"ShakeHandsModel", "feasts", "(II)V"⟩, 55), (⟨"ShakeHandsModel", "areOnes", "(I)Z"⟩, 55), (⟨"ShakeHandsModel", "asks", "(IIII)V"⟩, 55), (⟨"ShakeHandsModel", "fewestHands", "()I"⟩, 55), (⟨"ShakeHandsModel", "layRows", "(IZ)I"⟩, 55), (⟨"ShakeHandsModel", "isStill", "(I)Z"⟩, 55), (⟨"ShakeHandsModel", "isGood", "(I)Z"⟩, 55), (⟨"ShakeHandsModel", "isSeen", "(I)Z"⟩, 55), (⟨"ShakeHandsModel", "aRow", "(I)V"⟩, 55), (⟨"ShakeHandsModel", "freeFrom", "(I)I"⟩, 55), (⟨"ShakeHandsModel", "isFreePair", "(I)Z"⟩, 55)]
theorem lw_r5 : ∀ q ∈ lw_privs_5, lw_okq q := List.forall_mem_cons.mpr ⟨lw_p64, List.forall_mem_cons.mpr ⟨lw_p65, List.forall_mem_cons.mpr ⟨lw_p66, List.forall_mem_cons.mpr ⟨lw_p67, List.forall_mem_cons.mpr ⟨lw_p68, List.forall_mem_cons.mpr ⟨lw_p69, List.forall_mem_cons.mpr ⟨lw_p70, List.forall_mem_cons.mpr ⟨lw_p71, List.forall_mem_cons.mpr ⟨lw_p72, List.forall_mem_cons.mpr ⟨lw_p73, List.forall_mem_cons.mpr ⟨lw_p74, List.forall_mem_cons.mpr ⟨lw_p75, List.forall_mem_cons.mpr ⟨lw_p76, List.forall_mem_cons.mpr ⟨lw_p77, List.forall_mem_cons.mpr ⟨lw_p78, List.forall_mem_cons.mpr ⟨lw_p79, fun _ h => absurd h List.not_mem_nil⟩⟩⟩⟩⟩⟩⟩⟩⟩⟩⟩⟩⟩⟩⟩⟩
theorem lw_p80 : lw_okq (⟨"ShakeHandsModel", "copies", "(II)V"⟩, 55) := ⟨⟨by decide +kernel, by decide +kernel⟩, List.mem_of_getElem? (i := 878) (by decide +kernel), List.mem_of_getElem? (i := 1339) (by decide +kernel), List.mem_of_getElem? (i := 1340) (by decide +kernel)⟩
theorem lw_p81 : lw_okq (⟨"ShakeHandsModel", "layRounds", "()V"⟩, 55) := ⟨⟨by decide +kernel, by decide +kernel⟩, List.mem_of_getElem? (i := 878) (by decide +kernel), List.mem_of_getElem? (i := 1347) (by decide +kernel), List.mem_of_getElem? (i := 1348) (by decide +kernel)⟩
theorem lw_p82 : lw_okq (⟨"ShakeHandsModel", "isRound", "(I)Z"⟩, 55) := ⟨⟨by decide +kernel, by decide +kernel⟩, List.mem_of_getElem? (i := 878) (by decide +kernel), List.mem_of_getElem? (i := 1352) (by decide +kernel), List.mem_of_getElem? (i := 1353) (by decide +kernel)⟩
theorem lw_p83 : lw_okq (⟨"ShakeHandsModel", "goesRound", "(II)V"⟩, 55) := ⟨⟨by decide +kernel, by decide +kernel⟩, List.mem_of_getElem? (i := 878) (by decide +kernel), List.mem_of_getElem? (i := 1356) (by decide +kernel), List.mem_of_getElem? (i := 1357) (by decide +kernel)⟩
theorem lw_p84 : lw_okq (⟨"ShakeHandsModel", "aDay", "(I)V"⟩, 55) := ⟨⟨by decide +kernel, by decide +kernel⟩, List.mem_of_getElem? (i := 878) (by decide +kernel), List.mem_of_getElem? (i := 1368) (by decide +kernel), List.mem_of_getElem? (i := 1369) (by decide +kernel)⟩
theorem lw_p85 : lw_okq (⟨"ShakeHandsModel", "notes", "(I)V"⟩, 55) := ⟨⟨by decide +kernel, by decide +kernel⟩, List.mem_of_getElem? (i := 878) (by decide +kernel), List.mem_of_getElem? (i := 1376) (by decide +kernel), List.mem_of_getElem? (i := 1377) (by decide +kernel)⟩
theorem lw_p86 : lw_okq (⟨"ShakeHandsModel", "isAs", "(II)Z"⟩, 55) := ⟨⟨by decide +kernel, by decide +kernel⟩, List.mem_of_getElem? (i := 878) (by decide +kernel), List.mem_of_getElem? (i := 1381) (by decide +kernel), List.mem_of_getElem? (i := 1382) (by decide +kernel)⟩
theorem lw_p87 : lw_okq (⟨"ShakeHandsModel", "seen", "()I"⟩, 55) := ⟨⟨by decide +kernel, by decide +kernel⟩, List.mem_of_getElem? (i := 878) (by decide +kernel), List.mem_of_getElem? (i := 1395) (by decide +kernel), List.mem_of_getElem? (i := 1396) (by decide +kernel)⟩
theorem lw_p88 : lw_okq (⟨"ShakeHandsModel", "sits", "(I)V"⟩, 55) := ⟨⟨by decide +kernel, by decide +kernel⟩, List.mem_of_getElem? (i := 878) (by decide +kernel), List.mem_of_getElem? (i := 1416) (by decide +kernel), List.mem_of_getElem? (i := 1417) (by decide +kernel)⟩
def lw_privs_6 : List (MethodName × Nat) := [(⟨"ShakeHandsModel", "copies", "(II)V"⟩, 55), (⟨"ShakeHandsModel", "layRounds", "()V"⟩, 55), (⟨"ShakeHandsModel", "isRound", "(I)Z"⟩, 55), (⟨"ShakeHandsModel", "goesRound", "(II)V"⟩, 55), (⟨"ShakeHandsModel", "aDay", "(I)V"⟩, 55), (⟨"ShakeHandsModel", "notes", "(I)V"⟩, 55), (⟨"ShakeHandsModel", "isAs", "(II)Z"⟩, 55), (⟨"ShakeHandsModel", "seen", "()I"⟩, 55), (⟨"ShakeHandsModel", "sits", "(I)V"⟩, 55)]
theorem lw_r6 : ∀ q ∈ lw_privs_6, lw_okq q := List.forall_mem_cons.mpr ⟨lw_p80, List.forall_mem_cons.mpr ⟨lw_p81, List.forall_mem_cons.mpr ⟨lw_p82, List.forall_mem_cons.mpr ⟨lw_p83, List.forall_mem_cons.mpr ⟨lw_p84, List.forall_mem_cons.mpr ⟨lw_p85, List.forall_mem_cons.mpr ⟨lw_p86, List.forall_mem_cons.mpr ⟨lw_p87, List.forall_mem_cons.mpr ⟨lw_p88, fun _ h => absurd h List.not_mem_nil⟩⟩⟩⟩⟩⟩⟩⟩⟩
def lw_privs : List (MethodName × Nat) := lw_privs_1 ++ (lw_privs_2 ++ (lw_privs_3 ++ (lw_privs_4 ++ (lw_privs_5 ++ (lw_privs_6)))))
def lw_tbl : List Cond := k2_sels lw_privs ++ tables_1
theorem lw_privs_ok : ∀ q ∈ lw_privs, lw_okq q := by
  show ∀ q ∈ lw_privs_1 ++ (lw_privs_2 ++ (lw_privs_3 ++ (lw_privs_4 ++ (lw_privs_5 ++ (lw_privs_6))))), lw_okq q
  exact List.forall_mem_append.mpr ⟨lw_r1, List.forall_mem_append.mpr ⟨lw_r2, List.forall_mem_append.mpr ⟨lw_r3, List.forall_mem_append.mpr ⟨lw_r4, List.forall_mem_append.mpr ⟨lw_r5, lw_r6⟩⟩⟩⟩⟩
end
section
/-! the tables' words that any method may take along -/
def tbl : List Cond := lw_tbl.filter goodWord
theorem tbl_good : GoodIn tbl tbl := fun w h => ⟨h, good_of_word (List.mem_filter.mp h).2⟩
theorem tbl_in {w : Cond} (i : Nat) (h : tables_1[i]? = some w) (g : goodWord w = true) : w ∈ tbl := List.mem_filter.mpr ⟨List.mem_append_right _ (List.mem_of_getElem? h), g⟩
theorem tbl_sel {w : Cond} (i : Nat) (h : (k2_sels lw_privs)[i]? = some w) (g : goodWord w = true) : w ∈ tbl := List.mem_filter.mpr ⟨List.mem_append_left _ (List.mem_of_getElem? h), g⟩
end
section
/-! NAMES: classes, fields, methods; words of the tables by their places (written by wip/gen/names.py) -/
def R_Circle : String := "ShakeHands$Circle"
def F_Circle : u_T := fun k => match k with
  | 0 => ("ShakeHands$Circle", "people", "I", false)
  | 1 => ("ShakeHands$Circle", "hold", "I", false)
  | 2 => ("ShakeHands$Circle", "joins", "[I", true)
  | 3 => ("ShakeHands$Circle", "joinCount", "I", false)
  | 4 => ("ShakeHands$Circle", "hands", "[I", true)
  | 5 => ("ShakeHands$Circle", "handCount", "I", false)
  | 6 => ("ShakeHands$Circle", "daily", "[I", true)
  | 7 => ("ShakeHands$Circle", "dailyCount", "I", false)
  | _ => ("ShakeHands$Circle", "making", "LShakeHands$Row;", true)
def t_Circle : Nat → FieldType := fun k => match k with
  | 0 => .int
  | 1 => .int
  | 2 => .array .int
  | 3 => .int
  | 4 => .array .int
  | 5 => .int
  | 6 => .array .int
  | 7 => .int
  | _ => .object "ShakeHands$Row"
theorem n_Circle : ∀ a, a < 9 → ∀ b, b < 9 → a ≠ b → (F_Circle a).2.1 ≠ (F_Circle b).2.1 := by decide +kernel
theorem t_Circle_ok : ∀ k, k < 9 → parseFieldDescriptor (F_Circle k).2.2.1 = some (t_Circle k) := by decide +kernel
theorem l_Circle_0 : u_lay R_Circle F_Circle 0 ∈ tbl := tbl_in 97 (by decide +kernel) rfl
theorem l_Circle_1 : u_lay R_Circle F_Circle 1 ∈ tbl := tbl_in 99 (by decide +kernel) rfl
theorem l_Circle_2 : u_lay R_Circle F_Circle 2 ∈ tbl := tbl_in 101 (by decide +kernel) rfl
theorem l_Circle_3 : u_lay R_Circle F_Circle 3 ∈ tbl := tbl_in 103 (by decide +kernel) rfl
theorem l_Circle_4 : u_lay R_Circle F_Circle 4 ∈ tbl := tbl_in 105 (by decide +kernel) rfl
theorem l_Circle_5 : u_lay R_Circle F_Circle 5 ∈ tbl := tbl_in 107 (by decide +kernel) rfl
theorem l_Circle_6 : u_lay R_Circle F_Circle 6 ∈ tbl := tbl_in 109 (by decide +kernel) rfl
theorem l_Circle_7 : u_lay R_Circle F_Circle 7 ∈ tbl := tbl_in 111 (by decide +kernel) rfl
theorem l_Circle_8 : u_lay R_Circle F_Circle 8 ∈ tbl := tbl_in 113 (by decide +kernel) rfl
theorem i_Circle : ∀ w ∈ u_ws R_Circle F_Circle 9, w ∈ tbl := by
  intro w hw
  obtain ⟨k, hk, rfl⟩ := List.mem_map.mp hw
  have hk := List.mem_range.mp hk
  match k, hk with
  | 0, _ => exact l_Circle_0
  | 1, _ => exact l_Circle_1
  | 2, _ => exact l_Circle_2
  | 3, _ => exact l_Circle_3
  | 4, _ => exact l_Circle_4
  | 5, _ => exact l_Circle_5
  | 6, _ => exact l_Circle_6
  | 7, _ => exact l_Circle_7
  | 8, _ => exact l_Circle_8
  | k + 9, h => exact absurd h (by omega)
theorem in_Circle : Cond.instantiable R_Circle 9 ∈ tbl := tbl_in 50 (by decide +kernel) rfl
def R_Habit : String := "ShakeHands$Habit"
def F_Habit : u_T := fun k => match k with
  | 0 => ("ShakeHands$Habit", "past", "[J", true)
  | 1 => ("ShakeHands$Habit", "rows", "[J", true)
  | 2 => ("ShakeHands$Habit", "circle", "LShakeHands$Circle;", true)
  | _ => ("ShakeHands$Habit", "minds", "LShakeHands$Minds;", true)
def t_Habit : Nat → FieldType := fun k => match k with
  | 0 => .array .long
  | 1 => .array .long
  | 2 => .object "ShakeHands$Circle"
  | _ => .object "ShakeHands$Minds"
theorem n_Habit : ∀ a, a < 4 → ∀ b, b < 4 → a ≠ b → (F_Habit a).2.1 ≠ (F_Habit b).2.1 := by decide +kernel
theorem t_Habit_ok : ∀ k, k < 4 → parseFieldDescriptor (F_Habit k).2.2.1 = some (t_Habit k) := by decide +kernel
theorem l_Habit_0 : u_lay R_Habit F_Habit 0 ∈ tbl := tbl_in 264 (by decide +kernel) rfl
theorem l_Habit_1 : u_lay R_Habit F_Habit 1 ∈ tbl := tbl_in 266 (by decide +kernel) rfl
theorem l_Habit_2 : u_lay R_Habit F_Habit 2 ∈ tbl := tbl_in 268 (by decide +kernel) rfl
theorem l_Habit_3 : u_lay R_Habit F_Habit 3 ∈ tbl := tbl_in 270 (by decide +kernel) rfl
theorem i_Habit : ∀ w ∈ u_ws R_Habit F_Habit 4, w ∈ tbl := by
  intro w hw
  obtain ⟨k, hk, rfl⟩ := List.mem_map.mp hw
  have hk := List.mem_range.mp hk
  match k, hk with
  | 0, _ => exact l_Habit_0
  | 1, _ => exact l_Habit_1
  | 2, _ => exact l_Habit_2
  | 3, _ => exact l_Habit_3
  | k + 4, h => exact absurd h (by omega)
theorem in_Habit : Cond.instantiable R_Habit 4 ∈ tbl := tbl_in 255 (by decide +kernel) rfl
def R_Minds : String := "ShakeHands$Minds"
def F_Minds : u_T := fun k => match k with
  | 0 => ("ShakeHands$Minds", "rows", "[J", true)
  | 1 => ("ShakeHands$Minds", "gloved", "I", false)
  | 2 => ("ShakeHands$Minds", "seen", "I", false)
  | _ => ("ShakeHands$Minds", "sights", "[I", true)
def t_Minds : Nat → FieldType := fun k => match k with
  | 0 => .array .long
  | 1 => .int
  | 2 => .int
  | _ => .array .int
theorem n_Minds : ∀ a, a < 4 → ∀ b, b < 4 → a ≠ b → (F_Minds a).2.1 ≠ (F_Minds b).2.1 := by decide +kernel
theorem t_Minds_ok : ∀ k, k < 4 → parseFieldDescriptor (F_Minds k).2.2.1 = some (t_Minds k) := by decide +kernel
theorem l_Minds_0 : u_lay R_Minds F_Minds 0 ∈ tbl := tbl_in 191 (by decide +kernel) rfl
theorem l_Minds_1 : u_lay R_Minds F_Minds 1 ∈ tbl := tbl_in 193 (by decide +kernel) rfl
theorem l_Minds_2 : u_lay R_Minds F_Minds 2 ∈ tbl := tbl_in 195 (by decide +kernel) rfl
theorem l_Minds_3 : u_lay R_Minds F_Minds 3 ∈ tbl := tbl_in 197 (by decide +kernel) rfl
theorem i_Minds : ∀ w ∈ u_ws R_Minds F_Minds 4, w ∈ tbl := by
  intro w hw
  obtain ⟨k, hk, rfl⟩ := List.mem_map.mp hw
  have hk := List.mem_range.mp hk
  match k, hk with
  | 0, _ => exact l_Minds_0
  | 1, _ => exact l_Minds_1
  | 2, _ => exact l_Minds_2
  | 3, _ => exact l_Minds_3
  | k + 4, h => exact absurd h (by omega)
theorem in_Minds : Cond.instantiable R_Minds 4 ∈ tbl := tbl_in 172 (by decide +kernel) rfl
def R_Row : String := "ShakeHands$Row"
def F_Row : u_T := fun k => match k with
  | 0 => ("ShakeHands$Row", "order", "J", false)
  | _ => ("ShakeHands$Row", "known", "I", false)
def t_Row : Nat → FieldType := fun k => match k with
  | 0 => .long
  | _ => .int
theorem n_Row : ∀ a, a < 2 → ∀ b, b < 2 → a ≠ b → (F_Row a).2.1 ≠ (F_Row b).2.1 := by decide +kernel
theorem t_Row_ok : ∀ k, k < 2 → parseFieldDescriptor (F_Row k).2.2.1 = some (t_Row k) := by decide +kernel
theorem l_Row_0 : u_lay R_Row F_Row 0 ∈ tbl := tbl_in 65 (by decide +kernel) rfl
theorem l_Row_1 : u_lay R_Row F_Row 1 ∈ tbl := tbl_in 67 (by decide +kernel) rfl
theorem i_Row : ∀ w ∈ u_ws R_Row F_Row 2, w ∈ tbl := by
  intro w hw
  obtain ⟨k, hk, rfl⟩ := List.mem_map.mp hw
  have hk := List.mem_range.mp hk
  match k, hk with
  | 0, _ => exact l_Row_0
  | 1, _ => exact l_Row_1
  | k + 2, h => exact absurd h (by omega)
theorem in_Row : Cond.instantiable R_Row 2 ∈ tbl := tbl_in 56 (by decide +kernel) rfl
def R_Search : String := "ShakeHands$Search"
def F_Search : u_T := fun k => match k with
  | 0 => ("ShakeHands$Search", "path", "[I", true)
  | 1 => ("ShakeHands$Search", "firstWay", "[I", true)
  | 2 => ("ShakeHands$Search", "ways", "I", false)
  | 3 => ("ShakeHands$Search", "inEach", "I", false)
  | 4 => ("ShakeHands$Search", "inAny", "I", false)
  | 5 => ("ShakeHands$Search", "level", "[[J", true)
  | 6 => ("ShakeHands$Search", "circle", "LShakeHands$Circle;", true)
  | 7 => ("ShakeHands$Search", "minds", "LShakeHands$Minds;", true)
  | 8 => ("ShakeHands$Search", "pairs", "I", false)
  | 9 => ("ShakeHands$Search", "thing", "I", false)
  | 10 => ("ShakeHands$Search", "want", "I", false)
  | 11 => ("ShakeHands$Search", "shun", "I", false)
  | _ => ("ShakeHands$Search", "never", "I", false)
def t_Search : Nat → FieldType := fun k => match k with
  | 0 => .array .int
  | 1 => .array .int
  | 2 => .int
  | 3 => .int
  | 4 => .int
  | 5 => .array (.array .long)
  | 6 => .object "ShakeHands$Circle"
  | 7 => .object "ShakeHands$Minds"
  | 8 => .int
  | 9 => .int
  | 10 => .int
  | 11 => .int
  | _ => .int
theorem n_Search : ∀ a, a < 13 → ∀ b, b < 13 → a ≠ b → (F_Search a).2.1 ≠ (F_Search b).2.1 := by decide +kernel
theorem t_Search_ok : ∀ k, k < 13 → parseFieldDescriptor (F_Search k).2.2.1 = some (t_Search k) := by decide +kernel
theorem l_Search_0 : u_lay R_Search F_Search 0 ∈ tbl := tbl_in 227 (by decide +kernel) rfl
theorem l_Search_1 : u_lay R_Search F_Search 1 ∈ tbl := tbl_in 229 (by decide +kernel) rfl
theorem l_Search_2 : u_lay R_Search F_Search 2 ∈ tbl := tbl_in 231 (by decide +kernel) rfl
theorem l_Search_3 : u_lay R_Search F_Search 3 ∈ tbl := tbl_in 233 (by decide +kernel) rfl
theorem l_Search_4 : u_lay R_Search F_Search 4 ∈ tbl := tbl_in 235 (by decide +kernel) rfl
theorem l_Search_5 : u_lay R_Search F_Search 5 ∈ tbl := tbl_in 237 (by decide +kernel) rfl
theorem l_Search_6 : u_lay R_Search F_Search 6 ∈ tbl := tbl_in 239 (by decide +kernel) rfl
theorem l_Search_7 : u_lay R_Search F_Search 7 ∈ tbl := tbl_in 241 (by decide +kernel) rfl
theorem l_Search_8 : u_lay R_Search F_Search 8 ∈ tbl := tbl_in 243 (by decide +kernel) rfl
theorem l_Search_9 : u_lay R_Search F_Search 9 ∈ tbl := tbl_in 245 (by decide +kernel) rfl
theorem l_Search_10 : u_lay R_Search F_Search 10 ∈ tbl := tbl_in 247 (by decide +kernel) rfl
theorem l_Search_11 : u_lay R_Search F_Search 11 ∈ tbl := tbl_in 249 (by decide +kernel) rfl
theorem l_Search_12 : u_lay R_Search F_Search 12 ∈ tbl := tbl_in 251 (by decide +kernel) rfl
theorem i_Search : ∀ w ∈ u_ws R_Search F_Search 13, w ∈ tbl := by
  intro w hw
  obtain ⟨k, hk, rfl⟩ := List.mem_map.mp hw
  have hk := List.mem_range.mp hk
  match k, hk with
  | 0, _ => exact l_Search_0
  | 1, _ => exact l_Search_1
  | 2, _ => exact l_Search_2
  | 3, _ => exact l_Search_3
  | 4, _ => exact l_Search_4
  | 5, _ => exact l_Search_5
  | 6, _ => exact l_Search_6
  | 7, _ => exact l_Search_7
  | 8, _ => exact l_Search_8
  | 9, _ => exact l_Search_9
  | 10, _ => exact l_Search_10
  | 11, _ => exact l_Search_11
  | 12, _ => exact l_Search_12
  | k + 13, h => exact absurd h (by omega)
theorem in_Search : Cond.instantiable R_Search 13 ∈ tbl := tbl_in 202 (by decide +kernel) rfl
def R_Sheet : String := "ShakeHands$Sheet"
def F_Sheet : u_T := fun k => match k with
  | 0 => ("ShakeHands$Sheet", "isThere", "Z", false)
  | 1 => ("ShakeHands$Sheet", "size", "I", false)
  | 2 => ("ShakeHands$Sheet", "lane", "I", false)
  | _ => ("ShakeHands$Sheet", "cells", "[I", true)
def t_Sheet : Nat → FieldType := fun k => match k with
  | 0 => .boolean
  | 1 => .int
  | 2 => .int
  | _ => .array .int
theorem n_Sheet : ∀ a, a < 4 → ∀ b, b < 4 → a ≠ b → (F_Sheet a).2.1 ≠ (F_Sheet b).2.1 := by decide +kernel
theorem t_Sheet_ok : ∀ k, k < 4 → parseFieldDescriptor (F_Sheet k).2.2.1 = some (t_Sheet k) := by decide +kernel
theorem l_Sheet_0 : u_lay R_Sheet F_Sheet 0 ∈ tbl := tbl_in 286 (by decide +kernel) rfl
theorem l_Sheet_1 : u_lay R_Sheet F_Sheet 1 ∈ tbl := tbl_in 288 (by decide +kernel) rfl
theorem l_Sheet_2 : u_lay R_Sheet F_Sheet 2 ∈ tbl := tbl_in 290 (by decide +kernel) rfl
theorem l_Sheet_3 : u_lay R_Sheet F_Sheet 3 ∈ tbl := tbl_in 292 (by decide +kernel) rfl
theorem i_Sheet : ∀ w ∈ u_ws R_Sheet F_Sheet 4, w ∈ tbl := by
  intro w hw
  obtain ⟨k, hk, rfl⟩ := List.mem_map.mp hw
  have hk := List.mem_range.mp hk
  match k, hk with
  | 0, _ => exact l_Sheet_0
  | 1, _ => exact l_Sheet_1
  | 2, _ => exact l_Sheet_2
  | 3, _ => exact l_Sheet_3
  | k + 4, h => exact absurd h (by omega)
theorem in_Sheet : Cond.instantiable R_Sheet 4 ∈ tbl := tbl_in 275 (by decide +kernel) rfl
def R_Tape : String := "ShakeHands$Tape"
def F_Tape : u_T := fun k => match k with
  | 0 => ("ShakeHands$Tape", "bytes", "[B", true)
  | _ => ("ShakeHands$Tape", "length", "I", false)
def t_Tape : Nat → FieldType := fun k => match k with
  | 0 => .array .byte
  | _ => .int
theorem n_Tape : ∀ a, a < 2 → ∀ b, b < 2 → a ≠ b → (F_Tape a).2.1 ≠ (F_Tape b).2.1 := by decide +kernel
theorem t_Tape_ok : ∀ k, k < 2 → parseFieldDescriptor (F_Tape k).2.2.1 = some (t_Tape k) := by decide +kernel
theorem l_Tape_0 : u_lay R_Tape F_Tape 0 ∈ tbl := tbl_in 37 (by decide +kernel) rfl
theorem l_Tape_1 : u_lay R_Tape F_Tape 1 ∈ tbl := tbl_in 39 (by decide +kernel) rfl
theorem i_Tape : ∀ w ∈ u_ws R_Tape F_Tape 2, w ∈ tbl := by
  intro w hw
  obtain ⟨k, hk, rfl⟩ := List.mem_map.mp hw
  have hk := List.mem_range.mp hk
  match k, hk with
  | 0, _ => exact l_Tape_0
  | 1, _ => exact l_Tape_1
  | k + 2, h => exact absurd h (by omega)
theorem in_Tape : Cond.instantiable R_Tape 2 ∈ tbl := tbl_in 27 (by decide +kernel) rfl
def R_Teller : String := "ShakeHands$Teller"
def F_Teller : u_T := fun k => match k with
  | 0 => ("ShakeHands$Teller", "circle", "LShakeHands$Circle;", true)
  | 1 => ("ShakeHands$Teller", "rows", "[J", true)
  | 2 => ("ShakeHands$Teller", "gloved", "I", false)
  | 3 => ("ShakeHands$Teller", "faultMet", "I", false)
  | 4 => ("ShakeHands$Teller", "tape", "LShakeHands$Tape;", true)
  | 5 => ("ShakeHands$Teller", "telling", "LShakeHands$Row;", true)
  | 6 => ("ShakeHands$Teller", "at", "I", false)
  | 7 => ("ShakeHands$Teller", "kind", "I", false)
  | 8 => ("ShakeHands$Teller", "place", "I", false)
  | 9 => ("ShakeHands$Teller", "value", "I", false)
  | 10 => ("ShakeHands$Teller", "peopleTold", "Z", false)
  | 11 => ("ShakeHands$Teller", "holdTold", "Z", false)
  | 12 => ("ShakeHands$Teller", "rowsTold", "I", false)
  | 13 => ("ShakeHands$Teller", "highestOne", "I", false)
  | _ => ("ShakeHands$Teller", "longestRow", "I", false)
def t_Teller : Nat → FieldType := fun k => match k with
  | 0 => .object "ShakeHands$Circle"
  | 1 => .array .long
  | 2 => .int
  | 3 => .int
  | 4 => .object "ShakeHands$Tape"
  | 5 => .object "ShakeHands$Row"
  | 6 => .int
  | 7 => .int
  | 8 => .int
  | 9 => .int
  | 10 => .boolean
  | 11 => .boolean
  | 12 => .int
  | 13 => .int
  | _ => .int
theorem n_Teller : ∀ a, a < 15 → ∀ b, b < 15 → a ≠ b → (F_Teller a).2.1 ≠ (F_Teller b).2.1 := by decide +kernel
theorem t_Teller_ok : ∀ k, k < 15 → parseFieldDescriptor (F_Teller k).2.2.1 = some (t_Teller k) := by decide +kernel
theorem l_Teller_0 : u_lay R_Teller F_Teller 0 ∈ tbl := tbl_in 137 (by decide +kernel) rfl
theorem l_Teller_1 : u_lay R_Teller F_Teller 1 ∈ tbl := tbl_in 139 (by decide +kernel) rfl
theorem l_Teller_2 : u_lay R_Teller F_Teller 2 ∈ tbl := tbl_in 141 (by decide +kernel) rfl
theorem l_Teller_3 : u_lay R_Teller F_Teller 3 ∈ tbl := tbl_in 143 (by decide +kernel) rfl
theorem l_Teller_4 : u_lay R_Teller F_Teller 4 ∈ tbl := tbl_in 145 (by decide +kernel) rfl
theorem l_Teller_5 : u_lay R_Teller F_Teller 5 ∈ tbl := tbl_in 147 (by decide +kernel) rfl
theorem l_Teller_6 : u_lay R_Teller F_Teller 6 ∈ tbl := tbl_in 149 (by decide +kernel) rfl
theorem l_Teller_7 : u_lay R_Teller F_Teller 7 ∈ tbl := tbl_in 151 (by decide +kernel) rfl
theorem l_Teller_8 : u_lay R_Teller F_Teller 8 ∈ tbl := tbl_in 153 (by decide +kernel) rfl
theorem l_Teller_9 : u_lay R_Teller F_Teller 9 ∈ tbl := tbl_in 155 (by decide +kernel) rfl
theorem l_Teller_10 : u_lay R_Teller F_Teller 10 ∈ tbl := tbl_in 157 (by decide +kernel) rfl
theorem l_Teller_11 : u_lay R_Teller F_Teller 11 ∈ tbl := tbl_in 159 (by decide +kernel) rfl
theorem l_Teller_12 : u_lay R_Teller F_Teller 12 ∈ tbl := tbl_in 161 (by decide +kernel) rfl
theorem l_Teller_13 : u_lay R_Teller F_Teller 13 ∈ tbl := tbl_in 163 (by decide +kernel) rfl
theorem l_Teller_14 : u_lay R_Teller F_Teller 14 ∈ tbl := tbl_in 165 (by decide +kernel) rfl
theorem i_Teller : ∀ w ∈ u_ws R_Teller F_Teller 15, w ∈ tbl := by
  intro w hw
  obtain ⟨k, hk, rfl⟩ := List.mem_map.mp hw
  have hk := List.mem_range.mp hk
  match k, hk with
  | 0, _ => exact l_Teller_0
  | 1, _ => exact l_Teller_1
  | 2, _ => exact l_Teller_2
  | 3, _ => exact l_Teller_3
  | 4, _ => exact l_Teller_4
  | 5, _ => exact l_Teller_5
  | 6, _ => exact l_Teller_6
  | 7, _ => exact l_Teller_7
  | 8, _ => exact l_Teller_8
  | 9, _ => exact l_Teller_9
  | 10, _ => exact l_Teller_10
  | 11, _ => exact l_Teller_11
  | 12, _ => exact l_Teller_12
  | 13, _ => exact l_Teller_13
  | 14, _ => exact l_Teller_14
  | k + 15, h => exact absurd h (by omega)
theorem in_Teller : Cond.instantiable R_Teller 15 ∈ tbl := tbl_in 44 (by decide +kernel) rfl
def R_ShakeHands : String := "ShakeHands"
def F_ShakeHands : u_T := fun k => match k with
  | 0 => ("ShakeHands", "tape", "LShakeHands$Tape;", true)
  | 1 => ("ShakeHands", "teller", "LShakeHands$Teller;", true)
  | 2 => ("ShakeHands", "circle", "LShakeHands$Circle;", true)
  | 3 => ("ShakeHands", "now", "LShakeHands$Minds;", true)
  | 4 => ("ShakeHands", "images", "[LShakeHands$Minds;", true)
  | 5 => ("ShakeHands", "search", "LShakeHands$Search;", true)
  | 6 => ("ShakeHands", "habit", "LShakeHands$Habit;", true)
  | 7 => ("ShakeHands", "sheets", "[LShakeHands$Sheet;", true)
  | 8 => ("ShakeHands", "trial", "[J", true)
  | 9 => ("ShakeHands", "kept", "I", false)
  | _ => ("ShakeHands", "tornFault", "I", false)
def t_ShakeHands : Nat → FieldType := fun k => match k with
  | 0 => .object "ShakeHands$Tape"
  | 1 => .object "ShakeHands$Teller"
  | 2 => .object "ShakeHands$Circle"
  | 3 => .object "ShakeHands$Minds"
  | 4 => .array (.object "ShakeHands$Minds")
  | 5 => .object "ShakeHands$Search"
  | 6 => .object "ShakeHands$Habit"
  | 7 => .array (.object "ShakeHands$Sheet")
  | 8 => .array .long
  | 9 => .int
  | _ => .int
theorem n_ShakeHands : ∀ a, a < 11 → ∀ b, b < 11 → a ≠ b → (F_ShakeHands a).2.1 ≠ (F_ShakeHands b).2.1 := by decide +kernel
theorem t_ShakeHands_ok : ∀ k, k < 11 → parseFieldDescriptor (F_ShakeHands k).2.2.1 = some (t_ShakeHands k) := by decide +kernel
theorem l_ShakeHands_0 : u_lay R_ShakeHands F_ShakeHands 0 ∈ tbl := tbl_in 306 (by decide +kernel) rfl
theorem l_ShakeHands_1 : u_lay R_ShakeHands F_ShakeHands 1 ∈ tbl := tbl_in 308 (by decide +kernel) rfl
theorem l_ShakeHands_2 : u_lay R_ShakeHands F_ShakeHands 2 ∈ tbl := tbl_in 310 (by decide +kernel) rfl
theorem l_ShakeHands_3 : u_lay R_ShakeHands F_ShakeHands 3 ∈ tbl := tbl_in 312 (by decide +kernel) rfl
theorem l_ShakeHands_4 : u_lay R_ShakeHands F_ShakeHands 4 ∈ tbl := tbl_in 314 (by decide +kernel) rfl
theorem l_ShakeHands_5 : u_lay R_ShakeHands F_ShakeHands 5 ∈ tbl := tbl_in 316 (by decide +kernel) rfl
theorem l_ShakeHands_6 : u_lay R_ShakeHands F_ShakeHands 6 ∈ tbl := tbl_in 318 (by decide +kernel) rfl
theorem l_ShakeHands_7 : u_lay R_ShakeHands F_ShakeHands 7 ∈ tbl := tbl_in 320 (by decide +kernel) rfl
theorem l_ShakeHands_8 : u_lay R_ShakeHands F_ShakeHands 8 ∈ tbl := tbl_in 322 (by decide +kernel) rfl
theorem l_ShakeHands_9 : u_lay R_ShakeHands F_ShakeHands 9 ∈ tbl := tbl_in 324 (by decide +kernel) rfl
theorem l_ShakeHands_10 : u_lay R_ShakeHands F_ShakeHands 10 ∈ tbl := tbl_in 326 (by decide +kernel) rfl
theorem i_ShakeHands : ∀ w ∈ u_ws R_ShakeHands F_ShakeHands 11, w ∈ tbl := by
  intro w hw
  obtain ⟨k, hk, rfl⟩ := List.mem_map.mp hw
  have hk := List.mem_range.mp hk
  match k, hk with
  | 0, _ => exact l_ShakeHands_0
  | 1, _ => exact l_ShakeHands_1
  | 2, _ => exact l_ShakeHands_2
  | 3, _ => exact l_ShakeHands_3
  | 4, _ => exact l_ShakeHands_4
  | 5, _ => exact l_ShakeHands_5
  | 6, _ => exact l_ShakeHands_6
  | 7, _ => exact l_ShakeHands_7
  | 8, _ => exact l_ShakeHands_8
  | 9, _ => exact l_ShakeHands_9
  | 10, _ => exact l_ShakeHands_10
  | k + 11, h => exact absurd h (by omega)
theorem in_ShakeHands : Cond.instantiable R_ShakeHands 11 ∈ tbl := tbl_in 19 (by decide +kernel) rfl
def R_Model : String := "ShakeHandsModel"
def F_Model : u_T := fun k => match k with
  | 0 => ("ShakeHandsModel", "st", "[I", true)
  | 1 => ("ShakeHandsModel", "isKept", "[Z", true)
  | 2 => ("ShakeHandsModel", "people", "I", false)
  | 3 => ("ShakeHandsModel", "hold", "I", false)
  | 4 => ("ShakeHandsModel", "joins", "I", false)
  | 5 => ("ShakeHandsModel", "hands", "I", false)
  | 6 => ("ShakeHandsModel", "dailies", "I", false)
  | 7 => ("ShakeHandsModel", "join", "[I", true)
  | 8 => ("ShakeHandsModel", "hand", "[I", true)
  | 9 => ("ShakeHandsModel", "daily", "[I", true)
  | 10 => ("ShakeHandsModel", "less", "[I", true)
  | 11 => ("ShakeHandsModel", "more", "[I", true)
  | 12 => ("ShakeHandsModel", "dPeople", "I", false)
  | 13 => ("ShakeHandsModel", "dHold", "I", false)
  | 14 => ("ShakeHandsModel", "dJoins", "I", false)
  | 15 => ("ShakeHandsModel", "dHands", "I", false)
  | 16 => ("ShakeHandsModel", "dDailies", "I", false)
  | 17 => ("ShakeHandsModel", "highestTold", "I", false)
  | 18 => ("ShakeHandsModel", "dJoin", "[I", true)
  | 19 => ("ShakeHandsModel", "dHand", "[I", true)
  | 20 => ("ShakeHandsModel", "dDaily", "[I", true)
  | 21 => ("ShakeHandsModel", "dRow", "[I", true)
  | 22 => ("ShakeHandsModel", "dGlove", "[Z", true)
  | 23 => ("ShakeHandsModel", "isKnown", "[Z", true)
  | 24 => ("ShakeHandsModel", "toldLines", "I", false)
  | 25 => ("ShakeHandsModel", "tape", "[I", true)
  | 26 => ("ShakeHandsModel", "taped", "I", false)
  | 27 => ("ShakeHandsModel", "pos", "I", false)
  | 28 => ("ShakeHandsModel", "from", "I", false)
  | 29 => ("ShakeHandsModel", "sort", "I", false)
  | 30 => ("ShakeHandsModel", "value", "I", false)
  | 31 => ("ShakeHandsModel", "fault", "I", false)
  | 32 => ("ShakeHandsModel", "wrongAt", "I", false)
  | 33 => ("ShakeHandsModel", "tried", "[I", true)
  | 34 => ("ShakeHandsModel", "row", "[I", true)
  | 35 => ("ShakeHandsModel", "size", "I", false)
  | 36 => ("ShakeHandsModel", "digit", "[I", true)
  | 37 => ("ShakeHandsModel", "found", "[I", true)
  | 38 => ("ShakeHandsModel", "gloved", "I", false)
  | 39 => ("ShakeHandsModel", "asked", "I", false)
  | 40 => ("ShakeHandsModel", "askedThing", "I", false)
  | 41 => ("ShakeHandsModel", "askedSome", "I", false)
  | 42 => ("ShakeHandsModel", "askedOthers", "I", false)
  | 43 => ("ShakeHandsModel", "rowMany", "I", false)
  | 44 => ("ShakeHandsModel", "inEach", "I", false)
  | 45 => ("ShakeHandsModel", "inAny", "I", false)
  | 46 => ("ShakeHandsModel", "round", "[I", true)
  | 47 => ("ShakeHandsModel", "roundMany", "I", false)
  | 48 => ("ShakeHandsModel", "past", "[J", true)
  | 49 => ("ShakeHandsModel", "seat", "[I", true)
  | 50 => ("ShakeHandsModel", "firstSeat", "[I", true)
  | 51 => ("ShakeHandsModel", "lanes", "[I", true)
  | 52 => ("ShakeHandsModel", "sizes", "[I", true)
  | 53 => ("ShakeHandsModel", "cells", "[I", true)
  | _ => ("ShakeHandsModel", "torn", "I", false)
def t_Model : Nat → FieldType := fun k => match k with
  | 0 => .array .int
  | 1 => .array .boolean
  | 2 => .int
  | 3 => .int
  | 4 => .int
  | 5 => .int
  | 6 => .int
  | 7 => .array .int
  | 8 => .array .int
  | 9 => .array .int
  | 10 => .array .int
  | 11 => .array .int
  | 12 => .int
  | 13 => .int
  | 14 => .int
  | 15 => .int
  | 16 => .int
  | 17 => .int
  | 18 => .array .int
  | 19 => .array .int
  | 20 => .array .int
  | 21 => .array .int
  | 22 => .array .boolean
  | 23 => .array .boolean
  | 24 => .int
  | 25 => .array .int
  | 26 => .int
  | 27 => .int
  | 28 => .int
  | 29 => .int
  | 30 => .int
  | 31 => .int
  | 32 => .int
  | 33 => .array .int
  | 34 => .array .int
  | 35 => .int
  | 36 => .array .int
  | 37 => .array .int
  | 38 => .int
  | 39 => .int
  | 40 => .int
  | 41 => .int
  | 42 => .int
  | 43 => .int
  | 44 => .int
  | 45 => .int
  | 46 => .array .int
  | 47 => .int
  | 48 => .array .long
  | 49 => .array .int
  | 50 => .array .int
  | 51 => .array .int
  | 52 => .array .int
  | 53 => .array .int
  | _ => .int
theorem n_Model : ∀ a, a < 55 → ∀ b, b < 55 → a ≠ b → (F_Model a).2.1 ≠ (F_Model b).2.1 := by decide +kernel
theorem t_Model_ok : ∀ k, k < 55 → parseFieldDescriptor (F_Model k).2.2.1 = some (t_Model k) := by decide +kernel
theorem l_Model_0 : u_lay R_Model F_Model 0 ∈ tbl := tbl_in 952 (by decide +kernel) rfl
theorem l_Model_1 : u_lay R_Model F_Model 1 ∈ tbl := tbl_in 954 (by decide +kernel) rfl
theorem l_Model_2 : u_lay R_Model F_Model 2 ∈ tbl := tbl_in 956 (by decide +kernel) rfl
theorem l_Model_3 : u_lay R_Model F_Model 3 ∈ tbl := tbl_in 958 (by decide +kernel) rfl
theorem l_Model_4 : u_lay R_Model F_Model 4 ∈ tbl := tbl_in 960 (by decide +kernel) rfl
theorem l_Model_5 : u_lay R_Model F_Model 5 ∈ tbl := tbl_in 962 (by decide +kernel) rfl
theorem l_Model_6 : u_lay R_Model F_Model 6 ∈ tbl := tbl_in 964 (by decide +kernel) rfl
theorem l_Model_7 : u_lay R_Model F_Model 7 ∈ tbl := tbl_in 966 (by decide +kernel) rfl
theorem l_Model_8 : u_lay R_Model F_Model 8 ∈ tbl := tbl_in 968 (by decide +kernel) rfl
theorem l_Model_9 : u_lay R_Model F_Model 9 ∈ tbl := tbl_in 970 (by decide +kernel) rfl
theorem l_Model_10 : u_lay R_Model F_Model 10 ∈ tbl := tbl_in 972 (by decide +kernel) rfl
theorem l_Model_11 : u_lay R_Model F_Model 11 ∈ tbl := tbl_in 974 (by decide +kernel) rfl
theorem l_Model_12 : u_lay R_Model F_Model 12 ∈ tbl := tbl_in 976 (by decide +kernel) rfl
theorem l_Model_13 : u_lay R_Model F_Model 13 ∈ tbl := tbl_in 978 (by decide +kernel) rfl
theorem l_Model_14 : u_lay R_Model F_Model 14 ∈ tbl := tbl_in 980 (by decide +kernel) rfl
theorem l_Model_15 : u_lay R_Model F_Model 15 ∈ tbl := tbl_in 982 (by decide +kernel) rfl
theorem l_Model_16 : u_lay R_Model F_Model 16 ∈ tbl := tbl_in 984 (by decide +kernel) rfl
theorem l_Model_17 : u_lay R_Model F_Model 17 ∈ tbl := tbl_in 986 (by decide +kernel) rfl
theorem l_Model_18 : u_lay R_Model F_Model 18 ∈ tbl := tbl_in 988 (by decide +kernel) rfl
theorem l_Model_19 : u_lay R_Model F_Model 19 ∈ tbl := tbl_in 990 (by decide +kernel) rfl
theorem l_Model_20 : u_lay R_Model F_Model 20 ∈ tbl := tbl_in 992 (by decide +kernel) rfl
theorem l_Model_21 : u_lay R_Model F_Model 21 ∈ tbl := tbl_in 994 (by decide +kernel) rfl
theorem l_Model_22 : u_lay R_Model F_Model 22 ∈ tbl := tbl_in 996 (by decide +kernel) rfl
theorem l_Model_23 : u_lay R_Model F_Model 23 ∈ tbl := tbl_in 998 (by decide +kernel) rfl
theorem l_Model_24 : u_lay R_Model F_Model 24 ∈ tbl := tbl_in 1000 (by decide +kernel) rfl
theorem l_Model_25 : u_lay R_Model F_Model 25 ∈ tbl := tbl_in 1002 (by decide +kernel) rfl
theorem l_Model_26 : u_lay R_Model F_Model 26 ∈ tbl := tbl_in 1004 (by decide +kernel) rfl
theorem l_Model_27 : u_lay R_Model F_Model 27 ∈ tbl := tbl_in 1006 (by decide +kernel) rfl
theorem l_Model_28 : u_lay R_Model F_Model 28 ∈ tbl := tbl_in 1008 (by decide +kernel) rfl
theorem l_Model_29 : u_lay R_Model F_Model 29 ∈ tbl := tbl_in 1010 (by decide +kernel) rfl
theorem l_Model_30 : u_lay R_Model F_Model 30 ∈ tbl := tbl_in 1012 (by decide +kernel) rfl
theorem l_Model_31 : u_lay R_Model F_Model 31 ∈ tbl := tbl_in 1014 (by decide +kernel) rfl
theorem l_Model_32 : u_lay R_Model F_Model 32 ∈ tbl := tbl_in 1016 (by decide +kernel) rfl
theorem l_Model_33 : u_lay R_Model F_Model 33 ∈ tbl := tbl_in 1018 (by decide +kernel) rfl
theorem l_Model_34 : u_lay R_Model F_Model 34 ∈ tbl := tbl_in 1020 (by decide +kernel) rfl
theorem l_Model_35 : u_lay R_Model F_Model 35 ∈ tbl := tbl_in 1022 (by decide +kernel) rfl
theorem l_Model_36 : u_lay R_Model F_Model 36 ∈ tbl := tbl_in 1024 (by decide +kernel) rfl
theorem l_Model_37 : u_lay R_Model F_Model 37 ∈ tbl := tbl_in 1026 (by decide +kernel) rfl
theorem l_Model_38 : u_lay R_Model F_Model 38 ∈ tbl := tbl_in 1028 (by decide +kernel) rfl
theorem l_Model_39 : u_lay R_Model F_Model 39 ∈ tbl := tbl_in 1030 (by decide +kernel) rfl
theorem l_Model_40 : u_lay R_Model F_Model 40 ∈ tbl := tbl_in 1032 (by decide +kernel) rfl
theorem l_Model_41 : u_lay R_Model F_Model 41 ∈ tbl := tbl_in 1034 (by decide +kernel) rfl
theorem l_Model_42 : u_lay R_Model F_Model 42 ∈ tbl := tbl_in 1036 (by decide +kernel) rfl
theorem l_Model_43 : u_lay R_Model F_Model 43 ∈ tbl := tbl_in 1038 (by decide +kernel) rfl
theorem l_Model_44 : u_lay R_Model F_Model 44 ∈ tbl := tbl_in 1040 (by decide +kernel) rfl
theorem l_Model_45 : u_lay R_Model F_Model 45 ∈ tbl := tbl_in 1042 (by decide +kernel) rfl
theorem l_Model_46 : u_lay R_Model F_Model 46 ∈ tbl := tbl_in 1044 (by decide +kernel) rfl
theorem l_Model_47 : u_lay R_Model F_Model 47 ∈ tbl := tbl_in 1046 (by decide +kernel) rfl
theorem l_Model_48 : u_lay R_Model F_Model 48 ∈ tbl := tbl_in 1048 (by decide +kernel) rfl
theorem l_Model_49 : u_lay R_Model F_Model 49 ∈ tbl := tbl_in 1050 (by decide +kernel) rfl
theorem l_Model_50 : u_lay R_Model F_Model 50 ∈ tbl := tbl_in 1052 (by decide +kernel) rfl
theorem l_Model_51 : u_lay R_Model F_Model 51 ∈ tbl := tbl_in 1054 (by decide +kernel) rfl
theorem l_Model_52 : u_lay R_Model F_Model 52 ∈ tbl := tbl_in 1056 (by decide +kernel) rfl
theorem l_Model_53 : u_lay R_Model F_Model 53 ∈ tbl := tbl_in 1058 (by decide +kernel) rfl
theorem l_Model_54 : u_lay R_Model F_Model 54 ∈ tbl := tbl_in 1060 (by decide +kernel) rfl
theorem i_Model : ∀ w ∈ u_ws R_Model F_Model 55, w ∈ tbl := by
  intro w hw
  obtain ⟨k, hk, rfl⟩ := List.mem_map.mp hw
  have hk := List.mem_range.mp hk
  match k, hk with
  | 0, _ => exact l_Model_0
  | 1, _ => exact l_Model_1
  | 2, _ => exact l_Model_2
  | 3, _ => exact l_Model_3
  | 4, _ => exact l_Model_4
  | 5, _ => exact l_Model_5
  | 6, _ => exact l_Model_6
  | 7, _ => exact l_Model_7
  | 8, _ => exact l_Model_8
  | 9, _ => exact l_Model_9
  | 10, _ => exact l_Model_10
  | 11, _ => exact l_Model_11
  | 12, _ => exact l_Model_12
  | 13, _ => exact l_Model_13
  | 14, _ => exact l_Model_14
  | 15, _ => exact l_Model_15
  | 16, _ => exact l_Model_16
  | 17, _ => exact l_Model_17
  | 18, _ => exact l_Model_18
  | 19, _ => exact l_Model_19
  | 20, _ => exact l_Model_20
  | 21, _ => exact l_Model_21
  | 22, _ => exact l_Model_22
  | 23, _ => exact l_Model_23
  | 24, _ => exact l_Model_24
  | 25, _ => exact l_Model_25
  | 26, _ => exact l_Model_26
  | 27, _ => exact l_Model_27
  | 28, _ => exact l_Model_28
  | 29, _ => exact l_Model_29
  | 30, _ => exact l_Model_30
  | 31, _ => exact l_Model_31
  | 32, _ => exact l_Model_32
  | 33, _ => exact l_Model_33
  | 34, _ => exact l_Model_34
  | 35, _ => exact l_Model_35
  | 36, _ => exact l_Model_36
  | 37, _ => exact l_Model_37
  | 38, _ => exact l_Model_38
  | 39, _ => exact l_Model_39
  | 40, _ => exact l_Model_40
  | 41, _ => exact l_Model_41
  | 42, _ => exact l_Model_42
  | 43, _ => exact l_Model_43
  | 44, _ => exact l_Model_44
  | 45, _ => exact l_Model_45
  | 46, _ => exact l_Model_46
  | 47, _ => exact l_Model_47
  | 48, _ => exact l_Model_48
  | 49, _ => exact l_Model_49
  | 50, _ => exact l_Model_50
  | 51, _ => exact l_Model_51
  | 52, _ => exact l_Model_52
  | 53, _ => exact l_Model_53
  | 54, _ => exact l_Model_54
  | k + 55, h => exact absurd h (by omega)
theorem in_Model : Cond.instantiable R_Model 55 ∈ tbl := tbl_in 878 (by decide +kernel) rfl
abbrev cl : List vw_C := [(R_Circle, F_Circle, 9), (R_Habit, F_Habit, 4), (R_Minds, F_Minds, 4), (R_Row, F_Row, 2), (R_Search, F_Search, 13), (R_Sheet, F_Sheet, 4), (R_Tape, F_Tape, 2), (R_Teller, F_Teller, 15), (R_ShakeHands, F_ShakeHands, 11), (R_Model, F_Model, 55)]
theorem ini_Circle : Cond.initialized "ShakeHands$Circle" ∈ tbl := tbl_in 4 (by decide +kernel) rfl
theorem ini_Habit : Cond.initialized "ShakeHands$Habit" ∈ tbl := tbl_in 8 (by decide +kernel) rfl
theorem ini_Minds : Cond.initialized "ShakeHands$Minds" ∈ tbl := tbl_in 6 (by decide +kernel) rfl
theorem ini_Row : Cond.initialized "ShakeHands$Row" ∈ tbl := tbl_in 5 (by decide +kernel) rfl
theorem ini_Search : Cond.initialized "ShakeHands$Search" ∈ tbl := tbl_in 7 (by decide +kernel) rfl
theorem ini_Sheet : Cond.initialized "ShakeHands$Sheet" ∈ tbl := tbl_in 9 (by decide +kernel) rfl
theorem ini_Tape : Cond.initialized "ShakeHands$Tape" ∈ tbl := tbl_in 2 (by decide +kernel) rfl
theorem ini_Teller : Cond.initialized "ShakeHands$Teller" ∈ tbl := tbl_in 3 (by decide +kernel) rfl
theorem ini_ShakeHands : Cond.initialized "ShakeHands" ∈ tbl := tbl_in 1 (by decide +kernel) rfl
theorem ini_Model : Cond.initialized "ShakeHandsModel" ∈ tbl := tbl_in 10 (by decide +kernel) rfl
theorem ini_Law : Cond.initialized "ShakeHandsLaw" ∈ tbl := tbl_in 0 (by decide +kernel) rfl
theorem ini_Integer : Cond.initialized "java/lang/Integer" ∈ tbl := tbl_in 16 (by decide +kernel) rfl
theorem ini_String : Cond.initialized "java/lang/String" ∈ tbl := tbl_in 11 (by decide +kernel) rfl
theorem ini_StringLatin1 : Cond.initialized "java/lang/StringLatin1" ∈ tbl := tbl_in 12 (by decide +kernel) rfl
theorem ini_StringUTF16 : Cond.initialized "java/lang/StringUTF16" ∈ tbl := tbl_in 14 (by decide +kernel) rfl
theorem ini_Math : Cond.initialized "java/lang/Math" ∈ tbl := tbl_in 15 (by decide +kernel) rfl
theorem ini_Precond : Cond.initialized "jdk/internal/util/Preconditions" ∈ tbl := tbl_in 13 (by decide +kernel) rfl
theorem ini_System : Cond.initialized "java/lang/System" ∈ tbl := tbl_in 17 (by decide +kernel) rfl
abbrev b_ShakeHands_init : ByteArray := prog_1_method_1_code
def y_ShakeHands_init : MethodName := ⟨"ShakeHands", "<init>", "()V"⟩
theorem cd_ShakeHands_init : Cond.code y_ShakeHands_init b_ShakeHands_init 2 (none) ∈ tbl := tbl_in 22 (by decide +kernel) rfl
theorem im_ShakeHands_init : Cond.instanceMethod y_ShakeHands_init ∈ tbl := tbl_in 21 (by decide +kernel) rfl
abbrev b_Object_init : ByteArray := object_method_1_code
def y_Object_init : MethodName := ⟨"java/lang/Object", "<init>", "()V"⟩
theorem cd_Object_init : Cond.code y_Object_init b_Object_init 1 (none) ∈ tbl := tbl_in 25 (by decide +kernel) rfl
theorem im_Object_init : Cond.instanceMethod y_Object_init ∈ tbl := tbl_in 24 (by decide +kernel) rfl
abbrev b_Tape_init : ByteArray := prog_8_method_1_code
def y_Tape_init : MethodName := ⟨"ShakeHands$Tape", "<init>", "()V"⟩
theorem cd_Tape_init : Cond.code y_Tape_init b_Tape_init 1 (none) ∈ tbl := tbl_in 30 (by decide +kernel) rfl
theorem im_Tape_init : Cond.instanceMethod y_Tape_init ∈ tbl := tbl_in 29 (by decide +kernel) rfl
abbrev b_Teller_init : ByteArray := prog_9_method_1_code
def y_Teller_init : MethodName := ⟨"ShakeHands$Teller", "<init>", "(LShakeHands$Tape;)V"⟩
theorem cd_Teller_init : Cond.code y_Teller_init b_Teller_init 2 (none) ∈ tbl := tbl_in 47 (by decide +kernel) rfl
theorem im_Teller_init : Cond.instanceMethod y_Teller_init ∈ tbl := tbl_in 46 (by decide +kernel) rfl
abbrev b_Circle_init : ByteArray := prog_2_method_1_code
def y_Circle_init : MethodName := ⟨"ShakeHands$Circle", "<init>", "()V"⟩
theorem cd_Circle_init : Cond.code y_Circle_init b_Circle_init 1 (none) ∈ tbl := tbl_in 53 (by decide +kernel) rfl
theorem im_Circle_init : Cond.instanceMethod y_Circle_init ∈ tbl := tbl_in 52 (by decide +kernel) rfl
abbrev b_Row_init : ByteArray := prog_5_method_1_code
def y_Row_init : MethodName := ⟨"ShakeHands$Row", "<init>", "()V"⟩
theorem cd_Row_init : Cond.code y_Row_init b_Row_init 1 (none) ∈ tbl := tbl_in 59 (by decide +kernel) rfl
theorem im_Row_init : Cond.instanceMethod y_Row_init ∈ tbl := tbl_in 58 (by decide +kernel) rfl
abbrev b_Minds_init : ByteArray := prog_4_method_1_code
def y_Minds_init : MethodName := ⟨"ShakeHands$Minds", "<init>", "()V"⟩
theorem cd_Minds_init : Cond.code y_Minds_init b_Minds_init 1 (none) ∈ tbl := tbl_in 175 (by decide +kernel) rfl
theorem im_Minds_init : Cond.instanceMethod y_Minds_init ∈ tbl := tbl_in 174 (by decide +kernel) rfl
abbrev b_Search_init : ByteArray := prog_6_method_1_code
def y_Search_init : MethodName := ⟨"ShakeHands$Search", "<init>", "(LShakeHands$Circle;LShakeHands$Minds;)V"⟩
theorem cd_Search_init : Cond.code y_Search_init b_Search_init 3 (none) ∈ tbl := tbl_in 205 (by decide +kernel) rfl
theorem im_Search_init : Cond.instanceMethod y_Search_init ∈ tbl := tbl_in 204 (by decide +kernel) rfl
abbrev b_Habit_init : ByteArray := prog_3_method_1_code
def y_Habit_init : MethodName := ⟨"ShakeHands$Habit", "<init>", "(LShakeHands$Circle;LShakeHands$Minds;)V"⟩
theorem cd_Habit_init : Cond.code y_Habit_init b_Habit_init 3 (none) ∈ tbl := tbl_in 258 (by decide +kernel) rfl
theorem im_Habit_init : Cond.instanceMethod y_Habit_init ∈ tbl := tbl_in 257 (by decide +kernel) rfl
abbrev b_Sheet_init : ByteArray := prog_7_method_1_code
def y_Sheet_init : MethodName := ⟨"ShakeHands$Sheet", "<init>", "()V"⟩
theorem cd_Sheet_init : Cond.code y_Sheet_init b_Sheet_init 1 (none) ∈ tbl := tbl_in 278 (by decide +kernel) rfl
theorem im_Sheet_init : Cond.instanceMethod y_Sheet_init ∈ tbl := tbl_in 277 (by decide +kernel) rfl
abbrev b_ShakeHands_feed : ByteArray := prog_1_method_2_code
def y_ShakeHands_feed : MethodName := ⟨"ShakeHands", "feed", "(J)I"⟩
theorem cd_ShakeHands_feed : Cond.code y_ShakeHands_feed b_ShakeHands_feed 3 (some .int) ∈ tbl := tbl_in 332 (by decide +kernel) rfl
theorem im_ShakeHands_feed : Cond.instanceMethod y_ShakeHands_feed ∈ tbl := tbl_in 330 (by decide +kernel) rfl
theorem se_ShakeHands_feed : Cond.selects "ShakeHands" y_ShakeHands_feed y_ShakeHands_feed ∈ tbl := tbl_in 331 (by decide +kernel) rfl
abbrev b_Tape_append : ByteArray := prog_8_method_2_code
def y_Tape_append : MethodName := ⟨"ShakeHands$Tape", "append", "(J)Z"⟩
theorem cd_Tape_append : Cond.code y_Tape_append b_Tape_append 4 (some .boolean) ∈ tbl := tbl_in 336 (by decide +kernel) rfl
theorem im_Tape_append : Cond.instanceMethod y_Tape_append ∈ tbl := tbl_in 334 (by decide +kernel) rfl
theorem se_Tape_append : Cond.selects "ShakeHands$Tape" y_Tape_append y_Tape_append ∈ tbl := tbl_in 335 (by decide +kernel) rfl
abbrev b_ShakeHands_end : ByteArray := prog_1_method_3_code
def y_ShakeHands_end : MethodName := ⟨"ShakeHands", "end", "(I)I"⟩
theorem cd_ShakeHands_end : Cond.code y_ShakeHands_end b_ShakeHands_end 3 (some .int) ∈ tbl := tbl_in 340 (by decide +kernel) rfl
theorem im_ShakeHands_end : Cond.instanceMethod y_ShakeHands_end ∈ tbl := tbl_in 338 (by decide +kernel) rfl
theorem se_ShakeHands_end : Cond.selects "ShakeHands" y_ShakeHands_end y_ShakeHands_end ∈ tbl := tbl_in 339 (by decide +kernel) rfl
abbrev b_ShakeHands_text : ByteArray := prog_1_method_4_code
def y_ShakeHands_text : MethodName := ⟨"ShakeHands", "text", "()I"⟩
theorem cd_ShakeHands_text : Cond.code y_ShakeHands_text b_ShakeHands_text 2 (some .int) ∈ tbl := tbl_in 344 (by decide +kernel) rfl
theorem im_ShakeHands_text : Cond.instanceMethod y_ShakeHands_text ∈ tbl := tbl_in 342 (by decide +kernel) rfl
theorem se_ShakeHands_text : Cond.selects "ShakeHands" y_ShakeHands_text y_ShakeHands_text ∈ tbl := tbl_in 343 (by decide +kernel) rfl
abbrev b_Teller_tell : ByteArray := prog_9_method_2_code
def y_Teller_tell : MethodName := ⟨"ShakeHands$Teller", "tell", "()I"⟩
theorem cd_Teller_tell : Cond.code y_Teller_tell b_Teller_tell 2 (some .int) ∈ tbl := tbl_in 348 (by decide +kernel) rfl
theorem im_Teller_tell : Cond.instanceMethod y_Teller_tell ∈ tbl := tbl_in 346 (by decide +kernel) rfl
theorem se_Teller_tell : Cond.selects "ShakeHands$Teller" y_Teller_tell y_Teller_tell ∈ tbl := tbl_in 347 (by decide +kernel) rfl
abbrev b_Teller_begin : ByteArray := prog_9_method_3_code
def y_Teller_begin : MethodName := ⟨"ShakeHands$Teller", "begin", "()V"⟩
theorem cd_Teller_begin : Cond.code y_Teller_begin b_Teller_begin 2 (none) ∈ tbl := tbl_in 352 (by decide +kernel) rfl
theorem im_Teller_begin : Cond.instanceMethod y_Teller_begin ∈ tbl := tbl_in 351 (by decide +kernel) rfl
theorem se_Teller_begin : Cond.selects "ShakeHands$Teller" y_Teller_begin y_Teller_begin ∈ tbl := tbl_sel 0 (by decide +kernel) rfl
abbrev b_Circle_beAsAtFirst : ByteArray := prog_2_method_2_code
def y_Circle_beAsAtFirst : MethodName := ⟨"ShakeHands$Circle", "beAsAtFirst", "()V"⟩
theorem cd_Circle_beAsAtFirst : Cond.code y_Circle_beAsAtFirst b_Circle_beAsAtFirst 1 (none) ∈ tbl := tbl_in 356 (by decide +kernel) rfl
theorem im_Circle_beAsAtFirst : Cond.instanceMethod y_Circle_beAsAtFirst ∈ tbl := tbl_in 354 (by decide +kernel) rfl
theorem se_Circle_beAsAtFirst : Cond.selects "ShakeHands$Circle" y_Circle_beAsAtFirst y_Circle_beAsAtFirst ∈ tbl := tbl_in 355 (by decide +kernel) rfl
abbrev b_Teller_readToken : ByteArray := prog_9_method_6_code
def y_Teller_readToken : MethodName := ⟨"ShakeHands$Teller", "readToken", "()V"⟩
theorem cd_Teller_readToken : Cond.code y_Teller_readToken b_Teller_readToken 1 (none) ∈ tbl := tbl_in 360 (by decide +kernel) rfl
theorem im_Teller_readToken : Cond.instanceMethod y_Teller_readToken ∈ tbl := tbl_in 359 (by decide +kernel) rfl
theorem se_Teller_readToken : Cond.selects "ShakeHands$Teller" y_Teller_readToken y_Teller_readToken ∈ tbl := tbl_sel 1 (by decide +kernel) rfl
abbrev b_Teller_isWithin : ByteArray := prog_9_method_7_code
def y_Teller_isWithin : MethodName := ⟨"ShakeHands$Teller", "isWithin", "(CC)Z"⟩
theorem cd_Teller_isWithin : Cond.code y_Teller_isWithin b_Teller_isWithin 3 (some .boolean) ∈ tbl := tbl_in 364 (by decide +kernel) rfl
theorem im_Teller_isWithin : Cond.instanceMethod y_Teller_isWithin ∈ tbl := tbl_in 363 (by decide +kernel) rfl
theorem se_Teller_isWithin : Cond.selects "ShakeHands$Teller" y_Teller_isWithin y_Teller_isWithin ∈ tbl := tbl_sel 2 (by decide +kernel) rfl
abbrev b_Teller_refuse : ByteArray := prog_9_method_5_code
def y_Teller_refuse : MethodName := ⟨"ShakeHands$Teller", "refuse", "(I)V"⟩
theorem cd_Teller_refuse : Cond.code y_Teller_refuse b_Teller_refuse 2 (none) ∈ tbl := tbl_in 368 (by decide +kernel) rfl
theorem im_Teller_refuse : Cond.instanceMethod y_Teller_refuse ∈ tbl := tbl_in 367 (by decide +kernel) rfl
theorem se_Teller_refuse : Cond.selects "ShakeHands$Teller" y_Teller_refuse y_Teller_refuse ∈ tbl := tbl_sel 3 (by decide +kernel) rfl
abbrev b_Teller_tellLine : ByteArray := prog_9_method_9_code
def y_Teller_tellLine : MethodName := ⟨"ShakeHands$Teller", "tellLine", "()V"⟩
theorem cd_Teller_tellLine : Cond.code y_Teller_tellLine b_Teller_tellLine 1 (none) ∈ tbl := tbl_in 372 (by decide +kernel) rfl
theorem im_Teller_tellLine : Cond.instanceMethod y_Teller_tellLine ∈ tbl := tbl_in 371 (by decide +kernel) rfl
theorem se_Teller_tellLine : Cond.selects "ShakeHands$Teller" y_Teller_tellLine y_Teller_tellLine ∈ tbl := tbl_sel 4 (by decide +kernel) rfl
abbrev b_Teller_isCalled : ByteArray := prog_9_method_8_code
def y_Teller_isCalled : MethodName := ⟨"ShakeHands$Teller", "isCalled", "(Ljava/lang/String;)Z"⟩
theorem cd_Teller_isCalled : Cond.code y_Teller_isCalled b_Teller_isCalled 3 (some .boolean) ∈ tbl := tbl_in 377 (by decide +kernel) rfl
theorem im_Teller_isCalled : Cond.instanceMethod y_Teller_isCalled ∈ tbl := tbl_in 376 (by decide +kernel) rfl
theorem se_Teller_isCalled : Cond.selects "ShakeHands$Teller" y_Teller_isCalled y_Teller_isCalled ∈ tbl := tbl_sel 5 (by decide +kernel) rfl
abbrev b_String_length : ByteArray := prog_14_method_54_code
def y_String_length : MethodName := ⟨"java/lang/String", "length", "()I"⟩
theorem cd_String_length : Cond.code y_String_length b_String_length 1 (some .int) ∈ tbl := tbl_in 381 (by decide +kernel) rfl
theorem im_String_length : Cond.instanceMethod y_String_length ∈ tbl := tbl_in 379 (by decide +kernel) rfl
theorem se_String_length : Cond.selects "java/lang/String" y_String_length y_String_length ∈ tbl := tbl_in 380 (by decide +kernel) rfl
abbrev b_String_coder : ByteArray := prog_14_method_152_code
def y_String_coder : MethodName := ⟨"java/lang/String", "coder", "()B"⟩
theorem cd_String_coder : Cond.code y_String_coder b_String_coder 1 (some .byte) ∈ tbl := tbl_in 385 (by decide +kernel) rfl
theorem im_String_coder : Cond.instanceMethod y_String_coder ∈ tbl := tbl_in 383 (by decide +kernel) rfl
theorem se_String_coder : Cond.selects "java/lang/String" y_String_coder y_String_coder ∈ tbl := tbl_in 384 (by decide +kernel) rfl
abbrev b_String_charAt : ByteArray := prog_14_method_56_code
def y_String_charAt : MethodName := ⟨"java/lang/String", "charAt", "(I)C"⟩
theorem cd_String_charAt : Cond.code y_String_charAt b_String_charAt 2 (some .char) ∈ tbl := tbl_in 391 (by decide +kernel) rfl
theorem im_String_charAt : Cond.instanceMethod y_String_charAt ∈ tbl := tbl_in 389 (by decide +kernel) rfl
theorem se_String_charAt : Cond.selects "java/lang/String" y_String_charAt y_String_charAt ∈ tbl := tbl_in 390 (by decide +kernel) rfl
abbrev b_String_isLatin1 : ByteArray := prog_14_method_154_code
def y_String_isLatin1 : MethodName := ⟨"java/lang/String", "isLatin1", "()Z"⟩
theorem cd_String_isLatin1 : Cond.code y_String_isLatin1 b_String_isLatin1 1 (some .boolean) ∈ tbl := tbl_in 395 (by decide +kernel) rfl
theorem im_String_isLatin1 : Cond.instanceMethod y_String_isLatin1 ∈ tbl := tbl_in 393 (by decide +kernel) rfl
theorem se_String_isLatin1 : Cond.selects "java/lang/String" y_String_isLatin1 y_String_isLatin1 ∈ tbl := tbl_in 394 (by decide +kernel) rfl
abbrev b_StringLatin1_charAt : ByteArray := prog_15_method_2_code
def y_StringLatin1_charAt : MethodName := ⟨"java/lang/StringLatin1", "charAt", "([BI)C"⟩
theorem cd_StringLatin1_charAt : Cond.code y_StringLatin1_charAt b_StringLatin1_charAt 2 (some .char) ∈ tbl := tbl_in 398 (by decide +kernel) rfl
theorem st_StringLatin1_charAt : Cond.static y_StringLatin1_charAt ∈ tbl := tbl_in 397 (by decide +kernel) rfl
abbrev b_String_checkIndex : ByteArray := prog_14_method_155_code
def y_String_checkIndex : MethodName := ⟨"java/lang/String", "checkIndex", "(II)V"⟩
theorem cd_String_checkIndex : Cond.code y_String_checkIndex b_String_checkIndex 2 (none) ∈ tbl := tbl_in 401 (by decide +kernel) rfl
theorem st_String_checkIndex : Cond.static y_String_checkIndex ∈ tbl := tbl_in 400 (by decide +kernel) rfl
abbrev b_Precond_checkIndex : ByteArray := prog_18_method_11_code
def y_Precond_checkIndex : MethodName := ⟨"jdk/internal/util/Preconditions", "checkIndex", "(IILjava/util/function/BiFunction;)I"⟩
theorem cd_Precond_checkIndex : Cond.code y_Precond_checkIndex b_Precond_checkIndex 3 (some .int) ∈ tbl := tbl_in 406 (by decide +kernel) rfl
theorem st_Precond_checkIndex : Cond.static y_Precond_checkIndex ∈ tbl := tbl_in 405 (by decide +kernel) rfl
abbrev b_StringUTF16_charAt : ByteArray := prog_16_method_83_code
def y_StringUTF16_charAt : MethodName := ⟨"java/lang/StringUTF16", "charAt", "([BI)C"⟩
theorem cd_StringUTF16_charAt : Cond.code y_StringUTF16_charAt b_StringUTF16_charAt 2 (some .char) ∈ tbl := tbl_in 409 (by decide +kernel) rfl
theorem st_StringUTF16_charAt : Cond.static y_StringUTF16_charAt ∈ tbl := tbl_in 408 (by decide +kernel) rfl
abbrev b_StringUTF16_checkIndex : ByteArray := prog_16_method_91_code
def y_StringUTF16_checkIndex : MethodName := ⟨"java/lang/StringUTF16", "checkIndex", "(I[B)V"⟩
theorem cd_StringUTF16_checkIndex : Cond.code y_StringUTF16_checkIndex b_StringUTF16_checkIndex 2 (none) ∈ tbl := tbl_in 412 (by decide +kernel) rfl
theorem st_StringUTF16_checkIndex : Cond.static y_StringUTF16_checkIndex ∈ tbl := tbl_in 411 (by decide +kernel) rfl
abbrev b_StringUTF16_length : ByteArray := prog_16_method_6_code
def y_StringUTF16_length : MethodName := ⟨"java/lang/StringUTF16", "length", "([B)I"⟩
theorem cd_StringUTF16_length : Cond.code y_StringUTF16_length b_StringUTF16_length 1 (some .int) ∈ tbl := tbl_in 415 (by decide +kernel) rfl
theorem st_StringUTF16_length : Cond.static y_StringUTF16_length ∈ tbl := tbl_in 414 (by decide +kernel) rfl
abbrev b_StringUTF16_getChar : ByteArray := prog_16_method_5_code
def y_StringUTF16_getChar : MethodName := ⟨"java/lang/StringUTF16", "getChar", "([BI)C"⟩
theorem cd_StringUTF16_getChar : Cond.code y_StringUTF16_getChar b_StringUTF16_getChar 2 (some .char) ∈ tbl := tbl_in 419 (by decide +kernel) rfl
theorem st_StringUTF16_getChar : Cond.static y_StringUTF16_getChar ∈ tbl := tbl_in 418 (by decide +kernel) rfl
abbrev b_Teller_tellPeople : ByteArray := prog_9_method_10_code
def y_Teller_tellPeople : MethodName := ⟨"ShakeHands$Teller", "tellPeople", "()V"⟩
theorem cd_Teller_tellPeople : Cond.code y_Teller_tellPeople b_Teller_tellPeople 1 (none) ∈ tbl := tbl_in 429 (by decide +kernel) rfl
theorem im_Teller_tellPeople : Cond.instanceMethod y_Teller_tellPeople ∈ tbl := tbl_in 428 (by decide +kernel) rfl
theorem se_Teller_tellPeople : Cond.selects "ShakeHands$Teller" y_Teller_tellPeople y_Teller_tellPeople ∈ tbl := tbl_sel 6 (by decide +kernel) rfl
abbrev b_Teller_takeNumber : ByteArray := prog_9_method_17_code
def y_Teller_takeNumber : MethodName := ⟨"ShakeHands$Teller", "takeNumber", "(II)I"⟩
theorem cd_Teller_takeNumber : Cond.code y_Teller_takeNumber b_Teller_takeNumber 3 (some .int) ∈ tbl := tbl_in 433 (by decide +kernel) rfl
theorem im_Teller_takeNumber : Cond.instanceMethod y_Teller_takeNumber ∈ tbl := tbl_in 432 (by decide +kernel) rfl
theorem se_Teller_takeNumber : Cond.selects "ShakeHands$Teller" y_Teller_takeNumber y_Teller_takeNumber ∈ tbl := tbl_sel 7 (by decide +kernel) rfl
abbrev b_Teller_boundedValue : ByteArray := prog_9_method_18_code
def y_Teller_boundedValue : MethodName := ⟨"ShakeHands$Teller", "boundedValue", "(II)I"⟩
theorem cd_Teller_boundedValue : Cond.code y_Teller_boundedValue b_Teller_boundedValue 3 (some .int) ∈ tbl := tbl_in 437 (by decide +kernel) rfl
theorem im_Teller_boundedValue : Cond.instanceMethod y_Teller_boundedValue ∈ tbl := tbl_in 436 (by decide +kernel) rfl
theorem se_Teller_boundedValue : Cond.selects "ShakeHands$Teller" y_Teller_boundedValue y_Teller_boundedValue ∈ tbl := tbl_sel 8 (by decide +kernel) rfl
abbrev b_Teller_takeSign : ByteArray := prog_9_method_19_code
def y_Teller_takeSign : MethodName := ⟨"ShakeHands$Teller", "takeSign", "()V"⟩
theorem cd_Teller_takeSign : Cond.code y_Teller_takeSign b_Teller_takeSign 1 (none) ∈ tbl := tbl_in 441 (by decide +kernel) rfl
theorem im_Teller_takeSign : Cond.instanceMethod y_Teller_takeSign ∈ tbl := tbl_in 440 (by decide +kernel) rfl
theorem se_Teller_takeSign : Cond.selects "ShakeHands$Teller" y_Teller_takeSign y_Teller_takeSign ∈ tbl := tbl_sel 9 (by decide +kernel) rfl
abbrev b_Teller_tellHold : ByteArray := prog_9_method_11_code
def y_Teller_tellHold : MethodName := ⟨"ShakeHands$Teller", "tellHold", "()V"⟩
theorem cd_Teller_tellHold : Cond.code y_Teller_tellHold b_Teller_tellHold 1 (none) ∈ tbl := tbl_in 446 (by decide +kernel) rfl
theorem im_Teller_tellHold : Cond.instanceMethod y_Teller_tellHold ∈ tbl := tbl_in 445 (by decide +kernel) rfl
theorem se_Teller_tellHold : Cond.selects "ShakeHands$Teller" y_Teller_tellHold y_Teller_tellHold ∈ tbl := tbl_sel 10 (by decide +kernel) rfl
abbrev b_Teller_tellRow : ByteArray := prog_9_method_12_code
def y_Teller_tellRow : MethodName := ⟨"ShakeHands$Teller", "tellRow", "()V"⟩
theorem cd_Teller_tellRow : Cond.code y_Teller_tellRow b_Teller_tellRow 3 (none) ∈ tbl := tbl_in 451 (by decide +kernel) rfl
theorem im_Teller_tellRow : Cond.instanceMethod y_Teller_tellRow ∈ tbl := tbl_in 450 (by decide +kernel) rfl
theorem se_Teller_tellRow : Cond.selects "ShakeHands$Teller" y_Teller_tellRow y_Teller_tellRow ∈ tbl := tbl_sel 11 (by decide +kernel) rfl
abbrev b_Math_max : ByteArray := prog_13_method_65_code
def y_Math_max : MethodName := ⟨"java/lang/Math", "max", "(II)I"⟩
theorem cd_Math_max : Cond.code y_Math_max b_Math_max 2 (some .int) ∈ tbl := tbl_in 454 (by decide +kernel) rfl
theorem st_Math_max : Cond.static y_Math_max ∈ tbl := tbl_in 453 (by decide +kernel) rfl
abbrev b_Row_take : ByteArray := prog_5_method_6_code
def y_Row_take : MethodName := ⟨"ShakeHands$Row", "take", "(J)V"⟩
theorem cd_Row_take : Cond.code y_Row_take b_Row_take 3 (none) ∈ tbl := tbl_in 458 (by decide +kernel) rfl
theorem im_Row_take : Cond.instanceMethod y_Row_take ∈ tbl := tbl_in 456 (by decide +kernel) rfl
theorem se_Row_take : Cond.selects "ShakeHands$Row" y_Row_take y_Row_take ∈ tbl := tbl_in 457 (by decide +kernel) rfl
abbrev b_Teller_tellThing : ByteArray := prog_9_method_13_code
def y_Teller_tellThing : MethodName := ⟨"ShakeHands$Teller", "tellThing", "(I)V"⟩
theorem cd_Teller_tellThing : Cond.code y_Teller_tellThing b_Teller_tellThing 2 (none) ∈ tbl := tbl_in 463 (by decide +kernel) rfl
theorem im_Teller_tellThing : Cond.instanceMethod y_Teller_tellThing ∈ tbl := tbl_in 462 (by decide +kernel) rfl
theorem se_Teller_tellThing : Cond.selects "ShakeHands$Teller" y_Teller_tellThing y_Teller_tellThing ∈ tbl := tbl_sel 12 (by decide +kernel) rfl
abbrev b_Integer_bitCount : ByteArray := prog_12_method_49_code
def y_Integer_bitCount : MethodName := ⟨"java/lang/Integer", "bitCount", "(I)I"⟩
theorem cd_Integer_bitCount : Cond.code y_Integer_bitCount b_Integer_bitCount 1 (some .int) ∈ tbl := tbl_in 466 (by decide +kernel) rfl
theorem st_Integer_bitCount : Cond.static y_Integer_bitCount ∈ tbl := tbl_in 465 (by decide +kernel) rfl
abbrev b_Row_add : ByteArray := prog_5_method_8_code
def y_Row_add : MethodName := ⟨"ShakeHands$Row", "add", "(I)V"⟩
theorem cd_Row_add : Cond.code y_Row_add b_Row_add 2 (none) ∈ tbl := tbl_in 473 (by decide +kernel) rfl
theorem im_Row_add : Cond.instanceMethod y_Row_add ∈ tbl := tbl_in 471 (by decide +kernel) rfl
theorem se_Row_add : Cond.selects "ShakeHands$Row" y_Row_add y_Row_add ∈ tbl := tbl_in 472 (by decide +kernel) rfl
abbrev b_Row_atRest : ByteArray := prog_5_method_7_code
def y_Row_atRest : MethodName := ⟨"ShakeHands$Row", "atRest", "()J"⟩
theorem cd_Row_atRest : Cond.code y_Row_atRest b_Row_atRest 1 (some .long) ∈ tbl := tbl_in 478 (by decide +kernel) rfl
theorem im_Row_atRest : Cond.instanceMethod y_Row_atRest ∈ tbl := tbl_in 476 (by decide +kernel) rfl
theorem se_Row_atRest : Cond.selects "ShakeHands$Row" y_Row_atRest y_Row_atRest ∈ tbl := tbl_in 477 (by decide +kernel) rfl
abbrev b_Teller_tellJoin : ByteArray := prog_9_method_14_code
def y_Teller_tellJoin : MethodName := ⟨"ShakeHands$Teller", "tellJoin", "()V"⟩
theorem cd_Teller_tellJoin : Cond.code y_Teller_tellJoin b_Teller_tellJoin 5 (none) ∈ tbl := tbl_in 483 (by decide +kernel) rfl
theorem im_Teller_tellJoin : Cond.instanceMethod y_Teller_tellJoin ∈ tbl := tbl_in 482 (by decide +kernel) rfl
theorem se_Teller_tellJoin : Cond.selects "ShakeHands$Teller" y_Teller_tellJoin y_Teller_tellJoin ∈ tbl := tbl_sel 13 (by decide +kernel) rfl
abbrev b_Teller_tellPair : ByteArray := prog_9_method_15_code
def y_Teller_tellPair : MethodName := ⟨"ShakeHands$Teller", "tellPair", "([II)I"⟩
theorem cd_Teller_tellPair : Cond.code y_Teller_tellPair b_Teller_tellPair 5 (some .int) ∈ tbl := tbl_in 488 (by decide +kernel) rfl
theorem im_Teller_tellPair : Cond.instanceMethod y_Teller_tellPair ∈ tbl := tbl_in 487 (by decide +kernel) rfl
theorem se_Teller_tellPair : Cond.selects "ShakeHands$Teller" y_Teller_tellPair y_Teller_tellPair ∈ tbl := tbl_sel 14 (by decide +kernel) rfl
abbrev b_ShakeHands_pairOf : ByteArray := prog_1_method_50_code
def y_ShakeHands_pairOf : MethodName := ⟨"ShakeHands", "pairOf", "(II)I"⟩
theorem cd_ShakeHands_pairOf : Cond.code y_ShakeHands_pairOf b_ShakeHands_pairOf 3 (some .int) ∈ tbl := tbl_in 491 (by decide +kernel) rfl
theorem st_ShakeHands_pairOf : Cond.static y_ShakeHands_pairOf ∈ tbl := tbl_in 490 (by decide +kernel) rfl
abbrev b_Math_min : ByteArray := prog_13_method_69_code
def y_Math_min : MethodName := ⟨"java/lang/Math", "min", "(II)I"⟩
theorem cd_Math_min : Cond.code y_Math_min b_Math_min 2 (some .int) ∈ tbl := tbl_in 495 (by decide +kernel) rfl
theorem st_Math_min : Cond.static y_Math_min ∈ tbl := tbl_in 494 (by decide +kernel) rfl
abbrev b_Teller_tellGlove : ByteArray := prog_9_method_16_code
def y_Teller_tellGlove : MethodName := ⟨"ShakeHands$Teller", "tellGlove", "()V"⟩
theorem cd_Teller_tellGlove : Cond.code y_Teller_tellGlove b_Teller_tellGlove 2 (none) ∈ tbl := tbl_in 501 (by decide +kernel) rfl
theorem im_Teller_tellGlove : Cond.instanceMethod y_Teller_tellGlove ∈ tbl := tbl_in 500 (by decide +kernel) rfl
theorem se_Teller_tellGlove : Cond.selects "ShakeHands$Teller" y_Teller_tellGlove y_Teller_tellGlove ∈ tbl := tbl_sel 15 (by decide +kernel) rfl
abbrev b_Teller_lookBack : ByteArray := prog_9_method_4_code
def y_Teller_lookBack : MethodName := ⟨"ShakeHands$Teller", "lookBack", "()V"⟩
theorem cd_Teller_lookBack : Cond.code y_Teller_lookBack b_Teller_lookBack 1 (none) ∈ tbl := tbl_in 505 (by decide +kernel) rfl
theorem im_Teller_lookBack : Cond.instanceMethod y_Teller_lookBack ∈ tbl := tbl_in 504 (by decide +kernel) rfl
theorem se_Teller_lookBack : Cond.selects "ShakeHands$Teller" y_Teller_lookBack y_Teller_lookBack ∈ tbl := tbl_sel 16 (by decide +kernel) rfl
abbrev b_Circle_copy : ByteArray := prog_2_method_3_code
def y_Circle_copy : MethodName := ⟨"ShakeHands$Circle", "copy", "(LShakeHands$Circle;)V"⟩
theorem cd_Circle_copy : Cond.code y_Circle_copy b_Circle_copy 2 (none) ∈ tbl := tbl_in 509 (by decide +kernel) rfl
theorem im_Circle_copy : Cond.instanceMethod y_Circle_copy ∈ tbl := tbl_in 507 (by decide +kernel) rfl
theorem se_Circle_copy : Cond.selects "ShakeHands$Circle" y_Circle_copy y_Circle_copy ∈ tbl := tbl_in 508 (by decide +kernel) rfl
abbrev b_ShakeHands_fault : ByteArray := prog_1_method_5_code
def y_ShakeHands_fault : MethodName := ⟨"ShakeHands", "fault", "()I"⟩
theorem cd_ShakeHands_fault : Cond.code y_ShakeHands_fault b_ShakeHands_fault 1 (some .int) ∈ tbl := tbl_in 517 (by decide +kernel) rfl
theorem im_ShakeHands_fault : Cond.instanceMethod y_ShakeHands_fault ∈ tbl := tbl_in 515 (by decide +kernel) rfl
theorem se_ShakeHands_fault : Cond.selects "ShakeHands" y_ShakeHands_fault y_ShakeHands_fault ∈ tbl := tbl_in 516 (by decide +kernel) rfl
abbrev b_ShakeHands_rule : ByteArray := prog_1_method_6_code
def y_ShakeHands_rule : MethodName := ⟨"ShakeHands", "rule", "(I)I"⟩
theorem cd_ShakeHands_rule : Cond.code y_ShakeHands_rule b_ShakeHands_rule 2 (some .int) ∈ tbl := tbl_in 521 (by decide +kernel) rfl
theorem im_ShakeHands_rule : Cond.instanceMethod y_ShakeHands_rule ∈ tbl := tbl_in 519 (by decide +kernel) rfl
theorem se_ShakeHands_rule : Cond.selects "ShakeHands" y_ShakeHands_rule y_ShakeHands_rule ∈ tbl := tbl_in 520 (by decide +kernel) rfl
abbrev b_ShakeHands_hand : ByteArray := prog_1_method_7_code
def y_ShakeHands_hand : MethodName := ⟨"ShakeHands", "hand", "(IZ)I"⟩
theorem cd_ShakeHands_hand : Cond.code y_ShakeHands_hand b_ShakeHands_hand 3 (some .int) ∈ tbl := tbl_in 526 (by decide +kernel) rfl
theorem im_ShakeHands_hand : Cond.instanceMethod y_ShakeHands_hand ∈ tbl := tbl_in 524 (by decide +kernel) rfl
theorem se_ShakeHands_hand : Cond.selects "ShakeHands" y_ShakeHands_hand y_ShakeHands_hand ∈ tbl := tbl_in 525 (by decide +kernel) rfl
abbrev b_ShakeHands_join : ByteArray := prog_1_method_8_code
def y_ShakeHands_join : MethodName := ⟨"ShakeHands", "join", "(II)I"⟩
theorem cd_ShakeHands_join : Cond.code y_ShakeHands_join b_ShakeHands_join 3 (some .int) ∈ tbl := tbl_in 530 (by decide +kernel) rfl
theorem im_ShakeHands_join : Cond.instanceMethod y_ShakeHands_join ∈ tbl := tbl_in 528 (by decide +kernel) rfl
theorem se_ShakeHands_join : Cond.selects "ShakeHands" y_ShakeHands_join y_ShakeHands_join ∈ tbl := tbl_in 529 (by decide +kernel) rfl
abbrev b_ShakeHands_knows : ByteArray := prog_1_method_9_code
def y_ShakeHands_knows : MethodName := ⟨"ShakeHands", "knows", "(I)I"⟩
theorem cd_ShakeHands_knows : Cond.code y_ShakeHands_knows b_ShakeHands_knows 2 (some .int) ∈ tbl := tbl_in 534 (by decide +kernel) rfl
theorem im_ShakeHands_knows : Cond.instanceMethod y_ShakeHands_knows ∈ tbl := tbl_in 532 (by decide +kernel) rfl
theorem se_ShakeHands_knows : Cond.selects "ShakeHands" y_ShakeHands_knows y_ShakeHands_knows ∈ tbl := tbl_in 533 (by decide +kernel) rfl
abbrev b_ShakeHands_isOne : ByteArray := prog_1_method_39_code
def y_ShakeHands_isOne : MethodName := ⟨"ShakeHands", "isOne", "(I)Z"⟩
theorem cd_ShakeHands_isOne : Cond.code y_ShakeHands_isOne b_ShakeHands_isOne 2 (some .boolean) ∈ tbl := tbl_in 538 (by decide +kernel) rfl
theorem im_ShakeHands_isOne : Cond.instanceMethod y_ShakeHands_isOne ∈ tbl := tbl_in 537 (by decide +kernel) rfl
theorem se_ShakeHands_isOne : Cond.selects "ShakeHands" y_ShakeHands_isOne y_ShakeHands_isOne ∈ tbl := tbl_sel 17 (by decide +kernel) rfl
abbrev b_Row_knownOf : ByteArray := prog_5_method_2_code
def y_Row_knownOf : MethodName := ⟨"ShakeHands$Row", "knownOf", "(J)I"⟩
theorem cd_Row_knownOf : Cond.code y_Row_knownOf b_Row_knownOf 2 (some .int) ∈ tbl := tbl_in 541 (by decide +kernel) rfl
theorem st_Row_knownOf : Cond.static y_Row_knownOf ∈ tbl := tbl_in 540 (by decide +kernel) rfl
abbrev b_ShakeHands_row : ByteArray := prog_1_method_10_code
def y_ShakeHands_row : MethodName := ⟨"ShakeHands", "row", "(II)I"⟩
theorem cd_ShakeHands_row : Cond.code y_ShakeHands_row b_ShakeHands_row 5 (some .int) ∈ tbl := tbl_in 545 (by decide +kernel) rfl
theorem im_ShakeHands_row : Cond.instanceMethod y_ShakeHands_row ∈ tbl := tbl_in 543 (by decide +kernel) rfl
theorem se_ShakeHands_row : Cond.selects "ShakeHands" y_ShakeHands_row y_ShakeHands_row ∈ tbl := tbl_in 544 (by decide +kernel) rfl
abbrev b_Row_sizeOf : ByteArray := prog_5_method_3_code
def y_Row_sizeOf : MethodName := ⟨"ShakeHands$Row", "sizeOf", "(J)I"⟩
theorem cd_Row_sizeOf : Cond.code y_Row_sizeOf b_Row_sizeOf 2 (some .int) ∈ tbl := tbl_in 548 (by decide +kernel) rfl
theorem st_Row_sizeOf : Cond.static y_Row_sizeOf ∈ tbl := tbl_in 547 (by decide +kernel) rfl
abbrev b_Row_thingOf : ByteArray := prog_5_method_4_code
def y_Row_thingOf : MethodName := ⟨"ShakeHands$Row", "thingOf", "(JI)I"⟩
theorem cd_Row_thingOf : Cond.code y_Row_thingOf b_Row_thingOf 3 (some .int) ∈ tbl := tbl_in 551 (by decide +kernel) rfl
theorem st_Row_thingOf : Cond.static y_Row_thingOf ∈ tbl := tbl_in 550 (by decide +kernel) rfl
abbrev b_ShakeHands_who : ByteArray := prog_1_method_11_code
def y_ShakeHands_who : MethodName := ⟨"ShakeHands", "who", "(I)I"⟩
theorem cd_ShakeHands_who : Cond.code y_ShakeHands_who b_ShakeHands_who 2 (some .int) ∈ tbl := tbl_in 555 (by decide +kernel) rfl
theorem im_ShakeHands_who : Cond.instanceMethod y_ShakeHands_who ∈ tbl := tbl_in 553 (by decide +kernel) rfl
theorem se_ShakeHands_who : Cond.selects "ShakeHands" y_ShakeHands_who y_ShakeHands_who ∈ tbl := tbl_in 554 (by decide +kernel) rfl
abbrev b_ShakeHands_isThing : ByteArray := prog_1_method_43_code
def y_ShakeHands_isThing : MethodName := ⟨"ShakeHands", "isThing", "(I)Z"⟩
theorem cd_ShakeHands_isThing : Cond.code y_ShakeHands_isThing b_ShakeHands_isThing 1 (some .boolean) ∈ tbl := tbl_in 558 (by decide +kernel) rfl
theorem st_ShakeHands_isThing : Cond.static y_ShakeHands_isThing ∈ tbl := tbl_in 557 (by decide +kernel) rfl
abbrev b_Minds_knowers : ByteArray := prog_4_method_3_code
def y_Minds_knowers : MethodName := ⟨"ShakeHands$Minds", "knowers", "([JI)I"⟩
theorem cd_Minds_knowers : Cond.code y_Minds_knowers b_Minds_knowers 4 (some .int) ∈ tbl := tbl_in 561 (by decide +kernel) rfl
theorem st_Minds_knowers : Cond.static y_Minds_knowers ∈ tbl := tbl_in 560 (by decide +kernel) rfl
abbrev b_ShakeHands_learn : ByteArray := prog_1_method_12_code
def y_ShakeHands_learn : MethodName := ⟨"ShakeHands", "learn", "(II)I"⟩
theorem cd_ShakeHands_learn : Cond.code y_ShakeHands_learn b_ShakeHands_learn 3 (some .int) ∈ tbl := tbl_in 565 (by decide +kernel) rfl
theorem im_ShakeHands_learn : Cond.instanceMethod y_ShakeHands_learn ∈ tbl := tbl_in 563 (by decide +kernel) rfl
theorem se_ShakeHands_learn : Cond.selects "ShakeHands" y_ShakeHands_learn y_ShakeHands_learn ∈ tbl := tbl_in 564 (by decide +kernel) rfl
abbrev b_ShakeHands_knowsNow : ByteArray := prog_1_method_48_code
def y_ShakeHands_knowsNow : MethodName := ⟨"ShakeHands", "knowsNow", "(II)Z"⟩
theorem cd_ShakeHands_knowsNow : Cond.code y_ShakeHands_knowsNow b_ShakeHands_knowsNow 3 (some .boolean) ∈ tbl := tbl_in 569 (by decide +kernel) rfl
theorem im_ShakeHands_knowsNow : Cond.instanceMethod y_ShakeHands_knowsNow ∈ tbl := tbl_in 568 (by decide +kernel) rfl
theorem se_ShakeHands_knowsNow : Cond.selects "ShakeHands" y_ShakeHands_knowsNow y_ShakeHands_knowsNow ∈ tbl := tbl_sel 18 (by decide +kernel) rfl
abbrev b_Row_knowsIt : ByteArray := prog_5_method_5_code
def y_Row_knowsIt : MethodName := ⟨"ShakeHands$Row", "knowsIt", "(JI)Z"⟩
theorem cd_Row_knowsIt : Cond.code y_Row_knowsIt b_Row_knowsIt 3 (some .boolean) ∈ tbl := tbl_in 572 (by decide +kernel) rfl
theorem st_Row_knowsIt : Cond.static y_Row_knowsIt ∈ tbl := tbl_in 571 (by decide +kernel) rfl
abbrev b_Circle_taught : ByteArray := prog_2_method_5_code
def y_Circle_taught : MethodName := ⟨"ShakeHands$Circle", "taught", "(JI)J"⟩
theorem cd_Circle_taught : Cond.code y_Circle_taught b_Circle_taught 4 (some .long) ∈ tbl := tbl_in 576 (by decide +kernel) rfl
theorem im_Circle_taught : Cond.instanceMethod y_Circle_taught ∈ tbl := tbl_in 574 (by decide +kernel) rfl
theorem se_Circle_taught : Cond.selects "ShakeHands$Circle" y_Circle_taught y_Circle_taught ∈ tbl := tbl_in 575 (by decide +kernel) rfl
abbrev b_Circle_settle : ByteArray := prog_2_method_9_code
def y_Circle_settle : MethodName := ⟨"ShakeHands$Circle", "settle", "()V"⟩
theorem cd_Circle_settle : Cond.code y_Circle_settle b_Circle_settle 3 (none) ∈ tbl := tbl_in 582 (by decide +kernel) rfl
theorem im_Circle_settle : Cond.instanceMethod y_Circle_settle ∈ tbl := tbl_in 581 (by decide +kernel) rfl
theorem se_Circle_settle : Cond.selects "ShakeHands$Circle" y_Circle_settle y_Circle_settle ∈ tbl := tbl_sel 19 (by decide +kernel) rfl
abbrev b_Circle_firstJoin : ByteArray := prog_2_method_10_code
def y_Circle_firstJoin : MethodName := ⟨"ShakeHands$Circle", "firstJoin", "()I"⟩
theorem cd_Circle_firstJoin : Cond.code y_Circle_firstJoin b_Circle_firstJoin 2 (some .int) ∈ tbl := tbl_in 586 (by decide +kernel) rfl
theorem im_Circle_firstJoin : Cond.instanceMethod y_Circle_firstJoin ∈ tbl := tbl_in 585 (by decide +kernel) rfl
theorem se_Circle_firstJoin : Cond.selects "ShakeHands$Circle" y_Circle_firstJoin y_Circle_firstJoin ∈ tbl := tbl_sel 20 (by decide +kernel) rfl
abbrev b_Row_drop : ByteArray := prog_5_method_10_code
def y_Row_drop : MethodName := ⟨"ShakeHands$Row", "drop", "(I)V"⟩
theorem cd_Row_drop : Cond.code y_Row_drop b_Row_drop 6 (none) ∈ tbl := tbl_in 590 (by decide +kernel) rfl
theorem im_Row_drop : Cond.instanceMethod y_Row_drop ∈ tbl := tbl_in 588 (by decide +kernel) rfl
theorem se_Row_drop : Cond.selects "ShakeHands$Row" y_Row_drop y_Row_drop ∈ tbl := tbl_in 589 (by decide +kernel) rfl
abbrev b_Row_shorten : ByteArray := prog_5_method_11_code
def y_Row_shorten : MethodName := ⟨"ShakeHands$Row", "shorten", "(I)V"⟩
theorem cd_Row_shorten : Cond.code y_Row_shorten b_Row_shorten 3 (none) ∈ tbl := tbl_in 595 (by decide +kernel) rfl
theorem im_Row_shorten : Cond.instanceMethod y_Row_shorten ∈ tbl := tbl_in 593 (by decide +kernel) rfl
theorem se_Row_shorten : Cond.selects "ShakeHands$Row" y_Row_shorten y_Row_shorten ∈ tbl := tbl_in 594 (by decide +kernel) rfl
abbrev b_ShakeHands_forget : ByteArray := prog_1_method_13_code
def y_ShakeHands_forget : MethodName := ⟨"ShakeHands", "forget", "(II)I"⟩
theorem cd_ShakeHands_forget : Cond.code y_ShakeHands_forget b_ShakeHands_forget 3 (some .int) ∈ tbl := tbl_in 600 (by decide +kernel) rfl
theorem im_ShakeHands_forget : Cond.instanceMethod y_ShakeHands_forget ∈ tbl := tbl_in 598 (by decide +kernel) rfl
theorem se_ShakeHands_forget : Cond.selects "ShakeHands" y_ShakeHands_forget y_ShakeHands_forget ∈ tbl := tbl_in 599 (by decide +kernel) rfl
abbrev b_Circle_without : ByteArray := prog_2_method_6_code
def y_Circle_without : MethodName := ⟨"ShakeHands$Circle", "without", "(JI)J"⟩
theorem cd_Circle_without : Cond.code y_Circle_without b_Circle_without 4 (some .long) ∈ tbl := tbl_in 604 (by decide +kernel) rfl
theorem im_Circle_without : Cond.instanceMethod y_Circle_without ∈ tbl := tbl_in 602 (by decide +kernel) rfl
theorem se_Circle_without : Cond.selects "ShakeHands$Circle" y_Circle_without y_Circle_without ∈ tbl := tbl_in 603 (by decide +kernel) rfl
abbrev b_ShakeHands_glove : ByteArray := prog_1_method_14_code
def y_ShakeHands_glove : MethodName := ⟨"ShakeHands", "glove", "(IZ)I"⟩
theorem cd_ShakeHands_glove : Cond.code y_ShakeHands_glove b_ShakeHands_glove 4 (some .int) ∈ tbl := tbl_in 608 (by decide +kernel) rfl
theorem im_ShakeHands_glove : Cond.instanceMethod y_ShakeHands_glove ∈ tbl := tbl_in 606 (by decide +kernel) rfl
theorem se_ShakeHands_glove : Cond.selects "ShakeHands" y_ShakeHands_glove y_ShakeHands_glove ∈ tbl := tbl_in 607 (by decide +kernel) rfl
abbrev b_ShakeHands_shake : ByteArray := prog_1_method_15_code
def y_ShakeHands_shake : MethodName := ⟨"ShakeHands", "shake", "(II)I"⟩
theorem cd_ShakeHands_shake : Cond.code y_ShakeHands_shake b_ShakeHands_shake 3 (some .int) ∈ tbl := tbl_in 612 (by decide +kernel) rfl
theorem im_ShakeHands_shake : Cond.instanceMethod y_ShakeHands_shake ∈ tbl := tbl_in 610 (by decide +kernel) rfl
theorem se_ShakeHands_shake : Cond.selects "ShakeHands" y_ShakeHands_shake y_ShakeHands_shake ∈ tbl := tbl_in 611 (by decide +kernel) rfl
abbrev b_ShakeHands_areTwo : ByteArray := prog_1_method_40_code
def y_ShakeHands_areTwo : MethodName := ⟨"ShakeHands", "areTwo", "(II)Z"⟩
theorem cd_ShakeHands_areTwo : Cond.code y_ShakeHands_areTwo b_ShakeHands_areTwo 3 (some .boolean) ∈ tbl := tbl_in 616 (by decide +kernel) rfl
theorem im_ShakeHands_areTwo : Cond.instanceMethod y_ShakeHands_areTwo ∈ tbl := tbl_in 615 (by decide +kernel) rfl
theorem se_ShakeHands_areTwo : Cond.selects "ShakeHands" y_ShakeHands_areTwo y_ShakeHands_areTwo ∈ tbl := tbl_sel 21 (by decide +kernel) rfl
abbrev b_Circle_meet : ByteArray := prog_2_method_4_code
def y_Circle_meet : MethodName := ⟨"ShakeHands$Circle", "meet", "([JII)Z"⟩
theorem cd_Circle_meet : Cond.code y_Circle_meet b_Circle_meet 9 (some .boolean) ∈ tbl := tbl_in 621 (by decide +kernel) rfl
theorem im_Circle_meet : Cond.instanceMethod y_Circle_meet ∈ tbl := tbl_in 619 (by decide +kernel) rfl
theorem se_Circle_meet : Cond.selects "ShakeHands$Circle" y_Circle_meet y_Circle_meet ∈ tbl := tbl_in 620 (by decide +kernel) rfl
abbrev b_Row_addAll : ByteArray := prog_5_method_9_code
def y_Row_addAll : MethodName := ⟨"ShakeHands$Row", "addAll", "(J)V"⟩
theorem cd_Row_addAll : Cond.code y_Row_addAll b_Row_addAll 5 (none) ∈ tbl := tbl_in 629 (by decide +kernel) rfl
theorem im_Row_addAll : Cond.instanceMethod y_Row_addAll ∈ tbl := tbl_in 627 (by decide +kernel) rfl
theorem se_Row_addAll : Cond.selects "ShakeHands$Row" y_Row_addAll y_Row_addAll ∈ tbl := tbl_in 628 (by decide +kernel) rfl
abbrev b_ShakeHands_feast : ByteArray := prog_1_method_16_code
def y_ShakeHands_feast : MethodName := ⟨"ShakeHands", "feast", "(I)I"⟩
theorem cd_ShakeHands_feast : Cond.code y_ShakeHands_feast b_ShakeHands_feast 3 (some .int) ∈ tbl := tbl_in 634 (by decide +kernel) rfl
theorem im_ShakeHands_feast : Cond.instanceMethod y_ShakeHands_feast ∈ tbl := tbl_in 632 (by decide +kernel) rfl
theorem se_ShakeHands_feast : Cond.selects "ShakeHands" y_ShakeHands_feast y_ShakeHands_feast ∈ tbl := tbl_in 633 (by decide +kernel) rfl
abbrev b_ShakeHands_isFeastPart : ByteArray := prog_1_method_44_code
def y_ShakeHands_isFeastPart : MethodName := ⟨"ShakeHands", "isFeastPart", "(I)Z"⟩
theorem cd_ShakeHands_isFeastPart : Cond.code y_ShakeHands_isFeastPart b_ShakeHands_isFeastPart 2 (some .boolean) ∈ tbl := tbl_in 638 (by decide +kernel) rfl
theorem im_ShakeHands_isFeastPart : Cond.instanceMethod y_ShakeHands_isFeastPart ∈ tbl := tbl_in 637 (by decide +kernel) rfl
theorem se_ShakeHands_isFeastPart : Cond.selects "ShakeHands" y_ShakeHands_isFeastPart y_ShakeHands_isFeastPart ∈ tbl := tbl_sel 22 (by decide +kernel) rfl
abbrev b_Minds_known : ByteArray := prog_4_method_4_code
def y_Minds_known : MethodName := ⟨"ShakeHands$Minds", "known", "([J)I"⟩
theorem cd_Minds_known : Cond.code y_Minds_known b_Minds_known 4 (some .int) ∈ tbl := tbl_in 641 (by decide +kernel) rfl
theorem st_Minds_known : Cond.static y_Minds_known ∈ tbl := tbl_in 640 (by decide +kernel) rfl
abbrev b_Circle_celebrate : ByteArray := prog_2_method_7_code
def y_Circle_celebrate : MethodName := ⟨"ShakeHands$Circle", "celebrate", "([JII)V"⟩
theorem cd_Circle_celebrate : Cond.code y_Circle_celebrate b_Circle_celebrate 5 (none) ∈ tbl := tbl_in 645 (by decide +kernel) rfl
theorem im_Circle_celebrate : Cond.instanceMethod y_Circle_celebrate ∈ tbl := tbl_in 643 (by decide +kernel) rfl
theorem se_Circle_celebrate : Cond.selects "ShakeHands$Circle" y_Circle_celebrate y_Circle_celebrate ∈ tbl := tbl_in 644 (by decide +kernel) rfl
abbrev b_ShakeHands_after : ByteArray := prog_1_method_17_code
def y_ShakeHands_after : MethodName := ⟨"ShakeHands", "after", "(II)I"⟩
theorem cd_ShakeHands_after : Cond.code y_ShakeHands_after b_ShakeHands_after 3 (some .int) ∈ tbl := tbl_in 650 (by decide +kernel) rfl
theorem im_ShakeHands_after : Cond.instanceMethod y_ShakeHands_after ∈ tbl := tbl_in 648 (by decide +kernel) rfl
theorem se_ShakeHands_after : Cond.selects "ShakeHands" y_ShakeHands_after y_ShakeHands_after ∈ tbl := tbl_in 649 (by decide +kernel) rfl
abbrev b_ShakeHands_takeTrial : ByteArray := prog_1_method_49_code
def y_ShakeHands_takeTrial : MethodName := ⟨"ShakeHands", "takeTrial", "()V"⟩
theorem cd_ShakeHands_takeTrial : Cond.code y_ShakeHands_takeTrial b_ShakeHands_takeTrial 1 (none) ∈ tbl := tbl_in 654 (by decide +kernel) rfl
theorem im_ShakeHands_takeTrial : Cond.instanceMethod y_ShakeHands_takeTrial ∈ tbl := tbl_in 653 (by decide +kernel) rfl
theorem se_ShakeHands_takeTrial : Cond.selects "ShakeHands" y_ShakeHands_takeTrial y_ShakeHands_takeTrial ∈ tbl := tbl_sel 23 (by decide +kernel) rfl
abbrev b_ShakeHands_lost : ByteArray := prog_1_method_18_code
def y_ShakeHands_lost : MethodName := ⟨"ShakeHands", "lost", "(I)I"⟩
theorem cd_ShakeHands_lost : Cond.code y_ShakeHands_lost b_ShakeHands_lost 3 (some .int) ∈ tbl := tbl_in 658 (by decide +kernel) rfl
theorem im_ShakeHands_lost : Cond.instanceMethod y_ShakeHands_lost ∈ tbl := tbl_in 656 (by decide +kernel) rfl
theorem se_ShakeHands_lost : Cond.selects "ShakeHands" y_ShakeHands_lost y_ShakeHands_lost ∈ tbl := tbl_in 657 (by decide +kernel) rfl
abbrev b_ShakeHands_told : ByteArray := prog_1_method_19_code
def y_ShakeHands_told : MethodName := ⟨"ShakeHands", "told", "(II)I"⟩
theorem cd_ShakeHands_told : Cond.code y_ShakeHands_told b_ShakeHands_told 4 (some .int) ∈ tbl := tbl_in 662 (by decide +kernel) rfl
theorem im_ShakeHands_told : Cond.instanceMethod y_ShakeHands_told ∈ tbl := tbl_in 660 (by decide +kernel) rfl
theorem se_ShakeHands_told : Cond.selects "ShakeHands" y_ShakeHands_told y_ShakeHands_told ∈ tbl := tbl_in 661 (by decide +kernel) rfl
abbrev b_ShakeHands_fewest : ByteArray := prog_1_method_20_code
def y_ShakeHands_fewest : MethodName := ⟨"ShakeHands", "fewest", "(IIII)I"⟩
theorem cd_ShakeHands_fewest : Cond.code y_ShakeHands_fewest b_ShakeHands_fewest 7 (some .int) ∈ tbl := tbl_in 666 (by decide +kernel) rfl
theorem im_ShakeHands_fewest : Cond.instanceMethod y_ShakeHands_fewest ∈ tbl := tbl_in 664 (by decide +kernel) rfl
theorem se_ShakeHands_fewest : Cond.selects "ShakeHands" y_ShakeHands_fewest y_ShakeHands_fewest ∈ tbl := tbl_in 665 (by decide +kernel) rfl
abbrev b_ShakeHands_arePeople : ByteArray := prog_1_method_41_code
def y_ShakeHands_arePeople : MethodName := ⟨"ShakeHands", "arePeople", "(I)Z"⟩
theorem cd_ShakeHands_arePeople : Cond.code y_ShakeHands_arePeople b_ShakeHands_arePeople 2 (some .boolean) ∈ tbl := tbl_in 670 (by decide +kernel) rfl
theorem im_ShakeHands_arePeople : Cond.instanceMethod y_ShakeHands_arePeople ∈ tbl := tbl_in 669 (by decide +kernel) rfl
theorem se_ShakeHands_arePeople : Cond.selects "ShakeHands" y_ShakeHands_arePeople y_ShakeHands_arePeople ∈ tbl := tbl_sel 24 (by decide +kernel) rfl
abbrev b_ShakeHands_everybody : ByteArray := prog_1_method_42_code
def y_ShakeHands_everybody : MethodName := ⟨"ShakeHands", "everybody", "()I"⟩
theorem cd_ShakeHands_everybody : Cond.code y_ShakeHands_everybody b_ShakeHands_everybody 1 (some .int) ∈ tbl := tbl_in 674 (by decide +kernel) rfl
theorem im_ShakeHands_everybody : Cond.instanceMethod y_ShakeHands_everybody ∈ tbl := tbl_in 673 (by decide +kernel) rfl
theorem se_ShakeHands_everybody : Cond.selects "ShakeHands" y_ShakeHands_everybody y_ShakeHands_everybody ∈ tbl := tbl_sel 25 (by decide +kernel) rfl
abbrev b_Search_begin : ByteArray := prog_6_method_2_code
def y_Search_begin : MethodName := ⟨"ShakeHands$Search", "begin", "()V"⟩
theorem cd_Search_begin : Cond.code y_Search_begin b_Search_begin 1 (none) ∈ tbl := tbl_in 678 (by decide +kernel) rfl
theorem im_Search_begin : Cond.instanceMethod y_Search_begin ∈ tbl := tbl_in 676 (by decide +kernel) rfl
theorem se_Search_begin : Cond.selects "ShakeHands$Search" y_Search_begin y_Search_begin ∈ tbl := tbl_in 677 (by decide +kernel) rfl
abbrev b_Search_aim : ByteArray := prog_6_method_3_code
def y_Search_aim : MethodName := ⟨"ShakeHands$Search", "aim", "(IIII)V"⟩
theorem cd_Search_aim : Cond.code y_Search_aim b_Search_aim 5 (none) ∈ tbl := tbl_in 683 (by decide +kernel) rfl
theorem im_Search_aim : Cond.instanceMethod y_Search_aim ∈ tbl := tbl_in 681 (by decide +kernel) rfl
theorem se_Search_aim : Cond.selects "ShakeHands$Search" y_Search_aim y_Search_aim ∈ tbl := tbl_in 682 (by decide +kernel) rfl
abbrev b_Search_fewestHands : ByteArray := prog_6_method_4_code
def y_Search_fewestHands : MethodName := ⟨"ShakeHands$Search", "fewestHands", "()I"⟩
theorem cd_Search_fewestHands : Cond.code y_Search_fewestHands b_Search_fewestHands 2 (some .int) ∈ tbl := tbl_in 687 (by decide +kernel) rfl
theorem im_Search_fewestHands : Cond.instanceMethod y_Search_fewestHands ∈ tbl := tbl_in 685 (by decide +kernel) rfl
theorem se_Search_fewestHands : Cond.selects "ShakeHands$Search" y_Search_fewestHands y_Search_fewestHands ∈ tbl := tbl_in 686 (by decide +kernel) rfl
abbrev b_Search_isBarred : ByteArray := prog_6_method_8_code
def y_Search_isBarred : MethodName := ⟨"ShakeHands$Search", "isBarred", "([J)Z"⟩
theorem cd_Search_isBarred : Cond.code y_Search_isBarred b_Search_isBarred 2 (some .boolean) ∈ tbl := tbl_in 691 (by decide +kernel) rfl
theorem im_Search_isBarred : Cond.instanceMethod y_Search_isBarred ∈ tbl := tbl_in 690 (by decide +kernel) rfl
theorem se_Search_isBarred : Cond.selects "ShakeHands$Search" y_Search_isBarred y_Search_isBarred ∈ tbl := tbl_sel 26 (by decide +kernel) rfl
abbrev b_Search_reaches : ByteArray := prog_6_method_14_code
def y_Search_reaches : MethodName := ⟨"ShakeHands$Search", "reaches", "(LShakeHands$Search;II)Z"⟩
theorem cd_Search_reaches : Cond.code y_Search_reaches b_Search_reaches 5 (some .boolean) ∈ tbl := tbl_in 695 (by decide +kernel) rfl
theorem st_Search_reaches : Cond.static y_Search_reaches ∈ tbl := tbl_in 694 (by decide +kernel) rfl
abbrev b_Search_amiss : ByteArray := prog_6_method_9_code
def y_Search_amiss : MethodName := ⟨"ShakeHands$Search", "amiss", "([J)I"⟩
theorem cd_Search_amiss : Cond.code y_Search_amiss b_Search_amiss 2 (some .int) ∈ tbl := tbl_in 699 (by decide +kernel) rfl
theorem im_Search_amiss : Cond.instanceMethod y_Search_amiss ∈ tbl := tbl_in 698 (by decide +kernel) rfl
theorem se_Search_amiss : Cond.selects "ShakeHands$Search" y_Search_amiss y_Search_amiss ∈ tbl := tbl_sel 27 (by decide +kernel) rfl
abbrev b_Search_bitsOf : ByteArray := prog_6_method_11_code
def y_Search_bitsOf : MethodName := ⟨"ShakeHands$Search", "bitsOf", "(I)I"⟩
theorem cd_Search_bitsOf : Cond.code y_Search_bitsOf b_Search_bitsOf 1 (some .int) ∈ tbl := tbl_in 702 (by decide +kernel) rfl
theorem st_Search_bitsOf : Cond.static y_Search_bitsOf ∈ tbl := tbl_in 701 (by decide +kernel) rfl
abbrev b_Search_canMend : ByteArray := prog_6_method_12_code
def y_Search_canMend : MethodName := ⟨"ShakeHands$Search", "canMend", "(III)Z"⟩
theorem cd_Search_canMend : Cond.code y_Search_canMend b_Search_canMend 3 (some .boolean) ∈ tbl := tbl_in 707 (by decide +kernel) rfl
theorem st_Search_canMend : Cond.static y_Search_canMend ∈ tbl := tbl_in 706 (by decide +kernel) rfl
abbrev b_Search_step : ByteArray := prog_6_method_13_code
def y_Search_step : MethodName := ⟨"ShakeHands$Search", "step", "(II)Z"⟩
theorem cd_Search_step : Cond.code y_Search_step b_Search_step 3 (some .boolean) ∈ tbl := tbl_in 712 (by decide +kernel) rfl
theorem im_Search_step : Cond.instanceMethod y_Search_step ∈ tbl := tbl_in 711 (by decide +kernel) rfl
theorem se_Search_step : Cond.selects "ShakeHands$Search" y_Search_step y_Search_step ∈ tbl := tbl_sel 28 (by decide +kernel) rfl
abbrev b_ShakeHands_rounds : ByteArray := prog_1_method_21_code
def y_ShakeHands_rounds : MethodName := ⟨"ShakeHands", "rounds", "(III)I"⟩
theorem cd_ShakeHands_rounds : Cond.code y_ShakeHands_rounds b_ShakeHands_rounds 4 (some .int) ∈ tbl := tbl_in 717 (by decide +kernel) rfl
theorem im_ShakeHands_rounds : Cond.instanceMethod y_ShakeHands_rounds ∈ tbl := tbl_in 715 (by decide +kernel) rfl
theorem se_ShakeHands_rounds : Cond.selects "ShakeHands" y_ShakeHands_rounds y_ShakeHands_rounds ∈ tbl := tbl_in 716 (by decide +kernel) rfl
abbrev b_Search_fewestRounds : ByteArray := prog_6_method_5_code
def y_Search_fewestRounds : MethodName := ⟨"ShakeHands$Search", "fewestRounds", "()I"⟩
theorem cd_Search_fewestRounds : Cond.code y_Search_fewestRounds b_Search_fewestRounds 2 (some .int) ∈ tbl := tbl_in 721 (by decide +kernel) rfl
theorem im_Search_fewestRounds : Cond.instanceMethod y_Search_fewestRounds ∈ tbl := tbl_in 719 (by decide +kernel) rfl
theorem se_Search_fewestRounds : Cond.selects "ShakeHands$Search" y_Search_fewestRounds y_Search_fewestRounds ∈ tbl := tbl_in 720 (by decide +kernel) rfl
abbrev b_Search_turns : ByteArray := prog_6_method_15_code
def y_Search_turns : MethodName := ⟨"ShakeHands$Search", "turns", "(LShakeHands$Search;IIII)Z"⟩
theorem cd_Search_turns : Cond.code y_Search_turns b_Search_turns 7 (some .boolean) ∈ tbl := tbl_in 724 (by decide +kernel) rfl
theorem st_Search_turns : Cond.static y_Search_turns ∈ tbl := tbl_in 723 (by decide +kernel) rfl
abbrev b_ShakeHands_lose : ByteArray := prog_1_method_22_code
def y_ShakeHands_lose : MethodName := ⟨"ShakeHands", "lose", "(I)I"⟩
theorem cd_ShakeHands_lose : Cond.code y_ShakeHands_lose b_ShakeHands_lose 2 (some .int) ∈ tbl := tbl_in 728 (by decide +kernel) rfl
theorem im_ShakeHands_lose : Cond.instanceMethod y_ShakeHands_lose ∈ tbl := tbl_in 726 (by decide +kernel) rfl
theorem se_ShakeHands_lose : Cond.selects "ShakeHands" y_ShakeHands_lose y_ShakeHands_lose ∈ tbl := tbl_in 727 (by decide +kernel) rfl
abbrev b_ShakeHands_lives : ByteArray := prog_1_method_23_code
def y_ShakeHands_lives : MethodName := ⟨"ShakeHands", "lives", "(I)I"⟩
theorem cd_ShakeHands_lives : Cond.code y_ShakeHands_lives b_ShakeHands_lives 2 (some .int) ∈ tbl := tbl_in 732 (by decide +kernel) rfl
theorem im_ShakeHands_lives : Cond.instanceMethod y_ShakeHands_lives ∈ tbl := tbl_in 730 (by decide +kernel) rfl
theorem se_ShakeHands_lives : Cond.selects "ShakeHands" y_ShakeHands_lives y_ShakeHands_lives ∈ tbl := tbl_in 731 (by decide +kernel) rfl
abbrev b_Habit_lastDay : ByteArray := prog_3_method_2_code
def y_Habit_lastDay : MethodName := ⟨"ShakeHands$Habit", "lastDay", "(I)I"⟩
theorem cd_Habit_lastDay : Cond.code y_Habit_lastDay b_Habit_lastDay 3 (some .int) ∈ tbl := tbl_in 736 (by decide +kernel) rfl
theorem im_Habit_lastDay : Cond.instanceMethod y_Habit_lastDay ∈ tbl := tbl_in 734 (by decide +kernel) rfl
theorem se_Habit_lastDay : Cond.selects "ShakeHands$Habit" y_Habit_lastDay y_Habit_lastDay ∈ tbl := tbl_in 735 (by decide +kernel) rfl
abbrev b_Circle_liveDay : ByteArray := prog_2_method_8_code
def y_Circle_liveDay : MethodName := ⟨"ShakeHands$Circle", "liveDay", "([JI)V"⟩
theorem cd_Circle_liveDay : Cond.code y_Circle_liveDay b_Circle_liveDay 4 (none) ∈ tbl := tbl_in 742 (by decide +kernel) rfl
theorem im_Circle_liveDay : Cond.instanceMethod y_Circle_liveDay ∈ tbl := tbl_in 740 (by decide +kernel) rfl
theorem se_Circle_liveDay : Cond.selects "ShakeHands$Circle" y_Circle_liveDay y_Circle_liveDay ∈ tbl := tbl_in 741 (by decide +kernel) rfl
abbrev b_ShakeHands_comes : ByteArray := prog_1_method_24_code
def y_ShakeHands_comes : MethodName := ⟨"ShakeHands", "comes", "(I)I"⟩
theorem cd_ShakeHands_comes : Cond.code y_ShakeHands_comes b_ShakeHands_comes 2 (some .int) ∈ tbl := tbl_in 746 (by decide +kernel) rfl
theorem im_ShakeHands_comes : Cond.instanceMethod y_ShakeHands_comes ∈ tbl := tbl_in 744 (by decide +kernel) rfl
theorem se_ShakeHands_comes : Cond.selects "ShakeHands" y_ShakeHands_comes y_ShakeHands_comes ∈ tbl := tbl_in 745 (by decide +kernel) rfl
abbrev b_Habit_comesBack : ByteArray := prog_3_method_3_code
def y_Habit_comesBack : MethodName := ⟨"ShakeHands$Habit", "comesBack", "(Z)I"⟩
theorem cd_Habit_comesBack : Cond.code y_Habit_comesBack b_Habit_comesBack 4 (some .int) ∈ tbl := tbl_in 750 (by decide +kernel) rfl
theorem im_Habit_comesBack : Cond.instanceMethod y_Habit_comesBack ∈ tbl := tbl_in 748 (by decide +kernel) rfl
theorem se_Habit_comesBack : Cond.selects "ShakeHands$Habit" y_Habit_comesBack y_Habit_comesBack ∈ tbl := tbl_in 749 (by decide +kernel) rfl
abbrev b_Habit_sameDay : ByteArray := prog_3_method_4_code
def y_Habit_sameDay : MethodName := ⟨"ShakeHands$Habit", "sameDay", "(I)I"⟩
theorem cd_Habit_sameDay : Cond.code y_Habit_sameDay b_Habit_sameDay 4 (some .int) ∈ tbl := tbl_in 754 (by decide +kernel) rfl
theorem im_Habit_sameDay : Cond.instanceMethod y_Habit_sameDay ∈ tbl := tbl_in 753 (by decide +kernel) rfl
theorem se_Habit_sameDay : Cond.selects "ShakeHands$Habit" y_Habit_sameDay y_Habit_sameDay ∈ tbl := tbl_sel 29 (by decide +kernel) rfl
abbrev b_ShakeHands_days : ByteArray := prog_1_method_25_code
def y_ShakeHands_days : MethodName := ⟨"ShakeHands", "days", "(I)I"⟩
theorem cd_ShakeHands_days : Cond.code y_ShakeHands_days b_ShakeHands_days 3 (some .int) ∈ tbl := tbl_in 758 (by decide +kernel) rfl
theorem im_ShakeHands_days : Cond.instanceMethod y_ShakeHands_days ∈ tbl := tbl_in 756 (by decide +kernel) rfl
theorem se_ShakeHands_days : Cond.selects "ShakeHands" y_ShakeHands_days y_ShakeHands_days ∈ tbl := tbl_in 757 (by decide +kernel) rfl
abbrev b_ShakeHands_saw : ByteArray := prog_1_method_26_code
def y_ShakeHands_saw : MethodName := ⟨"ShakeHands", "saw", "(II)I"⟩
theorem cd_ShakeHands_saw : Cond.code y_ShakeHands_saw b_ShakeHands_saw 3 (some .int) ∈ tbl := tbl_in 763 (by decide +kernel) rfl
theorem im_ShakeHands_saw : Cond.instanceMethod y_ShakeHands_saw ∈ tbl := tbl_in 761 (by decide +kernel) rfl
theorem se_ShakeHands_saw : Cond.selects "ShakeHands" y_ShakeHands_saw y_ShakeHands_saw ∈ tbl := tbl_in 762 (by decide +kernel) rfl
abbrev b_ShakeHands_blind : ByteArray := prog_1_method_27_code
def y_ShakeHands_blind : MethodName := ⟨"ShakeHands", "blind", "()I"⟩
theorem cd_ShakeHands_blind : Cond.code y_ShakeHands_blind b_ShakeHands_blind 2 (some .int) ∈ tbl := tbl_in 768 (by decide +kernel) rfl
theorem im_ShakeHands_blind : Cond.instanceMethod y_ShakeHands_blind ∈ tbl := tbl_in 766 (by decide +kernel) rfl
theorem se_ShakeHands_blind : Cond.selects "ShakeHands" y_ShakeHands_blind y_ShakeHands_blind ∈ tbl := tbl_in 767 (by decide +kernel) rfl
abbrev b_ShakeHands_fits : ByteArray := prog_1_method_28_code
def y_ShakeHands_fits : MethodName := ⟨"ShakeHands", "fits", "(II)I"⟩
theorem cd_ShakeHands_fits : Cond.code y_ShakeHands_fits b_ShakeHands_fits 3 (some .int) ∈ tbl := tbl_in 772 (by decide +kernel) rfl
theorem im_ShakeHands_fits : Cond.instanceMethod y_ShakeHands_fits ∈ tbl := tbl_in 770 (by decide +kernel) rfl
theorem se_ShakeHands_fits : Cond.selects "ShakeHands" y_ShakeHands_fits y_ShakeHands_fits ∈ tbl := tbl_in 771 (by decide +kernel) rfl
abbrev b_Search_countFits : ByteArray := prog_6_method_6_code
def y_Search_countFits : MethodName := ⟨"ShakeHands$Search", "countFits", "(I)V"⟩
theorem cd_Search_countFits : Cond.code y_Search_countFits b_Search_countFits 2 (none) ∈ tbl := tbl_in 776 (by decide +kernel) rfl
theorem im_Search_countFits : Cond.instanceMethod y_Search_countFits ∈ tbl := tbl_in 774 (by decide +kernel) rfl
theorem se_Search_countFits : Cond.selects "ShakeHands$Search" y_Search_countFits y_Search_countFits ∈ tbl := tbl_in 775 (by decide +kernel) rfl
abbrev b_Search_fit : ByteArray := prog_6_method_16_code
def y_Search_fit : MethodName := ⟨"ShakeHands$Search", "fit", "(LShakeHands$Search;III)V"⟩
theorem cd_Search_fit : Cond.code y_Search_fit b_Search_fit 7 (none) ∈ tbl := tbl_in 779 (by decide +kernel) rfl
theorem st_Search_fit : Cond.static y_Search_fit ∈ tbl := tbl_in 778 (by decide +kernel) rfl
abbrev b_Search_unlikeSeen : ByteArray := prog_6_method_10_code
def y_Search_unlikeSeen : MethodName := ⟨"ShakeHands$Search", "unlikeSeen", "([J)I"⟩
theorem cd_Search_unlikeSeen : Cond.code y_Search_unlikeSeen b_Search_unlikeSeen 4 (some .int) ∈ tbl := tbl_in 783 (by decide +kernel) rfl
theorem im_Search_unlikeSeen : Cond.instanceMethod y_Search_unlikeSeen ∈ tbl := tbl_in 782 (by decide +kernel) rfl
theorem se_Search_unlikeSeen : Cond.selects "ShakeHands$Search" y_Search_unlikeSeen y_Search_unlikeSeen ∈ tbl := tbl_sel 30 (by decide +kernel) rfl
abbrev b_ShakeHands_least : ByteArray := prog_1_method_29_code
def y_ShakeHands_least : MethodName := ⟨"ShakeHands", "least", "()I"⟩
theorem cd_ShakeHands_least : Cond.code y_ShakeHands_least b_ShakeHands_least 2 (some .int) ∈ tbl := tbl_in 788 (by decide +kernel) rfl
theorem im_ShakeHands_least : Cond.instanceMethod y_ShakeHands_least ∈ tbl := tbl_in 786 (by decide +kernel) rfl
theorem se_ShakeHands_least : Cond.selects "ShakeHands" y_ShakeHands_least y_ShakeHands_least ∈ tbl := tbl_in 787 (by decide +kernel) rfl
abbrev b_ShakeHands_seats : ByteArray := prog_1_method_30_code
def y_ShakeHands_seats : MethodName := ⟨"ShakeHands", "seats", "(III)I"⟩
theorem cd_ShakeHands_seats : Cond.code y_ShakeHands_seats b_ShakeHands_seats 6 (some .int) ∈ tbl := tbl_in 792 (by decide +kernel) rfl
theorem im_ShakeHands_seats : Cond.instanceMethod y_ShakeHands_seats ∈ tbl := tbl_in 790 (by decide +kernel) rfl
theorem se_ShakeHands_seats : Cond.selects "ShakeHands" y_ShakeHands_seats y_ShakeHands_seats ∈ tbl := tbl_in 791 (by decide +kernel) rfl
abbrev b_Search_countSeats : ByteArray := prog_6_method_7_code
def y_Search_countSeats : MethodName := ⟨"ShakeHands$Search", "countSeats", "()V"⟩
theorem cd_Search_countSeats : Cond.code y_Search_countSeats b_Search_countSeats 1 (none) ∈ tbl := tbl_in 796 (by decide +kernel) rfl
theorem im_Search_countSeats : Cond.instanceMethod y_Search_countSeats ∈ tbl := tbl_in 794 (by decide +kernel) rfl
theorem se_Search_countSeats : Cond.selects "ShakeHands$Search" y_Search_countSeats y_Search_countSeats ∈ tbl := tbl_in 795 (by decide +kernel) rfl
abbrev b_Search_sit : ByteArray := prog_6_method_17_code
def y_Search_sit : MethodName := ⟨"ShakeHands$Search", "sit", "(LShakeHands$Search;II)V"⟩
theorem cd_Search_sit : Cond.code y_Search_sit b_Search_sit 4 (none) ∈ tbl := tbl_in 799 (by decide +kernel) rfl
theorem st_Search_sit : Cond.static y_Search_sit ∈ tbl := tbl_in 798 (by decide +kernel) rfl
abbrev b_ShakeHands_gloves : ByteArray := prog_1_method_31_code
def y_ShakeHands_gloves : MethodName := ⟨"ShakeHands", "gloves", "(III)I"⟩
theorem cd_ShakeHands_gloves : Cond.code y_ShakeHands_gloves b_ShakeHands_gloves 5 (some .int) ∈ tbl := tbl_in 804 (by decide +kernel) rfl
theorem im_ShakeHands_gloves : Cond.instanceMethod y_ShakeHands_gloves ∈ tbl := tbl_in 802 (by decide +kernel) rfl
theorem se_ShakeHands_gloves : Cond.selects "ShakeHands" y_ShakeHands_gloves y_ShakeHands_gloves ∈ tbl := tbl_in 803 (by decide +kernel) rfl
abbrev b_ShakeHands_fewestGloves : ByteArray := prog_1_method_52_code
def y_ShakeHands_fewestGloves : MethodName := ⟨"ShakeHands", "fewestGloves", "(II)I"⟩
theorem cd_ShakeHands_fewestGloves : Cond.code y_ShakeHands_fewestGloves b_ShakeHands_fewestGloves 6 (some .int) ∈ tbl := tbl_in 808 (by decide +kernel) rfl
theorem im_ShakeHands_fewestGloves : Cond.instanceMethod y_ShakeHands_fewestGloves ∈ tbl := tbl_in 807 (by decide +kernel) rfl
theorem se_ShakeHands_fewestGloves : Cond.selects "ShakeHands" y_ShakeHands_fewestGloves y_ShakeHands_fewestGloves ∈ tbl := tbl_sel 31 (by decide +kernel) rfl
abbrev b_ShakeHands_keep : ByteArray := prog_1_method_32_code
def y_ShakeHands_keep : MethodName := ⟨"ShakeHands", "keep", "(I)I"⟩
theorem cd_ShakeHands_keep : Cond.code y_ShakeHands_keep b_ShakeHands_keep 3 (some .int) ∈ tbl := tbl_in 812 (by decide +kernel) rfl
theorem im_ShakeHands_keep : Cond.instanceMethod y_ShakeHands_keep ∈ tbl := tbl_in 810 (by decide +kernel) rfl
theorem se_ShakeHands_keep : Cond.selects "ShakeHands" y_ShakeHands_keep y_ShakeHands_keep ∈ tbl := tbl_in 811 (by decide +kernel) rfl
abbrev b_ShakeHands_isImage : ByteArray := prog_1_method_45_code
def y_ShakeHands_isImage : MethodName := ⟨"ShakeHands", "isImage", "(I)Z"⟩
theorem cd_ShakeHands_isImage : Cond.code y_ShakeHands_isImage b_ShakeHands_isImage 1 (some .boolean) ∈ tbl := tbl_in 815 (by decide +kernel) rfl
theorem st_ShakeHands_isImage : Cond.static y_ShakeHands_isImage ∈ tbl := tbl_in 814 (by decide +kernel) rfl
abbrev b_Minds_copy : ByteArray := prog_4_method_2_code
def y_Minds_copy : MethodName := ⟨"ShakeHands$Minds", "copy", "(LShakeHands$Minds;)V"⟩
theorem cd_Minds_copy : Cond.code y_Minds_copy b_Minds_copy 2 (none) ∈ tbl := tbl_in 819 (by decide +kernel) rfl
theorem im_Minds_copy : Cond.instanceMethod y_Minds_copy ∈ tbl := tbl_in 817 (by decide +kernel) rfl
theorem se_Minds_copy : Cond.selects "ShakeHands$Minds" y_Minds_copy y_Minds_copy ∈ tbl := tbl_in 818 (by decide +kernel) rfl
abbrev b_ShakeHands_back : ByteArray := prog_1_method_33_code
def y_ShakeHands_back : MethodName := ⟨"ShakeHands", "back", "(I)I"⟩
theorem cd_ShakeHands_back : Cond.code y_ShakeHands_back b_ShakeHands_back 2 (some .int) ∈ tbl := tbl_in 824 (by decide +kernel) rfl
theorem im_ShakeHands_back : Cond.instanceMethod y_ShakeHands_back ∈ tbl := tbl_in 822 (by decide +kernel) rfl
theorem se_ShakeHands_back : Cond.selects "ShakeHands" y_ShakeHands_back y_ShakeHands_back ∈ tbl := tbl_in 823 (by decide +kernel) rfl
abbrev b_ShakeHands_sheet : ByteArray := prog_1_method_34_code
def y_ShakeHands_sheet : MethodName := ⟨"ShakeHands", "sheet", "(III)I"⟩
theorem cd_ShakeHands_sheet : Cond.code y_ShakeHands_sheet b_ShakeHands_sheet 4 (some .int) ∈ tbl := tbl_in 828 (by decide +kernel) rfl
theorem im_ShakeHands_sheet : Cond.instanceMethod y_ShakeHands_sheet ∈ tbl := tbl_in 826 (by decide +kernel) rfl
theorem se_ShakeHands_sheet : Cond.selects "ShakeHands" y_ShakeHands_sheet y_ShakeHands_sheet ∈ tbl := tbl_in 827 (by decide +kernel) rfl
abbrev b_ShakeHands_isSheet : ByteArray := prog_1_method_46_code
def y_ShakeHands_isSheet : MethodName := ⟨"ShakeHands", "isSheet", "(I)Z"⟩
theorem cd_ShakeHands_isSheet : Cond.code y_ShakeHands_isSheet b_ShakeHands_isSheet 1 (some .boolean) ∈ tbl := tbl_in 831 (by decide +kernel) rfl
theorem st_ShakeHands_isSheet : Cond.static y_ShakeHands_isSheet ∈ tbl := tbl_in 830 (by decide +kernel) rfl
abbrev b_ShakeHands_isLane : ByteArray := prog_1_method_47_code
def y_ShakeHands_isLane : MethodName := ⟨"ShakeHands", "isLane", "(I)Z"⟩
theorem cd_ShakeHands_isLane : Cond.code y_ShakeHands_isLane b_ShakeHands_isLane 1 (some .boolean) ∈ tbl := tbl_in 834 (by decide +kernel) rfl
theorem st_ShakeHands_isLane : Cond.static y_ShakeHands_isLane ∈ tbl := tbl_in 833 (by decide +kernel) rfl
abbrev b_Sheet_renew : ByteArray := prog_7_method_2_code
def y_Sheet_renew : MethodName := ⟨"ShakeHands$Sheet", "renew", "(II)V"⟩
theorem cd_Sheet_renew : Cond.code y_Sheet_renew b_Sheet_renew 4 (none) ∈ tbl := tbl_in 838 (by decide +kernel) rfl
theorem im_Sheet_renew : Cond.instanceMethod y_Sheet_renew ∈ tbl := tbl_in 836 (by decide +kernel) rfl
theorem se_Sheet_renew : Cond.selects "ShakeHands$Sheet" y_Sheet_renew y_Sheet_renew ∈ tbl := tbl_in 837 (by decide +kernel) rfl
abbrev b_ShakeHands_lay : ByteArray := prog_1_method_35_code
def y_ShakeHands_lay : MethodName := ⟨"ShakeHands", "lay", "(III)I"⟩
theorem cd_ShakeHands_lay : Cond.code y_ShakeHands_lay b_ShakeHands_lay 5 (some .int) ∈ tbl := tbl_in 842 (by decide +kernel) rfl
theorem im_ShakeHands_lay : Cond.instanceMethod y_ShakeHands_lay ∈ tbl := tbl_in 840 (by decide +kernel) rfl
theorem se_ShakeHands_lay : Cond.selects "ShakeHands" y_ShakeHands_lay y_ShakeHands_lay ∈ tbl := tbl_in 841 (by decide +kernel) rfl
abbrev b_Sheet_faultAt : ByteArray := prog_7_method_3_code
def y_Sheet_faultAt : MethodName := ⟨"ShakeHands$Sheet", "faultAt", "(I)I"⟩
theorem cd_Sheet_faultAt : Cond.code y_Sheet_faultAt b_Sheet_faultAt 2 (some .int) ∈ tbl := tbl_in 846 (by decide +kernel) rfl
theorem im_Sheet_faultAt : Cond.instanceMethod y_Sheet_faultAt ∈ tbl := tbl_in 844 (by decide +kernel) rfl
theorem se_Sheet_faultAt : Cond.selects "ShakeHands$Sheet" y_Sheet_faultAt y_Sheet_faultAt ∈ tbl := tbl_in 845 (by decide +kernel) rfl
abbrev b_Sheet_put : ByteArray := prog_7_method_6_code
def y_Sheet_put : MethodName := ⟨"ShakeHands$Sheet", "put", "(II)V"⟩
theorem cd_Sheet_put : Cond.code y_Sheet_put b_Sheet_put 3 (none) ∈ tbl := tbl_in 850 (by decide +kernel) rfl
theorem im_Sheet_put : Cond.instanceMethod y_Sheet_put ∈ tbl := tbl_in 848 (by decide +kernel) rfl
theorem se_Sheet_put : Cond.selects "ShakeHands$Sheet" y_Sheet_put y_Sheet_put ∈ tbl := tbl_in 849 (by decide +kernel) rfl
abbrev b_ShakeHands_read : ByteArray := prog_1_method_36_code
def y_ShakeHands_read : MethodName := ⟨"ShakeHands", "read", "(IIII)I"⟩
theorem cd_ShakeHands_read : Cond.code y_ShakeHands_read b_ShakeHands_read 10 (some .int) ∈ tbl := tbl_in 855 (by decide +kernel) rfl
theorem im_ShakeHands_read : Cond.instanceMethod y_ShakeHands_read ∈ tbl := tbl_in 853 (by decide +kernel) rfl
theorem se_ShakeHands_read : Cond.selects "ShakeHands" y_ShakeHands_read y_ShakeHands_read ∈ tbl := tbl_in 854 (by decide +kernel) rfl
abbrev b_Sheet_faultOfTwo : ByteArray := prog_7_method_4_code
def y_Sheet_faultOfTwo : MethodName := ⟨"ShakeHands$Sheet", "faultOfTwo", "(II)I"⟩
theorem cd_Sheet_faultOfTwo : Cond.code y_Sheet_faultOfTwo b_Sheet_faultOfTwo 4 (some .int) ∈ tbl := tbl_in 859 (by decide +kernel) rfl
theorem im_Sheet_faultOfTwo : Cond.instanceMethod y_Sheet_faultOfTwo ∈ tbl := tbl_in 857 (by decide +kernel) rfl
theorem se_Sheet_faultOfTwo : Cond.selects "ShakeHands$Sheet" y_Sheet_faultOfTwo y_Sheet_faultOfTwo ∈ tbl := tbl_in 858 (by decide +kernel) rfl
abbrev b_Sheet_cellAt : ByteArray := prog_7_method_5_code
def y_Sheet_cellAt : MethodName := ⟨"ShakeHands$Sheet", "cellAt", "(I)I"⟩
theorem cd_Sheet_cellAt : Cond.code y_Sheet_cellAt b_Sheet_cellAt 2 (some .int) ∈ tbl := tbl_in 863 (by decide +kernel) rfl
theorem im_Sheet_cellAt : Cond.instanceMethod y_Sheet_cellAt ∈ tbl := tbl_in 861 (by decide +kernel) rfl
theorem se_Sheet_cellAt : Cond.selects "ShakeHands$Sheet" y_Sheet_cellAt y_Sheet_cellAt ∈ tbl := tbl_in 862 (by decide +kernel) rfl
abbrev b_ShakeHands_torn : ByteArray := prog_1_method_37_code
def y_ShakeHands_torn : MethodName := ⟨"ShakeHands", "torn", "()I"⟩
theorem cd_ShakeHands_torn : Cond.code y_ShakeHands_torn b_ShakeHands_torn 1 (some .int) ∈ tbl := tbl_in 867 (by decide +kernel) rfl
theorem im_ShakeHands_torn : Cond.instanceMethod y_ShakeHands_torn ∈ tbl := tbl_in 865 (by decide +kernel) rfl
theorem se_ShakeHands_torn : Cond.selects "ShakeHands" y_ShakeHands_torn y_ShakeHands_torn ∈ tbl := tbl_in 866 (by decide +kernel) rfl
abbrev b_ShakeHands_count : ByteArray := prog_1_method_38_code
def y_ShakeHands_count : MethodName := ⟨"ShakeHands", "count", "(I)I"⟩
theorem cd_ShakeHands_count : Cond.code y_ShakeHands_count b_ShakeHands_count 2 (some .int) ∈ tbl := tbl_in 871 (by decide +kernel) rfl
theorem im_ShakeHands_count : Cond.instanceMethod y_ShakeHands_count ∈ tbl := tbl_in 869 (by decide +kernel) rfl
theorem se_ShakeHands_count : Cond.selects "ShakeHands" y_ShakeHands_count y_ShakeHands_count ∈ tbl := tbl_in 870 (by decide +kernel) rfl
abbrev b_ShakeHands_knownToAll : ByteArray := prog_1_method_51_code
def y_ShakeHands_knownToAll : MethodName := ⟨"ShakeHands", "knownToAll", "()I"⟩
theorem cd_ShakeHands_knownToAll : Cond.code y_ShakeHands_knownToAll b_ShakeHands_knownToAll 3 (some .int) ∈ tbl := tbl_in 875 (by decide +kernel) rfl
theorem im_ShakeHands_knownToAll : Cond.instanceMethod y_ShakeHands_knownToAll ∈ tbl := tbl_in 874 (by decide +kernel) rfl
theorem se_ShakeHands_knownToAll : Cond.selects "ShakeHands" y_ShakeHands_knownToAll y_ShakeHands_knownToAll ∈ tbl := tbl_sel 32 (by decide +kernel) rfl
abbrev b_Model_init : ByteArray := prog_11_method_1_code
def y_Model_init : MethodName := ⟨"ShakeHandsModel", "<init>", "()V"⟩
theorem cd_Model_init : Cond.code y_Model_init b_Model_init 3 (none) ∈ tbl := tbl_in 881 (by decide +kernel) rfl
theorem im_Model_init : Cond.instanceMethod y_Model_init ∈ tbl := tbl_in 880 (by decide +kernel) rfl
abbrev b_Model_pairOf : ByteArray := prog_11_method_5_code
def y_Model_pairOf : MethodName := ⟨"ShakeHandsModel", "pairOf", "(II)I"⟩
theorem cd_Model_pairOf : Cond.code y_Model_pairOf b_Model_pairOf 2 (some .int) ∈ tbl := tbl_in 885 (by decide +kernel) rfl
theorem st_Model_pairOf : Cond.static y_Model_pairOf ∈ tbl := tbl_in 884 (by decide +kernel) rfl
abbrev b_Model_firstDraft : ByteArray := prog_11_method_7_code
def y_Model_firstDraft : MethodName := ⟨"ShakeHandsModel", "firstDraft", "()V"⟩
theorem cd_Model_firstDraft : Cond.code y_Model_firstDraft b_Model_firstDraft 2 (none) ∈ tbl := tbl_in 889 (by decide +kernel) rfl
theorem im_Model_firstDraft : Cond.instanceMethod y_Model_firstDraft ∈ tbl := tbl_in 888 (by decide +kernel) rfl
theorem se_Model_firstDraft : Cond.selects "ShakeHandsModel" y_Model_firstDraft y_Model_firstDraft ∈ tbl := tbl_sel 33 (by decide +kernel) rfl
abbrev b_Model_keepDraft : ByteArray := prog_11_method_8_code
def y_Model_keepDraft : MethodName := ⟨"ShakeHandsModel", "keepDraft", "()V"⟩
theorem cd_Model_keepDraft : Cond.code y_Model_keepDraft b_Model_keepDraft 2 (none) ∈ tbl := tbl_in 893 (by decide +kernel) rfl
theorem im_Model_keepDraft : Cond.instanceMethod y_Model_keepDraft ∈ tbl := tbl_in 892 (by decide +kernel) rfl
theorem se_Model_keepDraft : Cond.selects "ShakeHandsModel" y_Model_keepDraft y_Model_keepDraft ∈ tbl := tbl_sel 34 (by decide +kernel) rfl
abbrev b_Model_flag : ByteArray := prog_11_method_4_code
def y_Model_flag : MethodName := ⟨"ShakeHandsModel", "flag", "(Z)I"⟩
theorem cd_Model_flag : Cond.code y_Model_flag b_Model_flag 1 (some .int) ∈ tbl := tbl_in 896 (by decide +kernel) rfl
theorem st_Model_flag : Cond.static y_Model_flag ∈ tbl := tbl_in 895 (by decide +kernel) rfl
abbrev b_Model_feed : ByteArray := prog_11_method_9_code
def y_Model_feed : MethodName := ⟨"ShakeHandsModel", "feed", "(J)I"⟩
theorem cd_Model_feed : Cond.code y_Model_feed b_Model_feed 4 (some .int) ∈ tbl := tbl_in 1067 (by decide +kernel) rfl
theorem im_Model_feed : Cond.instanceMethod y_Model_feed ∈ tbl := tbl_in 1065 (by decide +kernel) rfl
theorem se_Model_feed : Cond.selects "ShakeHandsModel" y_Model_feed y_Model_feed ∈ tbl := tbl_in 1066 (by decide +kernel) rfl
abbrev b_Model_end : ByteArray := prog_11_method_10_code
def y_Model_end : MethodName := ⟨"ShakeHandsModel", "end", "(I)I"⟩
theorem cd_Model_end : Cond.code y_Model_end b_Model_end 3 (some .int) ∈ tbl := tbl_in 1072 (by decide +kernel) rfl
theorem im_Model_end : Cond.instanceMethod y_Model_end ∈ tbl := tbl_in 1070 (by decide +kernel) rfl
theorem se_Model_end : Cond.selects "ShakeHandsModel" y_Model_end y_Model_end ∈ tbl := tbl_in 1071 (by decide +kernel) rfl
abbrev b_Model_in : ByteArray := prog_11_method_3_code
def y_Model_in : MethodName := ⟨"ShakeHandsModel", "in", "(JJJ)Z"⟩
theorem cd_Model_in : Cond.code y_Model_in b_Model_in 6 (some .boolean) ∈ tbl := tbl_in 1075 (by decide +kernel) rfl
theorem st_Model_in : Cond.static y_Model_in ∈ tbl := tbl_in 1074 (by decide +kernel) rfl
abbrev b_Model_text : ByteArray := prog_11_method_25_code
def y_Model_text : MethodName := ⟨"ShakeHandsModel", "text", "()I"⟩
theorem cd_Model_text : Cond.code y_Model_text b_Model_text 2 (some .int) ∈ tbl := tbl_in 1079 (by decide +kernel) rfl
theorem im_Model_text : Cond.instanceMethod y_Model_text ∈ tbl := tbl_in 1077 (by decide +kernel) rfl
theorem se_Model_text : Cond.selects "ShakeHandsModel" y_Model_text y_Model_text ∈ tbl := tbl_in 1078 (by decide +kernel) rfl
abbrev b_Model_next : ByteArray := prog_11_method_15_code
def y_Model_next : MethodName := ⟨"ShakeHandsModel", "next", "()V"⟩
theorem cd_Model_next : Cond.code y_Model_next b_Model_next 2 (none) ∈ tbl := tbl_in 1083 (by decide +kernel) rfl
theorem im_Model_next : Cond.instanceMethod y_Model_next ∈ tbl := tbl_in 1082 (by decide +kernel) rfl
theorem se_Model_next : Cond.selects "ShakeHandsModel" y_Model_next y_Model_next ∈ tbl := tbl_sel 35 (by decide +kernel) rfl
abbrev b_Model_look : ByteArray := prog_11_method_12_code
def y_Model_look : MethodName := ⟨"ShakeHandsModel", "look", "(I)I"⟩
theorem cd_Model_look : Cond.code y_Model_look b_Model_look 2 (some .int) ∈ tbl := tbl_in 1087 (by decide +kernel) rfl
theorem im_Model_look : Cond.instanceMethod y_Model_look ∈ tbl := tbl_in 1086 (by decide +kernel) rfl
theorem se_Model_look : Cond.selects "ShakeHandsModel" y_Model_look y_Model_look ∈ tbl := tbl_sel 36 (by decide +kernel) rfl
abbrev b_Model_needs : ByteArray := prog_11_method_11_code
def y_Model_needs : MethodName := ⟨"ShakeHandsModel", "needs", "(ZI)V"⟩
theorem cd_Model_needs : Cond.code y_Model_needs b_Model_needs 3 (none) ∈ tbl := tbl_in 1095 (by decide +kernel) rfl
theorem im_Model_needs : Cond.instanceMethod y_Model_needs ∈ tbl := tbl_in 1094 (by decide +kernel) rfl
theorem se_Model_needs : Cond.selects "ShakeHandsModel" y_Model_needs y_Model_needs ∈ tbl := tbl_sel 37 (by decide +kernel) rfl
abbrev b_Model_readLine : ByteArray := prog_11_method_23_code
def y_Model_readLine : MethodName := ⟨"ShakeHandsModel", "readLine", "()V"⟩
theorem cd_Model_readLine : Cond.code y_Model_readLine b_Model_readLine 2 (none) ∈ tbl := tbl_in 1099 (by decide +kernel) rfl
theorem im_Model_readLine : Cond.instanceMethod y_Model_readLine ∈ tbl := tbl_in 1098 (by decide +kernel) rfl
theorem se_Model_readLine : Cond.selects "ShakeHandsModel" y_Model_readLine y_Model_readLine ∈ tbl := tbl_sel 38 (by decide +kernel) rfl
abbrev b_Model_nameNow : ByteArray := prog_11_method_14_code
def y_Model_nameNow : MethodName := ⟨"ShakeHandsModel", "nameNow", "()I"⟩
theorem cd_Model_nameNow : Cond.code y_Model_nameNow b_Model_nameNow 1 (some .int) ∈ tbl := tbl_in 1103 (by decide +kernel) rfl
theorem im_Model_nameNow : Cond.instanceMethod y_Model_nameNow ∈ tbl := tbl_in 1102 (by decide +kernel) rfl
theorem se_Model_nameNow : Cond.selects "ShakeHandsModel" y_Model_nameNow y_Model_nameNow ∈ tbl := tbl_sel 39 (by decide +kernel) rfl
abbrev b_Model_is : ByteArray := prog_11_method_13_code
def y_Model_is : MethodName := ⟨"ShakeHandsModel", "is", "(IIIII)Z"⟩
theorem cd_Model_is : Cond.code y_Model_is b_Model_is 6 (some .boolean) ∈ tbl := tbl_in 1107 (by decide +kernel) rfl
theorem im_Model_is : Cond.instanceMethod y_Model_is ∈ tbl := tbl_in 1106 (by decide +kernel) rfl
theorem se_Model_is : Cond.selects "ShakeHandsModel" y_Model_is y_Model_is ∈ tbl := tbl_sel 40 (by decide +kernel) rfl
abbrev b_Model_readNumber : ByteArray := prog_11_method_17_code
def y_Model_readNumber : MethodName := ⟨"ShakeHandsModel", "readNumber", "(II)I"⟩
theorem cd_Model_readNumber : Cond.code y_Model_readNumber b_Model_readNumber 4 (some .int) ∈ tbl := tbl_in 1111 (by decide +kernel) rfl
theorem im_Model_readNumber : Cond.instanceMethod y_Model_readNumber ∈ tbl := tbl_in 1110 (by decide +kernel) rfl
theorem se_Model_readNumber : Cond.selects "ShakeHandsModel" y_Model_readNumber y_Model_readNumber ∈ tbl := tbl_sel 41 (by decide +kernel) rfl
abbrev b_Model_looked : ByteArray := prog_11_method_16_code
def y_Model_looked : MethodName := ⟨"ShakeHandsModel", "looked", "(II)I"⟩
theorem cd_Model_looked : Cond.code y_Model_looked b_Model_looked 3 (some .int) ∈ tbl := tbl_in 1115 (by decide +kernel) rfl
theorem im_Model_looked : Cond.instanceMethod y_Model_looked ∈ tbl := tbl_in 1114 (by decide +kernel) rfl
theorem se_Model_looked : Cond.selects "ShakeHandsModel" y_Model_looked y_Model_looked ∈ tbl := tbl_sel 42 (by decide +kernel) rfl
abbrev b_Model_readKnows : ByteArray := prog_11_method_19_code
def y_Model_readKnows : MethodName := ⟨"ShakeHandsModel", "readKnows", "()V"⟩
theorem cd_Model_readKnows : Cond.code y_Model_readKnows b_Model_readKnows 6 (none) ∈ tbl := tbl_in 1119 (by decide +kernel) rfl
theorem im_Model_readKnows : Cond.instanceMethod y_Model_readKnows ∈ tbl := tbl_in 1118 (by decide +kernel) rfl
theorem se_Model_readKnows : Cond.selects "ShakeHandsModel" y_Model_readKnows y_Model_readKnows ∈ tbl := tbl_sel 43 (by decide +kernel) rfl
abbrev b_Model_tells : ByteArray := prog_11_method_18_code
def y_Model_tells : MethodName := ⟨"ShakeHandsModel", "tells", "(I)V"⟩
theorem cd_Model_tells : Cond.code y_Model_tells b_Model_tells 2 (none) ∈ tbl := tbl_in 1123 (by decide +kernel) rfl
theorem im_Model_tells : Cond.instanceMethod y_Model_tells ∈ tbl := tbl_in 1122 (by decide +kernel) rfl
theorem se_Model_tells : Cond.selects "ShakeHandsModel" y_Model_tells y_Model_tells ∈ tbl := tbl_sel 44 (by decide +kernel) rfl
abbrev b_Model_readJoin : ByteArray := prog_11_method_20_code
def y_Model_readJoin : MethodName := ⟨"ShakeHandsModel", "readJoin", "()V"⟩
theorem cd_Model_readJoin : Cond.code y_Model_readJoin b_Model_readJoin 4 (none) ∈ tbl := tbl_in 1127 (by decide +kernel) rfl
theorem im_Model_readJoin : Cond.instanceMethod y_Model_readJoin ∈ tbl := tbl_in 1126 (by decide +kernel) rfl
theorem se_Model_readJoin : Cond.selects "ShakeHandsModel" y_Model_readJoin y_Model_readJoin ∈ tbl := tbl_sel 45 (by decide +kernel) rfl
abbrev b_Model_readHand : ByteArray := prog_11_method_21_code
def y_Model_readHand : MethodName := ⟨"ShakeHandsModel", "readHand", "()I"⟩
theorem cd_Model_readHand : Cond.code y_Model_readHand b_Model_readHand 3 (some .int) ∈ tbl := tbl_in 1131 (by decide +kernel) rfl
theorem im_Model_readHand : Cond.instanceMethod y_Model_readHand ∈ tbl := tbl_in 1130 (by decide +kernel) rfl
theorem se_Model_readHand : Cond.selects "ShakeHandsModel" y_Model_readHand y_Model_readHand ∈ tbl := tbl_sel 46 (by decide +kernel) rfl
abbrev b_Model_readGlove : ByteArray := prog_11_method_22_code
def y_Model_readGlove : MethodName := ⟨"ShakeHandsModel", "readGlove", "()V"⟩
theorem cd_Model_readGlove : Cond.code y_Model_readGlove b_Model_readGlove 2 (none) ∈ tbl := tbl_in 1135 (by decide +kernel) rfl
theorem im_Model_readGlove : Cond.instanceMethod y_Model_readGlove ∈ tbl := tbl_in 1134 (by decide +kernel) rfl
theorem se_Model_readGlove : Cond.selects "ShakeHandsModel" y_Model_readGlove y_Model_readGlove ∈ tbl := tbl_sel 47 (by decide +kernel) rfl
abbrev b_Model_isHeld : ByteArray := prog_11_method_24_code
def y_Model_isHeld : MethodName := ⟨"ShakeHandsModel", "isHeld", "()Z"⟩
theorem cd_Model_isHeld : Cond.code y_Model_isHeld b_Model_isHeld 3 (some .boolean) ∈ tbl := tbl_in 1139 (by decide +kernel) rfl
theorem im_Model_isHeld : Cond.instanceMethod y_Model_isHeld ∈ tbl := tbl_in 1138 (by decide +kernel) rfl
theorem se_Model_isHeld : Cond.selects "ShakeHandsModel" y_Model_isHeld y_Model_isHeld ∈ tbl := tbl_sel 48 (by decide +kernel) rfl
abbrev b_Model_fault : ByteArray := prog_11_method_26_code
def y_Model_fault : MethodName := ⟨"ShakeHandsModel", "fault", "()I"⟩
theorem cd_Model_fault : Cond.code y_Model_fault b_Model_fault 1 (some .int) ∈ tbl := tbl_in 1143 (by decide +kernel) rfl
theorem im_Model_fault : Cond.instanceMethod y_Model_fault ∈ tbl := tbl_in 1141 (by decide +kernel) rfl
theorem se_Model_fault : Cond.selects "ShakeHandsModel" y_Model_fault y_Model_fault ∈ tbl := tbl_in 1142 (by decide +kernel) rfl
abbrev b_Model_rule : ByteArray := prog_11_method_28_code
def y_Model_rule : MethodName := ⟨"ShakeHandsModel", "rule", "(I)I"⟩
theorem cd_Model_rule : Cond.code y_Model_rule b_Model_rule 2 (some .int) ∈ tbl := tbl_in 1147 (by decide +kernel) rfl
theorem im_Model_rule : Cond.instanceMethod y_Model_rule ∈ tbl := tbl_in 1145 (by decide +kernel) rfl
theorem se_Model_rule : Cond.selects "ShakeHandsModel" y_Model_rule y_Model_rule ∈ tbl := tbl_in 1146 (by decide +kernel) rfl
abbrev b_Model_worn : ByteArray := prog_11_method_27_code
def y_Model_worn : MethodName := ⟨"ShakeHandsModel", "worn", "()I"⟩
theorem cd_Model_worn : Cond.code y_Model_worn b_Model_worn 3 (some .int) ∈ tbl := tbl_in 1151 (by decide +kernel) rfl
theorem im_Model_worn : Cond.instanceMethod y_Model_worn ∈ tbl := tbl_in 1150 (by decide +kernel) rfl
theorem se_Model_worn : Cond.selects "ShakeHandsModel" y_Model_worn y_Model_worn ∈ tbl := tbl_sel 49 (by decide +kernel) rfl
abbrev b_Model_bitsOf : ByteArray := prog_11_method_6_code
def y_Model_bitsOf : MethodName := ⟨"ShakeHandsModel", "bitsOf", "(I)I"⟩
theorem cd_Model_bitsOf : Cond.code y_Model_bitsOf b_Model_bitsOf 3 (some .int) ∈ tbl := tbl_in 1154 (by decide +kernel) rfl
theorem st_Model_bitsOf : Cond.static y_Model_bitsOf ∈ tbl := tbl_in 1153 (by decide +kernel) rfl
abbrev b_Model_hand : ByteArray := prog_11_method_29_code
def y_Model_hand : MethodName := ⟨"ShakeHandsModel", "hand", "(IZ)I"⟩
theorem cd_Model_hand : Cond.code y_Model_hand b_Model_hand 3 (some .int) ∈ tbl := tbl_in 1158 (by decide +kernel) rfl
theorem im_Model_hand : Cond.instanceMethod y_Model_hand ∈ tbl := tbl_in 1156 (by decide +kernel) rfl
theorem se_Model_hand : Cond.selects "ShakeHandsModel" y_Model_hand y_Model_hand ∈ tbl := tbl_in 1157 (by decide +kernel) rfl
abbrev b_Model_join : ByteArray := prog_11_method_30_code
def y_Model_join : MethodName := ⟨"ShakeHandsModel", "join", "(II)I"⟩
theorem cd_Model_join : Cond.code y_Model_join b_Model_join 3 (some .int) ∈ tbl := tbl_in 1162 (by decide +kernel) rfl
theorem im_Model_join : Cond.instanceMethod y_Model_join ∈ tbl := tbl_in 1160 (by decide +kernel) rfl
theorem se_Model_join : Cond.selects "ShakeHandsModel" y_Model_join y_Model_join ∈ tbl := tbl_in 1161 (by decide +kernel) rfl
abbrev b_Model_knows : ByteArray := prog_11_method_50_code
def y_Model_knows : MethodName := ⟨"ShakeHandsModel", "knows", "(I)I"⟩
theorem cd_Model_knows : Cond.code y_Model_knows b_Model_knows 2 (some .int) ∈ tbl := tbl_in 1167 (by decide +kernel) rfl
theorem im_Model_knows : Cond.instanceMethod y_Model_knows ∈ tbl := tbl_in 1165 (by decide +kernel) rfl
theorem se_Model_knows : Cond.selects "ShakeHandsModel" y_Model_knows y_Model_knows ∈ tbl := tbl_in 1166 (by decide +kernel) rfl
abbrev b_Model_isOne : ByteArray := prog_11_method_44_code
def y_Model_isOne : MethodName := ⟨"ShakeHandsModel", "isOne", "(I)Z"⟩
theorem cd_Model_isOne : Cond.code y_Model_isOne b_Model_isOne 2 (some .boolean) ∈ tbl := tbl_in 1171 (by decide +kernel) rfl
theorem im_Model_isOne : Cond.instanceMethod y_Model_isOne ∈ tbl := tbl_in 1170 (by decide +kernel) rfl
theorem se_Model_isOne : Cond.selects "ShakeHandsModel" y_Model_isOne y_Model_isOne ∈ tbl := tbl_sel 50 (by decide +kernel) rfl
abbrev b_Model_knowsNow : ByteArray := prog_11_method_46_code
def y_Model_knowsNow : MethodName := ⟨"ShakeHandsModel", "knowsNow", "(I)I"⟩
theorem cd_Model_knowsNow : Cond.code y_Model_knowsNow b_Model_knowsNow 2 (some .int) ∈ tbl := tbl_in 1175 (by decide +kernel) rfl
theorem im_Model_knowsNow : Cond.instanceMethod y_Model_knowsNow ∈ tbl := tbl_in 1174 (by decide +kernel) rfl
theorem se_Model_knowsNow : Cond.selects "ShakeHandsModel" y_Model_knowsNow y_Model_knowsNow ∈ tbl := tbl_sel 51 (by decide +kernel) rfl
abbrev b_Model_begins : ByteArray := prog_11_method_31_code
def y_Model_begins : MethodName := ⟨"ShakeHandsModel", "begins", "(I)V"⟩
theorem cd_Model_begins : Cond.code y_Model_begins b_Model_begins 3 (none) ∈ tbl := tbl_in 1179 (by decide +kernel) rfl
theorem im_Model_begins : Cond.instanceMethod y_Model_begins ∈ tbl := tbl_in 1178 (by decide +kernel) rfl
theorem se_Model_begins : Cond.selects "ShakeHandsModel" y_Model_begins y_Model_begins ∈ tbl := tbl_sel 52 (by decide +kernel) rfl
abbrev b_Model_knowsIn : ByteArray := prog_11_method_40_code
def y_Model_knowsIn : MethodName := ⟨"ShakeHandsModel", "knowsIn", "(II)I"⟩
theorem cd_Model_knowsIn : Cond.code y_Model_knowsIn b_Model_knowsIn 6 (some .int) ∈ tbl := tbl_in 1183 (by decide +kernel) rfl
theorem im_Model_knowsIn : Cond.instanceMethod y_Model_knowsIn ∈ tbl := tbl_in 1182 (by decide +kernel) rfl
theorem se_Model_knowsIn : Cond.selects "ShakeHandsModel" y_Model_knowsIn y_Model_knowsIn ∈ tbl := tbl_sel 53 (by decide +kernel) rfl
abbrev b_Model_row : ByteArray := prog_11_method_51_code
def y_Model_row : MethodName := ⟨"ShakeHandsModel", "row", "(II)I"⟩
theorem cd_Model_row : Cond.code y_Model_row b_Model_row 3 (some .int) ∈ tbl := tbl_in 1187 (by decide +kernel) rfl
theorem im_Model_row : Cond.instanceMethod y_Model_row ∈ tbl := tbl_in 1185 (by decide +kernel) rfl
theorem se_Model_row : Cond.selects "ShakeHandsModel" y_Model_row y_Model_row ∈ tbl := tbl_in 1186 (by decide +kernel) rfl
abbrev b_Model_who : ByteArray := prog_11_method_52_code
def y_Model_who : MethodName := ⟨"ShakeHandsModel", "who", "(I)I"⟩
theorem cd_Model_who : Cond.code y_Model_who b_Model_who 2 (some .int) ∈ tbl := tbl_in 1191 (by decide +kernel) rfl
theorem im_Model_who : Cond.instanceMethod y_Model_who ∈ tbl := tbl_in 1189 (by decide +kernel) rfl
theorem se_Model_who : Cond.selects "ShakeHandsModel" y_Model_who y_Model_who ∈ tbl := tbl_in 1190 (by decide +kernel) rfl
abbrev b_Model_isThing : ByteArray := prog_11_method_45_code
def y_Model_isThing : MethodName := ⟨"ShakeHandsModel", "isThing", "(I)Z"⟩
theorem cd_Model_isThing : Cond.code y_Model_isThing b_Model_isThing 1 (some .boolean) ∈ tbl := tbl_in 1194 (by decide +kernel) rfl
theorem st_Model_isThing : Cond.static y_Model_isThing ∈ tbl := tbl_in 1193 (by decide +kernel) rfl
abbrev b_Model_whoNow : ByteArray := prog_11_method_48_code
def y_Model_whoNow : MethodName := ⟨"ShakeHandsModel", "whoNow", "(I)I"⟩
theorem cd_Model_whoNow : Cond.code y_Model_whoNow b_Model_whoNow 2 (some .int) ∈ tbl := tbl_in 1199 (by decide +kernel) rfl
theorem im_Model_whoNow : Cond.instanceMethod y_Model_whoNow ∈ tbl := tbl_in 1198 (by decide +kernel) rfl
theorem se_Model_whoNow : Cond.selects "ShakeHandsModel" y_Model_whoNow y_Model_whoNow ∈ tbl := tbl_sel 54 (by decide +kernel) rfl
abbrev b_Model_whoIn : ByteArray := prog_11_method_41_code
def y_Model_whoIn : MethodName := ⟨"ShakeHandsModel", "whoIn", "(II)I"⟩
theorem cd_Model_whoIn : Cond.code y_Model_whoIn b_Model_whoIn 5 (some .int) ∈ tbl := tbl_in 1203 (by decide +kernel) rfl
theorem im_Model_whoIn : Cond.instanceMethod y_Model_whoIn ∈ tbl := tbl_in 1202 (by decide +kernel) rfl
theorem se_Model_whoIn : Cond.selects "ShakeHandsModel" y_Model_whoIn y_Model_whoIn ∈ tbl := tbl_sel 55 (by decide +kernel) rfl
abbrev b_Model_learn : ByteArray := prog_11_method_53_code
def y_Model_learn : MethodName := ⟨"ShakeHandsModel", "learn", "(II)I"⟩
theorem cd_Model_learn : Cond.code y_Model_learn b_Model_learn 3 (some .int) ∈ tbl := tbl_in 1207 (by decide +kernel) rfl
theorem im_Model_learn : Cond.instanceMethod y_Model_learn ∈ tbl := tbl_in 1205 (by decide +kernel) rfl
theorem se_Model_learn : Cond.selects "ShakeHandsModel" y_Model_learn y_Model_learn ∈ tbl := tbl_in 1206 (by decide +kernel) rfl
abbrev b_Model_knowsIt : ByteArray := prog_11_method_49_code
def y_Model_knowsIt : MethodName := ⟨"ShakeHandsModel", "knowsIt", "(II)Z"⟩
theorem cd_Model_knowsIt : Cond.code y_Model_knowsIt b_Model_knowsIt 3 (some .boolean) ∈ tbl := tbl_in 1211 (by decide +kernel) rfl
theorem im_Model_knowsIt : Cond.instanceMethod y_Model_knowsIt ∈ tbl := tbl_in 1210 (by decide +kernel) rfl
theorem se_Model_knowsIt : Cond.selects "ShakeHandsModel" y_Model_knowsIt y_Model_knowsIt ∈ tbl := tbl_sel 56 (by decide +kernel) rfl
abbrev b_Model_takes : ByteArray := prog_11_method_37_code
def y_Model_takes : MethodName := ⟨"ShakeHandsModel", "takes", "([II)V"⟩
theorem cd_Model_takes : Cond.code y_Model_takes b_Model_takes 4 (none) ∈ tbl := tbl_in 1215 (by decide +kernel) rfl
theorem im_Model_takes : Cond.instanceMethod y_Model_takes ∈ tbl := tbl_in 1214 (by decide +kernel) rfl
theorem se_Model_takes : Cond.selects "ShakeHandsModel" y_Model_takes y_Model_takes ∈ tbl := tbl_sel 57 (by decide +kernel) rfl
abbrev b_Model_adds : ByteArray := prog_11_method_34_code
def y_Model_adds : MethodName := ⟨"ShakeHandsModel", "adds", "(I)V"⟩
theorem cd_Model_adds : Cond.code y_Model_adds b_Model_adds 2 (none) ∈ tbl := tbl_in 1219 (by decide +kernel) rfl
theorem im_Model_adds : Cond.instanceMethod y_Model_adds ∈ tbl := tbl_in 1218 (by decide +kernel) rfl
theorem se_Model_adds : Cond.selects "ShakeHandsModel" y_Model_adds y_Model_adds ∈ tbl := tbl_sel 58 (by decide +kernel) rfl
abbrev b_Model_place : ByteArray := prog_11_method_33_code
def y_Model_place : MethodName := ⟨"ShakeHandsModel", "place", "(I)I"⟩
theorem cd_Model_place : Cond.code y_Model_place b_Model_place 4 (some .int) ∈ tbl := tbl_in 1223 (by decide +kernel) rfl
theorem im_Model_place : Cond.instanceMethod y_Model_place ∈ tbl := tbl_in 1222 (by decide +kernel) rfl
theorem se_Model_place : Cond.selects "ShakeHandsModel" y_Model_place y_Model_place ∈ tbl := tbl_sel 59 (by decide +kernel) rfl
abbrev b_Model_settles : ByteArray := prog_11_method_36_code
def y_Model_settles : MethodName := ⟨"ShakeHandsModel", "settles", "()V"⟩
theorem cd_Model_settles : Cond.code y_Model_settles b_Model_settles 3 (none) ∈ tbl := tbl_in 1227 (by decide +kernel) rfl
theorem im_Model_settles : Cond.instanceMethod y_Model_settles ∈ tbl := tbl_in 1226 (by decide +kernel) rfl
theorem se_Model_settles : Cond.selects "ShakeHandsModel" y_Model_settles y_Model_settles ∈ tbl := tbl_sel 60 (by decide +kernel) rfl
abbrev b_Model_drops : ByteArray := prog_11_method_35_code
def y_Model_drops : MethodName := ⟨"ShakeHandsModel", "drops", "(I)V"⟩
theorem cd_Model_drops : Cond.code y_Model_drops b_Model_drops 3 (none) ∈ tbl := tbl_in 1231 (by decide +kernel) rfl
theorem im_Model_drops : Cond.instanceMethod y_Model_drops ∈ tbl := tbl_in 1230 (by decide +kernel) rfl
theorem se_Model_drops : Cond.selects "ShakeHandsModel" y_Model_drops y_Model_drops ∈ tbl := tbl_sel 61 (by decide +kernel) rfl
abbrev b_Model_puts : ByteArray := prog_11_method_38_code
def y_Model_puts : MethodName := ⟨"ShakeHandsModel", "puts", "([II)V"⟩
theorem cd_Model_puts : Cond.code y_Model_puts b_Model_puts 4 (none) ∈ tbl := tbl_in 1235 (by decide +kernel) rfl
theorem im_Model_puts : Cond.instanceMethod y_Model_puts ∈ tbl := tbl_in 1234 (by decide +kernel) rfl
theorem se_Model_puts : Cond.selects "ShakeHandsModel" y_Model_puts y_Model_puts ∈ tbl := tbl_sel 62 (by decide +kernel) rfl
abbrev b_Model_forget : ByteArray := prog_11_method_54_code
def y_Model_forget : MethodName := ⟨"ShakeHandsModel", "forget", "(II)I"⟩
theorem cd_Model_forget : Cond.code y_Model_forget b_Model_forget 3 (some .int) ∈ tbl := tbl_in 1239 (by decide +kernel) rfl
theorem im_Model_forget : Cond.instanceMethod y_Model_forget ∈ tbl := tbl_in 1237 (by decide +kernel) rfl
theorem se_Model_forget : Cond.selects "ShakeHandsModel" y_Model_forget y_Model_forget ∈ tbl := tbl_in 1238 (by decide +kernel) rfl
abbrev b_Model_glove : ByteArray := prog_11_method_55_code
def y_Model_glove : MethodName := ⟨"ShakeHandsModel", "glove", "(IZ)I"⟩
theorem cd_Model_glove : Cond.code y_Model_glove b_Model_glove 4 (some .int) ∈ tbl := tbl_in 1243 (by decide +kernel) rfl
theorem im_Model_glove : Cond.instanceMethod y_Model_glove ∈ tbl := tbl_in 1241 (by decide +kernel) rfl
theorem se_Model_glove : Cond.selects "ShakeHandsModel" y_Model_glove y_Model_glove ∈ tbl := tbl_in 1242 (by decide +kernel) rfl
abbrev b_Model_shake : ByteArray := prog_11_method_58_code
def y_Model_shake : MethodName := ⟨"ShakeHandsModel", "shake", "(II)I"⟩
theorem cd_Model_shake : Cond.code y_Model_shake b_Model_shake 3 (some .int) ∈ tbl := tbl_in 1247 (by decide +kernel) rfl
theorem im_Model_shake : Cond.instanceMethod y_Model_shake ∈ tbl := tbl_in 1245 (by decide +kernel) rfl
theorem se_Model_shake : Cond.selects "ShakeHandsModel" y_Model_shake y_Model_shake ∈ tbl := tbl_in 1246 (by decide +kernel) rfl
abbrev b_Model_areTwo : ByteArray := prog_11_method_56_code
def y_Model_areTwo : MethodName := ⟨"ShakeHandsModel", "areTwo", "(II)Z"⟩
theorem cd_Model_areTwo : Cond.code y_Model_areTwo b_Model_areTwo 3 (some .boolean) ∈ tbl := tbl_in 1251 (by decide +kernel) rfl
theorem im_Model_areTwo : Cond.instanceMethod y_Model_areTwo ∈ tbl := tbl_in 1250 (by decide +kernel) rfl
theorem se_Model_areTwo : Cond.selects "ShakeHandsModel" y_Model_areTwo y_Model_areTwo ∈ tbl := tbl_sel 63 (by decide +kernel) rfl
abbrev b_Model_shakesNow : ByteArray := prog_11_method_57_code
def y_Model_shakesNow : MethodName := ⟨"ShakeHandsModel", "shakesNow", "(I)V"⟩
theorem cd_Model_shakesNow : Cond.code y_Model_shakesNow b_Model_shakesNow 2 (none) ∈ tbl := tbl_in 1255 (by decide +kernel) rfl
theorem im_Model_shakesNow : Cond.instanceMethod y_Model_shakesNow ∈ tbl := tbl_in 1254 (by decide +kernel) rfl
theorem se_Model_shakesNow : Cond.selects "ShakeHandsModel" y_Model_shakesNow y_Model_shakesNow ∈ tbl := tbl_sel 64 (by decide +kernel) rfl
abbrev b_Model_shakes : ByteArray := prog_11_method_39_code
def y_Model_shakes : MethodName := ⟨"ShakeHandsModel", "shakes", "(III)V"⟩
theorem cd_Model_shakes : Cond.code y_Model_shakes b_Model_shakes 6 (none) ∈ tbl := tbl_in 1259 (by decide +kernel) rfl
theorem im_Model_shakes : Cond.instanceMethod y_Model_shakes ∈ tbl := tbl_in 1258 (by decide +kernel) rfl
theorem se_Model_shakes : Cond.selects "ShakeHandsModel" y_Model_shakes y_Model_shakes ∈ tbl := tbl_sel 65 (by decide +kernel) rfl
abbrev b_Model_becomes : ByteArray := prog_11_method_43_code
def y_Model_becomes : MethodName := ⟨"ShakeHandsModel", "becomes", "(I)V"⟩
theorem cd_Model_becomes : Cond.code y_Model_becomes b_Model_becomes 3 (none) ∈ tbl := tbl_in 1263 (by decide +kernel) rfl
theorem im_Model_becomes : Cond.instanceMethod y_Model_becomes ∈ tbl := tbl_in 1262 (by decide +kernel) rfl
theorem se_Model_becomes : Cond.selects "ShakeHandsModel" y_Model_becomes y_Model_becomes ∈ tbl := tbl_sel 66 (by decide +kernel) rfl
abbrev b_Model_feast : ByteArray := prog_11_method_60_code
def y_Model_feast : MethodName := ⟨"ShakeHandsModel", "feast", "(I)I"⟩
theorem cd_Model_feast : Cond.code y_Model_feast b_Model_feast 3 (some .int) ∈ tbl := tbl_in 1267 (by decide +kernel) rfl
theorem im_Model_feast : Cond.instanceMethod y_Model_feast ∈ tbl := tbl_in 1265 (by decide +kernel) rfl
theorem se_Model_feast : Cond.selects "ShakeHandsModel" y_Model_feast y_Model_feast ∈ tbl := tbl_in 1266 (by decide +kernel) rfl
abbrev b_Model_anyNow : ByteArray := prog_11_method_47_code
def y_Model_anyNow : MethodName := ⟨"ShakeHandsModel", "anyNow", "()I"⟩
theorem cd_Model_anyNow : Cond.code y_Model_anyNow b_Model_anyNow 1 (some .int) ∈ tbl := tbl_in 1271 (by decide +kernel) rfl
theorem im_Model_anyNow : Cond.instanceMethod y_Model_anyNow ∈ tbl := tbl_in 1270 (by decide +kernel) rfl
theorem se_Model_anyNow : Cond.selects "ShakeHandsModel" y_Model_anyNow y_Model_anyNow ∈ tbl := tbl_sel 67 (by decide +kernel) rfl
abbrev b_Model_anyIn : ByteArray := prog_11_method_42_code
def y_Model_anyIn : MethodName := ⟨"ShakeHandsModel", "anyIn", "(I)I"⟩
theorem cd_Model_anyIn : Cond.code y_Model_anyIn b_Model_anyIn 4 (some .int) ∈ tbl := tbl_in 1275 (by decide +kernel) rfl
theorem im_Model_anyIn : Cond.instanceMethod y_Model_anyIn ∈ tbl := tbl_in 1274 (by decide +kernel) rfl
theorem se_Model_anyIn : Cond.selects "ShakeHandsModel" y_Model_anyIn y_Model_anyIn ∈ tbl := tbl_sel 68 (by decide +kernel) rfl
abbrev b_Model_feasts : ByteArray := prog_11_method_59_code
def y_Model_feasts : MethodName := ⟨"ShakeHandsModel", "feasts", "(II)V"⟩
theorem cd_Model_feasts : Cond.code y_Model_feasts b_Model_feasts 4 (none) ∈ tbl := tbl_in 1279 (by decide +kernel) rfl
theorem im_Model_feasts : Cond.instanceMethod y_Model_feasts ∈ tbl := tbl_in 1278 (by decide +kernel) rfl
theorem se_Model_feasts : Cond.selects "ShakeHandsModel" y_Model_feasts y_Model_feasts ∈ tbl := tbl_sel 69 (by decide +kernel) rfl
abbrev b_Model_after : ByteArray := prog_11_method_61_code
def y_Model_after : MethodName := ⟨"ShakeHandsModel", "after", "(II)I"⟩
theorem cd_Model_after : Cond.code y_Model_after b_Model_after 3 (some .int) ∈ tbl := tbl_in 1283 (by decide +kernel) rfl
theorem im_Model_after : Cond.instanceMethod y_Model_after ∈ tbl := tbl_in 1281 (by decide +kernel) rfl
theorem se_Model_after : Cond.selects "ShakeHandsModel" y_Model_after y_Model_after ∈ tbl := tbl_in 1282 (by decide +kernel) rfl
abbrev b_Model_lost : ByteArray := prog_11_method_62_code
def y_Model_lost : MethodName := ⟨"ShakeHandsModel", "lost", "(I)I"⟩
theorem cd_Model_lost : Cond.code y_Model_lost b_Model_lost 3 (some .int) ∈ tbl := tbl_in 1287 (by decide +kernel) rfl
theorem im_Model_lost : Cond.instanceMethod y_Model_lost ∈ tbl := tbl_in 1285 (by decide +kernel) rfl
theorem se_Model_lost : Cond.selects "ShakeHandsModel" y_Model_lost y_Model_lost ∈ tbl := tbl_in 1286 (by decide +kernel) rfl
abbrev b_Model_told : ByteArray := prog_11_method_63_code
def y_Model_told : MethodName := ⟨"ShakeHandsModel", "told", "(II)I"⟩
theorem cd_Model_told : Cond.code y_Model_told b_Model_told 4 (some .int) ∈ tbl := tbl_in 1291 (by decide +kernel) rfl
theorem im_Model_told : Cond.instanceMethod y_Model_told ∈ tbl := tbl_in 1289 (by decide +kernel) rfl
theorem se_Model_told : Cond.selects "ShakeHandsModel" y_Model_told y_Model_told ∈ tbl := tbl_in 1290 (by decide +kernel) rfl
abbrev b_Model_fewest : ByteArray := prog_11_method_74_code
def y_Model_fewest : MethodName := ⟨"ShakeHandsModel", "fewest", "(IIII)I"⟩
theorem cd_Model_fewest : Cond.code y_Model_fewest b_Model_fewest 6 (some .int) ∈ tbl := tbl_in 1295 (by decide +kernel) rfl
theorem im_Model_fewest : Cond.instanceMethod y_Model_fewest ∈ tbl := tbl_in 1293 (by decide +kernel) rfl
theorem se_Model_fewest : Cond.selects "ShakeHandsModel" y_Model_fewest y_Model_fewest ∈ tbl := tbl_in 1294 (by decide +kernel) rfl
abbrev b_Model_areOnes : ByteArray := prog_11_method_71_code
def y_Model_areOnes : MethodName := ⟨"ShakeHandsModel", "areOnes", "(I)Z"⟩
theorem cd_Model_areOnes : Cond.code y_Model_areOnes b_Model_areOnes 2 (some .boolean) ∈ tbl := tbl_in 1299 (by decide +kernel) rfl
theorem im_Model_areOnes : Cond.instanceMethod y_Model_areOnes ∈ tbl := tbl_in 1298 (by decide +kernel) rfl
theorem se_Model_areOnes : Cond.selects "ShakeHandsModel" y_Model_areOnes y_Model_areOnes ∈ tbl := tbl_sel 70 (by decide +kernel) rfl
abbrev b_Model_asks : ByteArray := prog_11_method_72_code
def y_Model_asks : MethodName := ⟨"ShakeHandsModel", "asks", "(IIII)V"⟩
theorem cd_Model_asks : Cond.code y_Model_asks b_Model_asks 5 (none) ∈ tbl := tbl_in 1305 (by decide +kernel) rfl
theorem im_Model_asks : Cond.instanceMethod y_Model_asks ∈ tbl := tbl_in 1304 (by decide +kernel) rfl
theorem se_Model_asks : Cond.selects "ShakeHandsModel" y_Model_asks y_Model_asks ∈ tbl := tbl_sel 71 (by decide +kernel) rfl
abbrev b_Model_fewestHands : ByteArray := prog_11_method_73_code
def y_Model_fewestHands : MethodName := ⟨"ShakeHandsModel", "fewestHands", "()I"⟩
theorem cd_Model_fewestHands : Cond.code y_Model_fewestHands b_Model_fewestHands 2 (some .int) ∈ tbl := tbl_in 1309 (by decide +kernel) rfl
theorem im_Model_fewestHands : Cond.instanceMethod y_Model_fewestHands ∈ tbl := tbl_in 1308 (by decide +kernel) rfl
theorem se_Model_fewestHands : Cond.selects "ShakeHandsModel" y_Model_fewestHands y_Model_fewestHands ∈ tbl := tbl_sel 72 (by decide +kernel) rfl
abbrev b_Model_layRows : ByteArray := prog_11_method_70_code
def y_Model_layRows : MethodName := ⟨"ShakeHandsModel", "layRows", "(IZ)I"⟩
theorem cd_Model_layRows : Cond.code y_Model_layRows b_Model_layRows 5 (some .int) ∈ tbl := tbl_in 1313 (by decide +kernel) rfl
theorem im_Model_layRows : Cond.instanceMethod y_Model_layRows ∈ tbl := tbl_in 1312 (by decide +kernel) rfl
theorem se_Model_layRows : Cond.selects "ShakeHandsModel" y_Model_layRows y_Model_layRows ∈ tbl := tbl_sel 73 (by decide +kernel) rfl
abbrev b_Model_isStill : ByteArray := prog_11_method_66_code
def y_Model_isStill : MethodName := ⟨"ShakeHandsModel", "isStill", "(I)Z"⟩
theorem cd_Model_isStill : Cond.code y_Model_isStill b_Model_isStill 2 (some .boolean) ∈ tbl := tbl_in 1317 (by decide +kernel) rfl
theorem im_Model_isStill : Cond.instanceMethod y_Model_isStill ∈ tbl := tbl_in 1316 (by decide +kernel) rfl
theorem se_Model_isStill : Cond.selects "ShakeHandsModel" y_Model_isStill y_Model_isStill ∈ tbl := tbl_sel 74 (by decide +kernel) rfl
abbrev b_Model_isGood : ByteArray := prog_11_method_68_code
def y_Model_isGood : MethodName := ⟨"ShakeHandsModel", "isGood", "(I)Z"⟩
theorem cd_Model_isGood : Cond.code y_Model_isGood b_Model_isGood 3 (some .boolean) ∈ tbl := tbl_in 1321 (by decide +kernel) rfl
theorem im_Model_isGood : Cond.instanceMethod y_Model_isGood ∈ tbl := tbl_in 1320 (by decide +kernel) rfl
theorem se_Model_isGood : Cond.selects "ShakeHandsModel" y_Model_isGood y_Model_isGood ∈ tbl := tbl_sel 75 (by decide +kernel) rfl
abbrev b_Model_isSeen : ByteArray := prog_11_method_67_code
def y_Model_isSeen : MethodName := ⟨"ShakeHandsModel", "isSeen", "(I)Z"⟩
theorem cd_Model_isSeen : Cond.code y_Model_isSeen b_Model_isSeen 4 (some .boolean) ∈ tbl := tbl_in 1325 (by decide +kernel) rfl
theorem im_Model_isSeen : Cond.instanceMethod y_Model_isSeen ∈ tbl := tbl_in 1324 (by decide +kernel) rfl
theorem se_Model_isSeen : Cond.selects "ShakeHandsModel" y_Model_isSeen y_Model_isSeen ∈ tbl := tbl_sel 76 (by decide +kernel) rfl
abbrev b_Model_aRow : ByteArray := prog_11_method_69_code
def y_Model_aRow : MethodName := ⟨"ShakeHandsModel", "aRow", "(I)V"⟩
theorem cd_Model_aRow : Cond.code y_Model_aRow b_Model_aRow 4 (none) ∈ tbl := tbl_in 1329 (by decide +kernel) rfl
theorem im_Model_aRow : Cond.instanceMethod y_Model_aRow ∈ tbl := tbl_in 1328 (by decide +kernel) rfl
theorem se_Model_aRow : Cond.selects "ShakeHandsModel" y_Model_aRow y_Model_aRow ∈ tbl := tbl_sel 77 (by decide +kernel) rfl
abbrev b_Model_freeFrom : ByteArray := prog_11_method_65_code
def y_Model_freeFrom : MethodName := ⟨"ShakeHandsModel", "freeFrom", "(I)I"⟩
theorem cd_Model_freeFrom : Cond.code y_Model_freeFrom b_Model_freeFrom 3 (some .int) ∈ tbl := tbl_in 1333 (by decide +kernel) rfl
theorem im_Model_freeFrom : Cond.instanceMethod y_Model_freeFrom ∈ tbl := tbl_in 1332 (by decide +kernel) rfl
theorem se_Model_freeFrom : Cond.selects "ShakeHandsModel" y_Model_freeFrom y_Model_freeFrom ∈ tbl := tbl_sel 78 (by decide +kernel) rfl
abbrev b_Model_isFreePair : ByteArray := prog_11_method_64_code
def y_Model_isFreePair : MethodName := ⟨"ShakeHandsModel", "isFreePair", "(I)Z"⟩
theorem cd_Model_isFreePair : Cond.code y_Model_isFreePair b_Model_isFreePair 2 (some .boolean) ∈ tbl := tbl_in 1337 (by decide +kernel) rfl
theorem im_Model_isFreePair : Cond.instanceMethod y_Model_isFreePair ∈ tbl := tbl_in 1336 (by decide +kernel) rfl
theorem se_Model_isFreePair : Cond.selects "ShakeHandsModel" y_Model_isFreePair y_Model_isFreePair ∈ tbl := tbl_sel 79 (by decide +kernel) rfl
abbrev b_Model_copies : ByteArray := prog_11_method_32_code
def y_Model_copies : MethodName := ⟨"ShakeHandsModel", "copies", "(II)V"⟩
theorem cd_Model_copies : Cond.code y_Model_copies b_Model_copies 4 (none) ∈ tbl := tbl_in 1341 (by decide +kernel) rfl
theorem im_Model_copies : Cond.instanceMethod y_Model_copies ∈ tbl := tbl_in 1340 (by decide +kernel) rfl
theorem se_Model_copies : Cond.selects "ShakeHandsModel" y_Model_copies y_Model_copies ∈ tbl := tbl_sel 80 (by decide +kernel) rfl
abbrev b_Model_rounds : ByteArray := prog_11_method_78_code
def y_Model_rounds : MethodName := ⟨"ShakeHandsModel", "rounds", "(III)I"⟩
theorem cd_Model_rounds : Cond.code y_Model_rounds b_Model_rounds 7 (some .int) ∈ tbl := tbl_in 1345 (by decide +kernel) rfl
theorem im_Model_rounds : Cond.instanceMethod y_Model_rounds ∈ tbl := tbl_in 1343 (by decide +kernel) rfl
theorem se_Model_rounds : Cond.selects "ShakeHandsModel" y_Model_rounds y_Model_rounds ∈ tbl := tbl_in 1344 (by decide +kernel) rfl
abbrev b_Model_layRounds : ByteArray := prog_11_method_76_code
def y_Model_layRounds : MethodName := ⟨"ShakeHandsModel", "layRounds", "()V"⟩
theorem cd_Model_layRounds : Cond.code y_Model_layRounds b_Model_layRounds 2 (none) ∈ tbl := tbl_in 1349 (by decide +kernel) rfl
theorem im_Model_layRounds : Cond.instanceMethod y_Model_layRounds ∈ tbl := tbl_in 1348 (by decide +kernel) rfl
theorem se_Model_layRounds : Cond.selects "ShakeHandsModel" y_Model_layRounds y_Model_layRounds ∈ tbl := tbl_sel 81 (by decide +kernel) rfl
abbrev b_Model_isRound : ByteArray := prog_11_method_75_code
def y_Model_isRound : MethodName := ⟨"ShakeHandsModel", "isRound", "(I)Z"⟩
theorem cd_Model_isRound : Cond.code y_Model_isRound b_Model_isRound 5 (some .boolean) ∈ tbl := tbl_in 1354 (by decide +kernel) rfl
theorem im_Model_isRound : Cond.instanceMethod y_Model_isRound ∈ tbl := tbl_in 1353 (by decide +kernel) rfl
theorem se_Model_isRound : Cond.selects "ShakeHandsModel" y_Model_isRound y_Model_isRound ∈ tbl := tbl_sel 82 (by decide +kernel) rfl
abbrev b_Model_goesRound : ByteArray := prog_11_method_77_code
def y_Model_goesRound : MethodName := ⟨"ShakeHandsModel", "goesRound", "(II)V"⟩
theorem cd_Model_goesRound : Cond.code y_Model_goesRound b_Model_goesRound 4 (none) ∈ tbl := tbl_in 1358 (by decide +kernel) rfl
theorem im_Model_goesRound : Cond.instanceMethod y_Model_goesRound ∈ tbl := tbl_in 1357 (by decide +kernel) rfl
theorem se_Model_goesRound : Cond.selects "ShakeHandsModel" y_Model_goesRound y_Model_goesRound ∈ tbl := tbl_sel 83 (by decide +kernel) rfl
abbrev b_Model_lose : ByteArray := prog_11_method_79_code
def y_Model_lose : MethodName := ⟨"ShakeHandsModel", "lose", "(I)I"⟩
theorem cd_Model_lose : Cond.code y_Model_lose b_Model_lose 2 (some .int) ∈ tbl := tbl_in 1362 (by decide +kernel) rfl
theorem im_Model_lose : Cond.instanceMethod y_Model_lose ∈ tbl := tbl_in 1360 (by decide +kernel) rfl
theorem se_Model_lose : Cond.selects "ShakeHandsModel" y_Model_lose y_Model_lose ∈ tbl := tbl_in 1361 (by decide +kernel) rfl
abbrev b_Model_lives : ByteArray := prog_11_method_81_code
def y_Model_lives : MethodName := ⟨"ShakeHandsModel", "lives", "(I)I"⟩
theorem cd_Model_lives : Cond.code y_Model_lives b_Model_lives 3 (some .int) ∈ tbl := tbl_in 1366 (by decide +kernel) rfl
theorem im_Model_lives : Cond.instanceMethod y_Model_lives ∈ tbl := tbl_in 1364 (by decide +kernel) rfl
theorem se_Model_lives : Cond.selects "ShakeHandsModel" y_Model_lives y_Model_lives ∈ tbl := tbl_in 1365 (by decide +kernel) rfl
abbrev b_Model_aDay : ByteArray := prog_11_method_80_code
def y_Model_aDay : MethodName := ⟨"ShakeHandsModel", "aDay", "(I)V"⟩
theorem cd_Model_aDay : Cond.code y_Model_aDay b_Model_aDay 3 (none) ∈ tbl := tbl_in 1370 (by decide +kernel) rfl
theorem im_Model_aDay : Cond.instanceMethod y_Model_aDay ∈ tbl := tbl_in 1369 (by decide +kernel) rfl
theorem se_Model_aDay : Cond.selects "ShakeHandsModel" y_Model_aDay y_Model_aDay ∈ tbl := tbl_sel 84 (by decide +kernel) rfl
abbrev b_Model_comes : ByteArray := prog_11_method_84_code
def y_Model_comes : MethodName := ⟨"ShakeHandsModel", "comes", "(I)I"⟩
theorem cd_Model_comes : Cond.code y_Model_comes b_Model_comes 4 (some .int) ∈ tbl := tbl_in 1374 (by decide +kernel) rfl
theorem im_Model_comes : Cond.instanceMethod y_Model_comes ∈ tbl := tbl_in 1372 (by decide +kernel) rfl
theorem se_Model_comes : Cond.selects "ShakeHandsModel" y_Model_comes y_Model_comes ∈ tbl := tbl_in 1373 (by decide +kernel) rfl
abbrev b_Model_notes : ByteArray := prog_11_method_82_code
def y_Model_notes : MethodName := ⟨"ShakeHandsModel", "notes", "(I)V"⟩
theorem cd_Model_notes : Cond.code y_Model_notes b_Model_notes 6 (none) ∈ tbl := tbl_in 1378 (by decide +kernel) rfl
theorem im_Model_notes : Cond.instanceMethod y_Model_notes ∈ tbl := tbl_in 1377 (by decide +kernel) rfl
theorem se_Model_notes : Cond.selects "ShakeHandsModel" y_Model_notes y_Model_notes ∈ tbl := tbl_sel 85 (by decide +kernel) rfl
abbrev b_Model_isAs : ByteArray := prog_11_method_83_code
def y_Model_isAs : MethodName := ⟨"ShakeHandsModel", "isAs", "(II)Z"⟩
theorem cd_Model_isAs : Cond.code y_Model_isAs b_Model_isAs 5 (some .boolean) ∈ tbl := tbl_in 1383 (by decide +kernel) rfl
theorem im_Model_isAs : Cond.instanceMethod y_Model_isAs ∈ tbl := tbl_in 1382 (by decide +kernel) rfl
theorem se_Model_isAs : Cond.selects "ShakeHandsModel" y_Model_isAs y_Model_isAs ∈ tbl := tbl_sel 86 (by decide +kernel) rfl
abbrev b_Model_days : ByteArray := prog_11_method_85_code
def y_Model_days : MethodName := ⟨"ShakeHandsModel", "days", "(I)I"⟩
theorem cd_Model_days : Cond.code y_Model_days b_Model_days 3 (some .int) ∈ tbl := tbl_in 1387 (by decide +kernel) rfl
theorem im_Model_days : Cond.instanceMethod y_Model_days ∈ tbl := tbl_in 1385 (by decide +kernel) rfl
theorem se_Model_days : Cond.selects "ShakeHandsModel" y_Model_days y_Model_days ∈ tbl := tbl_in 1386 (by decide +kernel) rfl
abbrev b_Model_saw : ByteArray := prog_11_method_87_code
def y_Model_saw : MethodName := ⟨"ShakeHandsModel", "saw", "(II)I"⟩
theorem cd_Model_saw : Cond.code y_Model_saw b_Model_saw 3 (some .int) ∈ tbl := tbl_in 1392 (by decide +kernel) rfl
theorem im_Model_saw : Cond.instanceMethod y_Model_saw ∈ tbl := tbl_in 1390 (by decide +kernel) rfl
theorem se_Model_saw : Cond.selects "ShakeHandsModel" y_Model_saw y_Model_saw ∈ tbl := tbl_in 1391 (by decide +kernel) rfl
abbrev b_Model_seen : ByteArray := prog_11_method_86_code
def y_Model_seen : MethodName := ⟨"ShakeHandsModel", "seen", "()I"⟩
theorem cd_Model_seen : Cond.code y_Model_seen b_Model_seen 3 (some .int) ∈ tbl := tbl_in 1397 (by decide +kernel) rfl
theorem im_Model_seen : Cond.instanceMethod y_Model_seen ∈ tbl := tbl_in 1396 (by decide +kernel) rfl
theorem se_Model_seen : Cond.selects "ShakeHandsModel" y_Model_seen y_Model_seen ∈ tbl := tbl_sel 87 (by decide +kernel) rfl
abbrev b_Model_blind : ByteArray := prog_11_method_88_code
def y_Model_blind : MethodName := ⟨"ShakeHandsModel", "blind", "()I"⟩
theorem cd_Model_blind : Cond.code y_Model_blind b_Model_blind 3 (some .int) ∈ tbl := tbl_in 1401 (by decide +kernel) rfl
theorem im_Model_blind : Cond.instanceMethod y_Model_blind ∈ tbl := tbl_in 1399 (by decide +kernel) rfl
theorem se_Model_blind : Cond.selects "ShakeHandsModel" y_Model_blind y_Model_blind ∈ tbl := tbl_in 1400 (by decide +kernel) rfl
abbrev b_Model_fits : ByteArray := prog_11_method_89_code
def y_Model_fits : MethodName := ⟨"ShakeHandsModel", "fits", "(II)I"⟩
theorem cd_Model_fits : Cond.code y_Model_fits b_Model_fits 4 (some .int) ∈ tbl := tbl_in 1405 (by decide +kernel) rfl
theorem im_Model_fits : Cond.instanceMethod y_Model_fits ∈ tbl := tbl_in 1403 (by decide +kernel) rfl
theorem se_Model_fits : Cond.selects "ShakeHandsModel" y_Model_fits y_Model_fits ∈ tbl := tbl_in 1404 (by decide +kernel) rfl
abbrev b_Model_least : ByteArray := prog_11_method_90_code
def y_Model_least : MethodName := ⟨"ShakeHandsModel", "least", "()I"⟩
theorem cd_Model_least : Cond.code y_Model_least b_Model_least 1 (some .int) ∈ tbl := tbl_in 1410 (by decide +kernel) rfl
theorem im_Model_least : Cond.instanceMethod y_Model_least ∈ tbl := tbl_in 1408 (by decide +kernel) rfl
theorem se_Model_least : Cond.selects "ShakeHandsModel" y_Model_least y_Model_least ∈ tbl := tbl_in 1409 (by decide +kernel) rfl
abbrev b_Model_seats : ByteArray := prog_11_method_92_code
def y_Model_seats : MethodName := ⟨"ShakeHandsModel", "seats", "(III)I"⟩
theorem cd_Model_seats : Cond.code y_Model_seats b_Model_seats 9 (some .int) ∈ tbl := tbl_in 1414 (by decide +kernel) rfl
theorem im_Model_seats : Cond.instanceMethod y_Model_seats ∈ tbl := tbl_in 1412 (by decide +kernel) rfl
theorem se_Model_seats : Cond.selects "ShakeHandsModel" y_Model_seats y_Model_seats ∈ tbl := tbl_in 1413 (by decide +kernel) rfl
abbrev b_Model_sits : ByteArray := prog_11_method_91_code
def y_Model_sits : MethodName := ⟨"ShakeHandsModel", "sits", "(I)V"⟩
theorem cd_Model_sits : Cond.code y_Model_sits b_Model_sits 8 (none) ∈ tbl := tbl_in 1418 (by decide +kernel) rfl
theorem im_Model_sits : Cond.instanceMethod y_Model_sits ∈ tbl := tbl_in 1417 (by decide +kernel) rfl
theorem se_Model_sits : Cond.selects "ShakeHandsModel" y_Model_sits y_Model_sits ∈ tbl := tbl_sel 88 (by decide +kernel) rfl
abbrev b_Model_gloves : ByteArray := prog_11_method_93_code
def y_Model_gloves : MethodName := ⟨"ShakeHandsModel", "gloves", "(III)I"⟩
theorem cd_Model_gloves : Cond.code y_Model_gloves b_Model_gloves 7 (some .int) ∈ tbl := tbl_in 1422 (by decide +kernel) rfl
theorem im_Model_gloves : Cond.instanceMethod y_Model_gloves ∈ tbl := tbl_in 1420 (by decide +kernel) rfl
theorem se_Model_gloves : Cond.selects "ShakeHandsModel" y_Model_gloves y_Model_gloves ∈ tbl := tbl_in 1421 (by decide +kernel) rfl
abbrev b_Model_keep : ByteArray := prog_11_method_94_code
def y_Model_keep : MethodName := ⟨"ShakeHandsModel", "keep", "(I)I"⟩
theorem cd_Model_keep : Cond.code y_Model_keep b_Model_keep 4 (some .int) ∈ tbl := tbl_in 1426 (by decide +kernel) rfl
theorem im_Model_keep : Cond.instanceMethod y_Model_keep ∈ tbl := tbl_in 1424 (by decide +kernel) rfl
theorem se_Model_keep : Cond.selects "ShakeHandsModel" y_Model_keep y_Model_keep ∈ tbl := tbl_in 1425 (by decide +kernel) rfl
abbrev b_Model_back : ByteArray := prog_11_method_95_code
def y_Model_back : MethodName := ⟨"ShakeHandsModel", "back", "(I)I"⟩
theorem cd_Model_back : Cond.code y_Model_back b_Model_back 3 (some .int) ∈ tbl := tbl_in 1430 (by decide +kernel) rfl
theorem im_Model_back : Cond.instanceMethod y_Model_back ∈ tbl := tbl_in 1428 (by decide +kernel) rfl
theorem se_Model_back : Cond.selects "ShakeHandsModel" y_Model_back y_Model_back ∈ tbl := tbl_in 1429 (by decide +kernel) rfl
abbrev b_Model_sheet : ByteArray := prog_11_method_97_code
def y_Model_sheet : MethodName := ⟨"ShakeHandsModel", "sheet", "(III)I"⟩
theorem cd_Model_sheet : Cond.code y_Model_sheet b_Model_sheet 5 (some .int) ∈ tbl := tbl_in 1434 (by decide +kernel) rfl
theorem im_Model_sheet : Cond.instanceMethod y_Model_sheet ∈ tbl := tbl_in 1432 (by decide +kernel) rfl
theorem se_Model_sheet : Cond.selects "ShakeHandsModel" y_Model_sheet y_Model_sheet ∈ tbl := tbl_in 1433 (by decide +kernel) rfl
abbrev b_Model_isSheet : ByteArray := prog_11_method_96_code
def y_Model_isSheet : MethodName := ⟨"ShakeHandsModel", "isSheet", "(II)Z"⟩
theorem cd_Model_isSheet : Cond.code y_Model_isSheet b_Model_isSheet 2 (some .boolean) ∈ tbl := tbl_in 1437 (by decide +kernel) rfl
theorem st_Model_isSheet : Cond.static y_Model_isSheet ∈ tbl := tbl_in 1436 (by decide +kernel) rfl
abbrev b_Model_lay : ByteArray := prog_11_method_98_code
def y_Model_lay : MethodName := ⟨"ShakeHandsModel", "lay", "(III)I"⟩
theorem cd_Model_lay : Cond.code y_Model_lay b_Model_lay 4 (some .int) ∈ tbl := tbl_in 1442 (by decide +kernel) rfl
theorem im_Model_lay : Cond.instanceMethod y_Model_lay ∈ tbl := tbl_in 1440 (by decide +kernel) rfl
theorem se_Model_lay : Cond.selects "ShakeHandsModel" y_Model_lay y_Model_lay ∈ tbl := tbl_in 1441 (by decide +kernel) rfl
abbrev b_Model_read : ByteArray := prog_11_method_99_code
def y_Model_read : MethodName := ⟨"ShakeHandsModel", "read", "(IIII)I"⟩
theorem cd_Model_read : Cond.code y_Model_read b_Model_read 11 (some .int) ∈ tbl := tbl_in 1446 (by decide +kernel) rfl
theorem im_Model_read : Cond.instanceMethod y_Model_read ∈ tbl := tbl_in 1444 (by decide +kernel) rfl
theorem se_Model_read : Cond.selects "ShakeHandsModel" y_Model_read y_Model_read ∈ tbl := tbl_in 1445 (by decide +kernel) rfl
abbrev b_Model_torn : ByteArray := prog_11_method_100_code
def y_Model_torn : MethodName := ⟨"ShakeHandsModel", "torn", "()I"⟩
theorem cd_Model_torn : Cond.code y_Model_torn b_Model_torn 1 (some .int) ∈ tbl := tbl_in 1451 (by decide +kernel) rfl
theorem im_Model_torn : Cond.instanceMethod y_Model_torn ∈ tbl := tbl_in 1449 (by decide +kernel) rfl
theorem se_Model_torn : Cond.selects "ShakeHandsModel" y_Model_torn y_Model_torn ∈ tbl := tbl_in 1450 (by decide +kernel) rfl
abbrev b_Model_count : ByteArray := prog_11_method_101_code
def y_Model_count : MethodName := ⟨"ShakeHandsModel", "count", "(I)I"⟩
theorem cd_Model_count : Cond.code y_Model_count b_Model_count 4 (some .int) ∈ tbl := tbl_in 1455 (by decide +kernel) rfl
theorem im_Model_count : Cond.instanceMethod y_Model_count ∈ tbl := tbl_in 1453 (by decide +kernel) rfl
theorem se_Model_count : Cond.selects "ShakeHandsModel" y_Model_count y_Model_count ∈ tbl := tbl_in 1454 (by decide +kernel) rfl
end
section
/-! THE FLAT MEMORY: a pure picture of all cells of one object and what hangs on it; J: 'if the pure residue is some (r, M'), the machine returns r with M'' -/
abbrev Mem : Type := (Nat → Nat → Int32) × (Nat → Nat → Int64)
abbrev Shp : Type := List (Nat × List Nat)
def si (M : Mem) (a k : Nat) (v : Int32) : Mem := (fun x y => if x = a ∧ y = k then v else M.1 x y, M.2)
def sl (M : Mem) (a k : Nat) (v : Int64) : Mem := (M.1, fun x y => if x = a ∧ y = k then v else M.2 x y)
def cpI (M : Mem) (a sp b dp n : Nat) : Mem := (fun x y => if x = b ∧ dp ≤ y ∧ y < dp + n then M.1 a (sp + (y - dp)) else M.1 x y, M.2)
def cpL (M : Mem) (a sp b dp n : Nat) : Mem := (M.1, fun x y => if x = b ∧ dp ≤ y ∧ y < dp + n then M.2 a (sp + (y - dp)) else M.2 x y)
def rv (ad : Nat → Nat) (v : Value) : Value := match v with
  | .ref a => .ref (ad a)
  | w => w
def rvp (ad : Nat → Nat) (q : Nat × Value) : Nat × Value := (q.1, rv ad q.2)
def fldOf (ad : Nat → Nat) (M : Mem) (a i kd : Nat) : Value := match kd with
  | 0 => .int (M.1 a i)
  | 1 => .long (M.2 a i)
  | r + 2 => .ref (ad r)
def objOf (ad : Nat → Nat) (M : Mem) (a : Nat) (ds : List Nat) : List Value := ds.mapIdx (fun i kd => fldOf ad M a i kd)
def cellOf (ad : Nat → Nat) (dA : Nat → ClassId) (M : Mem) (a : Nat) (q : Nat × List Nat) : va_E :=
  if q.1 < 100 then .inr (q.1, objOf ad M a q.2)
  else if q.1 < 103 then .inl (dA (q.1 - 100), q.2.headD 0, .inl (M.1 a))
  else if q.1 = 103 then .inl (dA 3, q.2.headD 0, .inr (.inl (M.2 a)))
  else .inl (dA (q.1 - 100), q.2.length, .inr (.inr (.inr (.inr (fun j => (q.2[j]?).map ad)))))
def lay (ad : Nat → Nat) (dA : Nat → ClassId) (sh : Shp) (M : Mem) : va_W := sh.mapIdx (fun a q => (ad a, cellOf ad dA M a q))
def tysOf (dA : Nat → ClassId) : List (ClassId × FieldType) := [(dA 0, .int), (dA 1, .byte), (dA 2, .boolean), (dA 3, .long), (dA 4, .object "ShakeHands$Minds"), (dA 5, .object "ShakeHands$Sheet"), (dA 6, .array .long)]
theorem lay_get {ad : Nat → Nat} {dA : Nat → ClassId} {sh : Shp} {M : Mem} {a : Nat} {q : Nat × List Nat} (h : sh[a]? = some q) : (lay ad dA sh M)[a]? = some (ad a, cellOf ad dA M a q) := by
  simp [lay, h]
theorem obj_get {ad : Nat → Nat} {M : Mem} {a k kd : Nat} {ds : List Nat} (h : ds[k]? = some kd) : (objOf ad M a ds)[k]? = some (fldOf ad M a k kd) := by
  simp [objOf, h]
theorem cell_obj {ad : Nat → Nat} {dA : Nat → ClassId} {M : Mem} {a ci : Nat} {ds : List Nat} (h : ci < 100) : cellOf ad dA M a (ci, ds) = .inr (ci, objOf ad M a ds) := by
  simp [cellOf, h]
theorem cell_off {ad : Nat → Nat} {dA : Nat → ClassId} {M M' : Mem} {a : Nat} {q : Nat × List Nat} (h1 : M'.1 a = M.1 a) (h2 : M'.2 a = M.2 a) : cellOf ad dA M' a q = cellOf ad dA M a q := by
  have h : objOf ad M' a q.2 = objOf ad M a q.2 := by
    unfold objOf
    congr 1
    funext i kd
    match kd with
    | 0 => simp [fldOf, h1]
    | 1 => simp [fldOf, h2]
    | r + 2 => rfl
  unfold cellOf
  rw [h, h1, h2]
theorem lay_set {ad : Nat → Nat} {dA : Nat → ClassId} {sh : Shp} {M M' : Mem} {a : Nat} {q : Nat × List Nat} {x : va_E} (h : sh[a]? = some q) (hx : x = cellOf ad dA M' a q) (ho : ∀ j, j ≠ a → M'.1 j = M.1 j ∧ M'.2 j = M.2 j) : (lay ad dA sh M).set a (ad a, x) = lay ad dA sh M' := by
  apply List.ext_getElem?
  intro j
  rw [List.getElem?_set]
  by_cases e : a = j
  · subst e
    have hl : a < (lay ad dA sh M).length := by
      have := (List.getElem?_eq_some_iff.mp (lay_get (ad := ad) (dA := dA) (M := M) h)).1
      exact this
    rw [if_pos rfl, if_pos hl, lay_get h, hx]
  · rw [if_neg e]
    cases hq : sh[j]? with
    | none => simp [lay, hq]
    | some q2 => rw [lay_get hq, lay_get hq, cell_off (ho j (fun e2 => e e2.symm)).1 (ho j (fun e2 => e e2.symm)).2]
theorem obj_set {ad : Nat → Nat} {M M' : Mem} {a k kd : Nat} {ds : List Nat} {v : Value} (h : ds[k]? = some kd) (hv : fldOf ad M' a k kd = v) (ho : ∀ j kd2, j ≠ k → fldOf ad M' a j kd2 = fldOf ad M a j kd2) : (objOf ad M a ds).set k v = objOf ad M' a ds := by
  apply List.ext_getElem?
  intro j
  rw [List.getElem?_set]
  by_cases e : k = j
  · subst e
    have hl : k < (objOf ad M a ds).length := (List.getElem?_eq_some_iff.mp (obj_get (ad := ad) (M := M) (a := a) h)).1
    rw [if_pos rfl, if_pos hl, obj_get h, hv]
  · rw [if_neg e]
    cases hq : ds[j]? with
    | none => simp [objOf, hq]
    | some q2 => rw [obj_get hq, obj_get hq, ho j q2 (fun e2 => e e2.symm)]
theorem si_off {M : Mem} {a k j : Nat} {v : Int32} (h : j ≠ a) : (si M a k v).1 j = M.1 j ∧ (si M a k v).2 j = M.2 j := ⟨by funext y; simp [si, h], rfl⟩
theorem sl_off {M : Mem} {a k j : Nat} {v : Int64} (h : j ≠ a) : (sl M a k v).1 j = M.1 j ∧ (sl M a k v).2 j = M.2 j := ⟨rfl, by funext y; simp [sl, h]⟩
theorem cpI_off {M : Mem} {a sp b dp n j : Nat} (h : j ≠ b) : (cpI M a sp b dp n).1 j = M.1 j ∧ (cpI M a sp b dp n).2 j = M.2 j := ⟨by funext y; simp [cpI, h], rfl⟩
theorem cpL_off {M : Mem} {a sp b dp n j : Nat} (h : j ≠ b) : (cpL M a sp b dp n).1 j = M.1 j ∧ (cpL M a sp b dp n).2 j = M.2 j := ⟨rfl, by funext y; simp [cpL, h]⟩
theorem rv_cat (ad : Nat → Nat) (v : Value) : (rv ad v).category = v.category := by cases v <;> rfl
theorem rv_cats (ad : Nat → Nat) : ∀ st : List Value, ((st.map (rv ad)).map fun v => v.category).sum = (st.map fun v => v.category).sum
  | [] => rfl
  | v :: st => by
    have h := rv_cats ad st
    simp only [List.map_cons, List.sum_cons, rv_cat]
    rw [h]
theorem lvp_get {ad : Nat → Nat} {lv : List (Nat × Value)} {k i : Nat} {v : Value} (h : lv[k]? = some (i, v)) : (lv.map (rvp ad))[k]? = some (i, rv ad v) := by
  rw [List.getElem?_map, h]; rfl
theorem lvp_filter {ad : Nat → Nat} {lv lv' : List (Nat × Value)} {i : Nat} {v : Value} (h : (i, v) :: lv.filter (fun q => !(q.1 == i) && !(q.1 + 1 == i && q.2.category == 2)) = lv') : (i, rv ad v) :: (lv.map (rvp ad)).filter (fun q => !(q.1 == i) && !(q.1 + 1 == i && q.2.category == 2)) = lv'.map (rvp ad) := by
  subst h
  rw [List.map_cons, List.filter_map]
  have e : ((fun q : Nat × Value => !(q.1 == i) && !(q.1 + 1 == i && q.2.category == 2)) ∘ rvp ad) = (fun q : Nat × Value => !(q.1 == i) && !(q.1 + 1 == i && q.2.category == 2)) := by
    funext q
    simp [rvp, rv_cat]
  rw [e]
  rfl
theorem lvp_filter2 {ad : Nat → Nat} {lv lv' : List (Nat × Value)} {i : Nat} {v : Value} {f : Nat × Value → Bool} (hf : ∀ q, f (rvp ad q) = f q) (h : (i, v) :: lv.filter f = lv') : (i, rv ad v) :: (lv.map (rvp ad)).filter f = lv'.map (rvp ad) := by
  subst h
  rw [List.map_cons, List.filter_map]
  have e : f ∘ rvp ad = f := funext hf
  rw [e]
  rfl
theorem lvp_args (ad : Nat → Nat) : ∀ (i : Nat) (vs : List Value), lv_args i (vs.map (rv ad)) = (lv_args i vs).map (rvp ad)
  | _, [] => rfl
  | i, v :: vs => by
    simp only [List.map_cons, lv_args, rv_cat, rvp]
    rw [lvp_args ad _ vs]
theorem lvp_sl (ad : Nat → Nat) (vs : List Value) : (lg_sl (vs.map (rv ad))).length = (lg_sl vs).length := by
  induction vs with
  | nil => rfl
  | cons v vs ih =>
    simp only [lg_sl, List.map_cons, List.flatMap_cons, List.length_append, rv_cat] at ih ⊢
    rw [ih]
    by_cases h : v.category = 2 <;> simp [h]
end
section
/-! J: the machine stands in a method of mt at pc, with locals lv, operand stack st, memory M; F is the pure residue of the method from there on -/
-- a method's constants: its class, code, locals, answer's type, depth of its calls, and the shapes of all cells
abbrev Mt : Type := String × ByteArray × Nat × Option FieldType × Nat × Shp
def lsr : Nat → Int32 := fun j => ([0, 0, 1, 0, 1, 2, 0, 1, 2, 3, 0, 1, 2, 3, 4] : List Int32).getD j 0
def grt : Nat → Int32 := fun j => ([1, 2, 2, 3, 3, 3, 4, 4, 4, 4, 5, 5, 5, 5, 5] : List Int32).getD j 0
def stLen : List Nat := [6, 4, 5, 4, 4, 5, 5]
def stByt : List (List Int32) := [[112, 101, 111, 112, 108, 101], [104, 111, 108, 100], [107, 110, 111, 119, 115], [106, 111, 105, 110], [104, 97, 110, 100], [100, 97, 105, 108, 121], [103, 108, 111, 118, 101]]
def stTxt : List (Nat × String) := [(115, "people"), (123, "hold"), (127, "knows"), (132, "join"), (137, "hand"), (150, "daily"), (157, "glove")]
def nestF : List (String × Nat × String) := [("ShakeHands$Circle", 50, "LESSER"), ("ShakeHands$Circle", 53, "GREATER"), ("ShakeHands$Search", 113, "LESSER"), ("ShakeHands$Search", 116, "GREATER")]
def nestM : List (String × Nat × MethodName) := [("ShakeHands$Search", 146, y_ShakeHands_pairOf), ("ShakeHands$Teller", 206, y_ShakeHands_pairOf)]
/-- what holds of the machine besides the object's own cells: class tables, static arrays, string constants (ids 200, 201, 210.., 220..) -/
def Cx (D : va_G) (ad : Nat → Nat) (dA : Nat → ClassId) (A : Nat → Prop) (U : State) (H : Heap) : Prop :=
  va_K D cl (tysOf dA) U ∧ va_Z "ShakeHands" "LESSER" "[I" (.ref (ad 200)) A U H ∧ va_T .int (ad 200) 15 (fun j => .int (lsr j)) A U H ∧
  va_Z "ShakeHands" "GREATER" "[I" (.ref (ad 201)) A U H ∧ va_T .int (ad 201) 15 (fun j => .int (grt j)) A U H ∧
  vk_S 7 stLen stByt (fun i => ad (210 + i)) (fun i => ad (220 + i)) A U H ∧ (∀ i q, stTxt[i]? = some q → vk_R "ShakeHands$Teller" q.1 q.2 (ad (210 + i)) U) ∧
  va_Z "java/lang/String" "COMPACT_STRINGS" "Z" (.int 1) A U H ∧ (va_Z "jdk/internal/util/Preconditions" "SIOOBE_FORMATTER" "Ljava/util/function/BiFunction;" .null A U H ∨ va_Z "jdk/internal/util/Preconditions" "SIOOBE_FORMATTER" "Ljava/util/function/BiFunction;" (.ref (ad 230)) A U H) ∧
  (∀ q ∈ nestF, va_Nw (.fieldLinkNest q.1 q.2.1 "ShakeHands" q.2.2 "[I" "ShakeHands") U) ∧ (∀ q ∈ nestM, va_Nw (.methodLinkNest q.1 q.2.1 q.2.2 "ShakeHands") U)
theorem Cx.next {D : va_G} {ad : Nat → Nat} {dA : Nat → ClassId} {A : Nat → Prop} {s U : State} {H : Heap} {locs : List Loc} (h : Cx D ad dA A s s.heap) (hS : va_S A s.heap H locs) (hW : s.WarmedH U.vm) : Cx D ad dA A U H := by
  obtain ⟨h1, h2, h3, h4, h5, h6, h7, h8, h9, h10, h11⟩ := h
  have hk : ∀ a : Nat, a < s.heap.size → ¬ A a → H[a]? = s.heap[a]? := hS.2.1
  have hv := hW.alike
  exact ⟨va_K.moved hv h1, va_Z.kept (va_Z.moved hv h2) hk, va_T.kept (va_T.moved hv h3) hk, va_Z.kept (va_Z.moved hv h4) hk, va_T.kept (va_T.moved hv h5) hk, vk_S.kept (vk_S.moved hv h6) hk, fun i q hq => vk_R.warm hW (h7 i q hq), va_Z.kept (va_Z.moved hv h8) hk, Or.imp (fun h => va_Z.kept (va_Z.moved hv h) hk) (fun h => va_Z.kept (va_Z.moved hv h) hk) h9, fun q hq => va_Nw.warmF hW (h10 q hq), fun q hq => va_Nw.warmM hW (h11 q hq)⟩
theorem Cx.blind {D : va_G} {ad : Nat → Nat} {dA : Nat → ClassId} {A : Nat → Prop} {U : State} {g : JFrame} {mk : MethodId} {a : Array Value} (h : Cx D ad dA A U U.heap) : Cx D ad dA A (U.calling g mk a) (U.calling g mk a).heap := by
  obtain ⟨h1, h2, h3, h4, h5, h6, h7, h8, h9, h10, h11⟩ := h
  have hv : U.vm.Alike (U.calling g mk a).vm := Vm.Alike.refl U.vm
  exact ⟨va_K.moved (u := U) hv h1, va_Z.moved (u := U) hv h2, va_T.moved (u := U) hv h3, va_Z.moved (u := U) hv h4, va_T.moved (u := U) hv h5, vk_S.moved (u := U) hv h6, fun i q hq => vk_R.same (u := U) rfl (h7 i q hq), va_Z.moved (u := U) hv h8, Or.imp (fun h => va_Z.moved (u := U) hv h) (fun h => va_Z.moved (u := U) hv h) h9, fun q hq => va_Nw.same rfl rfl (h10 q hq), fun q hq => va_Nw.same rfl rfl (h11 q hq)⟩
def Wd (D : va_G) (ad : Nat → Nat) (dA : Nat → ClassId) (A : Nat → Prop) (sh : Shp) (M : Mem) (H : Heap) : Prop := va_P D cl (lay ad dA sh M) H ∧ va_D A (lay ad dA sh M)
def Qr (wv : Option Value) (Post : State → Prop) (A : Nat → Prop) : Array Value → State → Outcome → State → Prop := fun _ st o t => o = .returned wv ∧ Post t ∧ va_F A st t
def rmc (d mc ms : Nat) : Room := { frames := d, cells := mc, slots := ms, locals := 64 * d }
abbrev rmd (d : Nat) : Room := rmc d 0 0
def Hp (mt : Mt) (p : Program) (s : State) (m : MethodId) (args : Array Value) (meth : Method) (c : Code) (D : va_G) (ad : Nat → Nat) (dA : Nat → ClassId) (A : Nat → Prop) : Prop :=
  p.tables.exec = Jvm.exec ∧ c.code = mt.2.1 ∧ meth.sig.returnType = mt.2.2.2.1 ∧ c.maxLocals = mt.2.2.1 ∧ s.vm.findClass mt.1 = some m.cls ∧ (∀ w ∈ tbl, w.before args s = true) ∧ meth.locks = false ∧ Cx D ad dA A s s.heap
def J {R : Type} (mt : Mt) (wr : R → Option Value) (pc : Nat) (lv : List (Nat × Value)) (st : List Value) (M : Mem) (F : Option (R × Mem)) : Prop :=
  ∀ (r : R) (M' : Mem), F = some (r, M') → ∀ (p : Program) (l : Launch) (e : Env) (s : State) (m : MethodId) (args : Array Value) (below : List Frame) (meth : Method) (c : Code) (D : va_G) (ad : Nat → Nat) (dA : Nat → ClassId) (A : Nat → Prop) (mc ms : Nat), Hp mt p s m args meth c D ad dA A →
    ∀ (H : Heap) (locs : List Loc) (ls : Array Slot), va_P D cl (lay ad dA mt.2.2.2.2.2 M) H → va_D A (lay ad dA mt.2.2.2.2.2 M) → va_S A s.heap H locs → lv_has ls mt.2.2.1 (lv.map (rvp ad)) →
      W p l e (rmc mt.2.2.2.2.1 mc ms) s m args below meth c H locs mc ms (MQ below (Qr (wr r) (fun t => Wd D ad dA A mt.2.2.2.2.2 M' t.heap) A) args s mc ms A) (F0 m pc ls (st.map (rv ad)))
/-- a method's contract -/
def Ct {R : Type} (y : MethodName) (mt : Mt) (wr : R → Option Value) (as : List Value) (M : Mem) (F : Option (R × Mem)) : Prop :=
  ∀ (r : R) (M' : Mem), F = some (r, M') → ∀ (l : Launch) (D : va_G) (ad : Nat → Nat) (dA : Nat → ClassId) (A : Nat → Prop),
    Met l y (.code y mt.2.1 mt.2.2.1 mt.2.2.2.1 :: tbl) (rmd mt.2.2.2.2.1) (va_Pc (as.map (rv ad)) (fun U => Wd D ad dA A mt.2.2.2.2.2 M U.heap ∧ Cx D ad dA A U U.heap)) (Qr (wr r) (fun t => Wd D ad dA A mt.2.2.2.2.2 M' t.heap) A) 0 0 A
theorem ct_of {R : Type} {y : MethodName} {mt : Mt} {wr : R → Option Value} {as : List Value} {M : Mem} {F : Option (R × Mem)} (hy : plainName y.cls = true) (hn : y.cls = mt.1) (hl : (lg_sl as).length ≤ mt.2.2.1) (hJ : J mt wr 0 (lv_args 0 as) [] M F) : Ct y mt wr as M F := by
  intro r M' hF l D ad dA A
  refine Met.ofW (cc := mt.2.1) (maxL := mt.2.2.1) (ret := mt.2.2.2.1) hy rfl ?_
  intro p e s m args below meth c s₁ B hml hv
  obtain ⟨rfl, ⟨hP, hD⟩, hC⟩ := hv
  have hts := atoms_spec (ws := .code y mt.2.1 mt.2.2.1 mt.2.2.2.1 :: tbl) B.pre
  have hown : s.vm.findClass y.cls = some m.cls := findClass_of_methodNamed B.named
  have hS : va_S A s.heap s.heap [] := va_S.rf
  have hls := lv_entry (as.map (rv ad)) (n := mt.2.2.1) (by rw [lvp_sl]; exact hl)
  rw [lg_entry_eq]
  rw [lvp_args] at hls
  exact hJ r M' hF p l e s m _ below meth c D ad dA A 0 0 ⟨B.exec, B.bytes, B.returns, hml, by rw [← hn]; exact hown, fun w h => hts w (List.mem_cons_of_mem _ h), B.notSynchronized, hC⟩ s.heap [] _ hP hD hS hls
end
section
/-! ROWS: an instruction, a row (written by wip/gen/rows.py) -/
theorem j_iadd {R : Type} {mt : Mt} {wr : R → Option Value} {pc : Nat} {lv : List (Nat × Value)} {st : List Value} {M : Mem} {F : Option (R × Mem)} {x y : Int32} (hd : decode mt.2.1 pc = .ok (.iadd, 1)) (K : J mt wr (pc + 1) lv (.int (x + y) :: st) M F) : J mt wr pc lv (.int y :: .int x :: st) M F := by
  intro r M' hF p l e s m args below meth c D ad dA A mc ms hp H locs ls hP hD hS hl
  obtain ⟨hx, hb, hr, hml, hown, hts, hlk, hC⟩ := id hp
  exact lv_iadd hx hb hd (K r M' hF p l e s m args below meth c D ad dA A mc ms hp H locs ls hP hD hS hl)
theorem j_isub {R : Type} {mt : Mt} {wr : R → Option Value} {pc : Nat} {lv : List (Nat × Value)} {st : List Value} {M : Mem} {F : Option (R × Mem)} {x y : Int32} (hd : decode mt.2.1 pc = .ok (.isub, 1)) (K : J mt wr (pc + 1) lv (.int (x - y) :: st) M F) : J mt wr pc lv (.int y :: .int x :: st) M F := by
  intro r M' hF p l e s m args below meth c D ad dA A mc ms hp H locs ls hP hD hS hl
  obtain ⟨hx, hb, hr, hml, hown, hts, hlk, hC⟩ := id hp
  exact lv_isub hx hb hd (K r M' hF p l e s m args below meth c D ad dA A mc ms hp H locs ls hP hD hS hl)
theorem j_imul {R : Type} {mt : Mt} {wr : R → Option Value} {pc : Nat} {lv : List (Nat × Value)} {st : List Value} {M : Mem} {F : Option (R × Mem)} {x y : Int32} (hd : decode mt.2.1 pc = .ok (.imul, 1)) (K : J mt wr (pc + 1) lv (.int (x * y) :: st) M F) : J mt wr pc lv (.int y :: .int x :: st) M F := by
  intro r M' hF p l e s m args below meth c D ad dA A mc ms hp H locs ls hP hD hS hl
  obtain ⟨hx, hb, hr, hml, hown, hts, hlk, hC⟩ := id hp
  exact lv_imul hx hb hd (K r M' hF p l e s m args below meth c D ad dA A mc ms hp H locs ls hP hD hS hl)
theorem j_iand {R : Type} {mt : Mt} {wr : R → Option Value} {pc : Nat} {lv : List (Nat × Value)} {st : List Value} {M : Mem} {F : Option (R × Mem)} {x y : Int32} (hd : decode mt.2.1 pc = .ok (.iand, 1)) (K : J mt wr (pc + 1) lv (.int (x &&& y) :: st) M F) : J mt wr pc lv (.int y :: .int x :: st) M F := by
  intro r M' hF p l e s m args below meth c D ad dA A mc ms hp H locs ls hP hD hS hl
  obtain ⟨hx, hb, hr, hml, hown, hts, hlk, hC⟩ := id hp
  exact lv_iand hx hb hd (K r M' hF p l e s m args below meth c D ad dA A mc ms hp H locs ls hP hD hS hl)
theorem j_ior {R : Type} {mt : Mt} {wr : R → Option Value} {pc : Nat} {lv : List (Nat × Value)} {st : List Value} {M : Mem} {F : Option (R × Mem)} {x y : Int32} (hd : decode mt.2.1 pc = .ok (.ior, 1)) (K : J mt wr (pc + 1) lv (.int (x ||| y) :: st) M F) : J mt wr pc lv (.int y :: .int x :: st) M F := by
  intro r M' hF p l e s m args below meth c D ad dA A mc ms hp H locs ls hP hD hS hl
  obtain ⟨hx, hb, hr, hml, hown, hts, hlk, hC⟩ := id hp
  exact lv_ior hx hb hd (K r M' hF p l e s m args below meth c D ad dA A mc ms hp H locs ls hP hD hS hl)
theorem j_ixor {R : Type} {mt : Mt} {wr : R → Option Value} {pc : Nat} {lv : List (Nat × Value)} {st : List Value} {M : Mem} {F : Option (R × Mem)} {x y : Int32} (hd : decode mt.2.1 pc = .ok (.ixor, 1)) (K : J mt wr (pc + 1) lv (.int (x ^^^ y) :: st) M F) : J mt wr pc lv (.int y :: .int x :: st) M F := by
  intro r M' hF p l e s m args below meth c D ad dA A mc ms hp H locs ls hP hD hS hl
  obtain ⟨hx, hb, hr, hml, hown, hts, hlk, hC⟩ := id hp
  exact lv_ixor hx hb hd (K r M' hF p l e s m args below meth c D ad dA A mc ms hp H locs ls hP hD hS hl)
theorem j_ishl {R : Type} {mt : Mt} {wr : R → Option Value} {pc : Nat} {lv : List (Nat × Value)} {st : List Value} {M : Mem} {F : Option (R × Mem)} {x y : Int32} (hd : decode mt.2.1 pc = .ok (.ishl, 1)) (K : J mt wr (pc + 1) lv (.int (x <<< (y &&& 31)) :: st) M F) : J mt wr pc lv (.int y :: .int x :: st) M F := by
  intro r M' hF p l e s m args below meth c D ad dA A mc ms hp H locs ls hP hD hS hl
  obtain ⟨hx, hb, hr, hml, hown, hts, hlk, hC⟩ := id hp
  exact lv_ishl hx hb hd (K r M' hF p l e s m args below meth c D ad dA A mc ms hp H locs ls hP hD hS hl)
theorem j_ishr {R : Type} {mt : Mt} {wr : R → Option Value} {pc : Nat} {lv : List (Nat × Value)} {st : List Value} {M : Mem} {F : Option (R × Mem)} {x y : Int32} (hd : decode mt.2.1 pc = .ok (.ishr, 1)) (K : J mt wr (pc + 1) lv (.int (x >>> (y &&& 31)) :: st) M F) : J mt wr pc lv (.int y :: .int x :: st) M F := by
  intro r M' hF p l e s m args below meth c D ad dA A mc ms hp H locs ls hP hD hS hl
  obtain ⟨hx, hb, hr, hml, hown, hts, hlk, hC⟩ := id hp
  exact lv_ishr hx hb hd (K r M' hF p l e s m args below meth c D ad dA A mc ms hp H locs ls hP hD hS hl)
theorem j_iushr {R : Type} {mt : Mt} {wr : R → Option Value} {pc : Nat} {lv : List (Nat × Value)} {st : List Value} {M : Mem} {F : Option (R × Mem)} {x y : Int32} (hd : decode mt.2.1 pc = .ok (.iushr, 1)) (K : J mt wr (pc + 1) lv (.int ((x.toUInt32 >>> (y.toUInt32 &&& Int32.toUInt32 31)).toInt32) :: st) M F) : J mt wr pc lv (.int y :: .int x :: st) M F := by
  intro r M' hF p l e s m args below meth c D ad dA A mc ms hp H locs ls hP hD hS hl
  obtain ⟨hx, hb, hr, hml, hown, hts, hlk, hC⟩ := id hp
  exact lv_iushr hx hb hd rfl (K r M' hF p l e s m args below meth c D ad dA A mc ms hp H locs ls hP hD hS hl)
theorem j_ladd {R : Type} {mt : Mt} {wr : R → Option Value} {pc : Nat} {lv : List (Nat × Value)} {st : List Value} {M : Mem} {F : Option (R × Mem)} {x y : Int64} (hd : decode mt.2.1 pc = .ok (.ladd, 1)) (K : J mt wr (pc + 1) lv (.long (x + y) :: st) M F) : J mt wr pc lv (.long y :: .long x :: st) M F := by
  intro r M' hF p l e s m args below meth c D ad dA A mc ms hp H locs ls hP hD hS hl
  obtain ⟨hx, hb, hr, hml, hown, hts, hlk, hC⟩ := id hp
  exact lv_ladd hx hb hd (K r M' hF p l e s m args below meth c D ad dA A mc ms hp H locs ls hP hD hS hl)
theorem j_lsub {R : Type} {mt : Mt} {wr : R → Option Value} {pc : Nat} {lv : List (Nat × Value)} {st : List Value} {M : Mem} {F : Option (R × Mem)} {x y : Int64} (hd : decode mt.2.1 pc = .ok (.lsub, 1)) (K : J mt wr (pc + 1) lv (.long (x - y) :: st) M F) : J mt wr pc lv (.long y :: .long x :: st) M F := by
  intro r M' hF p l e s m args below meth c D ad dA A mc ms hp H locs ls hP hD hS hl
  obtain ⟨hx, hb, hr, hml, hown, hts, hlk, hC⟩ := id hp
  exact lv_lsub hx hb hd (K r M' hF p l e s m args below meth c D ad dA A mc ms hp H locs ls hP hD hS hl)
theorem j_lmul {R : Type} {mt : Mt} {wr : R → Option Value} {pc : Nat} {lv : List (Nat × Value)} {st : List Value} {M : Mem} {F : Option (R × Mem)} {x y : Int64} (hd : decode mt.2.1 pc = .ok (.lmul, 1)) (K : J mt wr (pc + 1) lv (.long (x * y) :: st) M F) : J mt wr pc lv (.long y :: .long x :: st) M F := by
  intro r M' hF p l e s m args below meth c D ad dA A mc ms hp H locs ls hP hD hS hl
  obtain ⟨hx, hb, hr, hml, hown, hts, hlk, hC⟩ := id hp
  exact lv_lmul hx hb hd (K r M' hF p l e s m args below meth c D ad dA A mc ms hp H locs ls hP hD hS hl)
theorem j_land {R : Type} {mt : Mt} {wr : R → Option Value} {pc : Nat} {lv : List (Nat × Value)} {st : List Value} {M : Mem} {F : Option (R × Mem)} {x y : Int64} (hd : decode mt.2.1 pc = .ok (.land, 1)) (K : J mt wr (pc + 1) lv (.long (x &&& y) :: st) M F) : J mt wr pc lv (.long y :: .long x :: st) M F := by
  intro r M' hF p l e s m args below meth c D ad dA A mc ms hp H locs ls hP hD hS hl
  obtain ⟨hx, hb, hr, hml, hown, hts, hlk, hC⟩ := id hp
  exact lv_land hx hb hd (K r M' hF p l e s m args below meth c D ad dA A mc ms hp H locs ls hP hD hS hl)
theorem j_lor {R : Type} {mt : Mt} {wr : R → Option Value} {pc : Nat} {lv : List (Nat × Value)} {st : List Value} {M : Mem} {F : Option (R × Mem)} {x y : Int64} (hd : decode mt.2.1 pc = .ok (.lor, 1)) (K : J mt wr (pc + 1) lv (.long (x ||| y) :: st) M F) : J mt wr pc lv (.long y :: .long x :: st) M F := by
  intro r M' hF p l e s m args below meth c D ad dA A mc ms hp H locs ls hP hD hS hl
  obtain ⟨hx, hb, hr, hml, hown, hts, hlk, hC⟩ := id hp
  exact lv_lor hx hb hd (K r M' hF p l e s m args below meth c D ad dA A mc ms hp H locs ls hP hD hS hl)
theorem j_lxor {R : Type} {mt : Mt} {wr : R → Option Value} {pc : Nat} {lv : List (Nat × Value)} {st : List Value} {M : Mem} {F : Option (R × Mem)} {x y : Int64} (hd : decode mt.2.1 pc = .ok (.lxor, 1)) (K : J mt wr (pc + 1) lv (.long (x ^^^ y) :: st) M F) : J mt wr pc lv (.long y :: .long x :: st) M F := by
  intro r M' hF p l e s m args below meth c D ad dA A mc ms hp H locs ls hP hD hS hl
  obtain ⟨hx, hb, hr, hml, hown, hts, hlk, hC⟩ := id hp
  exact lv_lxor hx hb hd (K r M' hF p l e s m args below meth c D ad dA A mc ms hp H locs ls hP hD hS hl)
theorem j_lshl {R : Type} {mt : Mt} {wr : R → Option Value} {pc : Nat} {lv : List (Nat × Value)} {st : List Value} {M : Mem} {F : Option (R × Mem)} {x : Int64} {y : Int32} (hd : decode mt.2.1 pc = .ok (.lshl, 1)) (K : J mt wr (pc + 1) lv (.long (x <<< (y.toInt64 &&& 63)) :: st) M F) : J mt wr pc lv (.int y :: .long x :: st) M F := by
  intro r M' hF p l e s m args below meth c D ad dA A mc ms hp H locs ls hP hD hS hl
  obtain ⟨hx, hb, hr, hml, hown, hts, hlk, hC⟩ := id hp
  exact lv_lshl hx hb hd rfl (K r M' hF p l e s m args below meth c D ad dA A mc ms hp H locs ls hP hD hS hl)
theorem j_lshr {R : Type} {mt : Mt} {wr : R → Option Value} {pc : Nat} {lv : List (Nat × Value)} {st : List Value} {M : Mem} {F : Option (R × Mem)} {x : Int64} {y : Int32} (hd : decode mt.2.1 pc = .ok (.lshr, 1)) (K : J mt wr (pc + 1) lv (.long (x >>> (y.toInt64 &&& 63)) :: st) M F) : J mt wr pc lv (.int y :: .long x :: st) M F := by
  intro r M' hF p l e s m args below meth c D ad dA A mc ms hp H locs ls hP hD hS hl
  obtain ⟨hx, hb, hr, hml, hown, hts, hlk, hC⟩ := id hp
  exact lv_lshr hx hb hd rfl (K r M' hF p l e s m args below meth c D ad dA A mc ms hp H locs ls hP hD hS hl)
theorem j_lushr {R : Type} {mt : Mt} {wr : R → Option Value} {pc : Nat} {lv : List (Nat × Value)} {st : List Value} {M : Mem} {F : Option (R × Mem)} {x : Int64} {y : Int32} (hd : decode mt.2.1 pc = .ok (.lushr, 1)) (K : J mt wr (pc + 1) lv (.long ((x.toUInt64 >>> (y.toInt64.toUInt64 &&& Int64.toUInt64 63)).toInt64) :: st) M F) : J mt wr pc lv (.int y :: .long x :: st) M F := by
  intro r M' hF p l e s m args below meth c D ad dA A mc ms hp H locs ls hP hD hS hl
  obtain ⟨hx, hb, hr, hml, hown, hts, hlk, hC⟩ := id hp
  exact lv_lushr hx hb hd rfl (K r M' hF p l e s m args below meth c D ad dA A mc ms hp H locs ls hP hD hS hl)
theorem j_lcmp {R : Type} {mt : Mt} {wr : R → Option Value} {pc : Nat} {lv : List (Nat × Value)} {st : List Value} {M : Mem} {F : Option (R × Mem)} {x y : Int64} (hd : decode mt.2.1 pc = .ok (.lcmp, 1)) (K : J mt wr (pc + 1) lv (.int (lg_cmp x y) :: st) M F) : J mt wr pc lv (.long y :: .long x :: st) M F := by
  intro r M' hF p l e s m args below meth c D ad dA A mc ms hp H locs ls hP hD hS hl
  obtain ⟨hx, hb, hr, hml, hown, hts, hlk, hC⟩ := id hp
  exact W.lcmp hx hb hd (K r M' hF p l e s m args below meth c D ad dA A mc ms hp H locs ls hP hD hS hl)
theorem j_i2l {R : Type} {mt : Mt} {wr : R → Option Value} {pc : Nat} {lv : List (Nat × Value)} {st : List Value} {M : Mem} {F : Option (R × Mem)} {x : Int32} (hd : decode mt.2.1 pc = .ok (.i2l, 1)) (K : J mt wr (pc + 1) lv (.long x.toInt64 :: st) M F) : J mt wr pc lv (.int x :: st) M F := by
  intro r M' hF p l e s m args below meth c D ad dA A mc ms hp H locs ls hP hD hS hl
  obtain ⟨hx, hb, hr, hml, hown, hts, hlk, hC⟩ := id hp
  exact lv_i2l hx hb hd rfl (K r M' hF p l e s m args below meth c D ad dA A mc ms hp H locs ls hP hD hS hl)
theorem j_l2i {R : Type} {mt : Mt} {wr : R → Option Value} {pc : Nat} {lv : List (Nat × Value)} {st : List Value} {M : Mem} {F : Option (R × Mem)} {x : Int64} (hd : decode mt.2.1 pc = .ok (.l2i, 1)) (K : J mt wr (pc + 1) lv (.int x.toInt32 :: st) M F) : J mt wr pc lv (.long x :: st) M F := by
  intro r M' hF p l e s m args below meth c D ad dA A mc ms hp H locs ls hP hD hS hl
  obtain ⟨hx, hb, hr, hml, hown, hts, hlk, hC⟩ := id hp
  exact lv_l2i hx hb hd rfl (K r M' hF p l e s m args below meth c D ad dA A mc ms hp H locs ls hP hD hS hl)
theorem j_i2b {R : Type} {mt : Mt} {wr : R → Option Value} {pc : Nat} {lv : List (Nat × Value)} {st : List Value} {M : Mem} {F : Option (R × Mem)} {x : Int32} (hd : decode mt.2.1 pc = .ok (.i2b, 1)) (K : J mt wr (pc + 1) lv (.int x.toInt8.toInt32 :: st) M F) : J mt wr pc lv (.int x :: st) M F := by
  intro r M' hF p l e s m args below meth c D ad dA A mc ms hp H locs ls hP hD hS hl
  obtain ⟨hx, hb, hr, hml, hown, hts, hlk, hC⟩ := id hp
  exact lv_i2b hx hb hd rfl (K r M' hF p l e s m args below meth c D ad dA A mc ms hp H locs ls hP hD hS hl)
theorem j_i2s {R : Type} {mt : Mt} {wr : R → Option Value} {pc : Nat} {lv : List (Nat × Value)} {st : List Value} {M : Mem} {F : Option (R × Mem)} {x : Int32} (hd : decode mt.2.1 pc = .ok (.i2s, 1)) (K : J mt wr (pc + 1) lv (.int x.toInt16.toInt32 :: st) M F) : J mt wr pc lv (.int x :: st) M F := by
  intro r M' hF p l e s m args below meth c D ad dA A mc ms hp H locs ls hP hD hS hl
  obtain ⟨hx, hb, hr, hml, hown, hts, hlk, hC⟩ := id hp
  exact lv_i2s hx hb hd rfl (K r M' hF p l e s m args below meth c D ad dA A mc ms hp H locs ls hP hD hS hl)
theorem j_i2c {R : Type} {mt : Mt} {wr : R → Option Value} {pc : Nat} {lv : List (Nat × Value)} {st : List Value} {M : Mem} {F : Option (R × Mem)} {x : Int32} (hd : decode mt.2.1 pc = .ok (.i2c, 1)) (K : J mt wr (pc + 1) lv (.int (x.toUInt32 % 65536).toInt32 :: st) M F) : J mt wr pc lv (.int x :: st) M F := by
  intro r M' hF p l e s m args below meth c D ad dA A mc ms hp H locs ls hP hD hS hl
  obtain ⟨hx, hb, hr, hml, hown, hts, hlk, hC⟩ := id hp
  exact lv_i2c hx hb hd rfl (K r M' hF p l e s m args below meth c D ad dA A mc ms hp H locs ls hP hD hS hl)
theorem j_dup {R : Type} {mt : Mt} {wr : R → Option Value} {pc : Nat} {lv : List (Nat × Value)} {st : List Value} {M : Mem} {F : Option (R × Mem)} {v : Value} (hd : decode mt.2.1 pc = .ok (.dup, 1)) (hv : v.category = 1) (K : J mt wr (pc + 1) lv (v :: v :: st) M F) : J mt wr pc lv (v :: st) M F := by
  intro r M' hF p l e s m args below meth c D ad dA A mc ms hp H locs ls hP hD hS hl
  obtain ⟨hx, hb, hr, hml, hown, hts, hlk, hC⟩ := id hp
  exact lv_dup hx hb hd ((rv_cat ad v).trans hv) (K r M' hF p l e s m args below meth c D ad dA A mc ms hp H locs ls hP hD hS hl)
theorem j_pop {R : Type} {mt : Mt} {wr : R → Option Value} {pc : Nat} {lv : List (Nat × Value)} {st : List Value} {M : Mem} {F : Option (R × Mem)} {v : Value} (hd : decode mt.2.1 pc = .ok (.pop, 1)) (hv : v.category = 1) (K : J mt wr (pc + 1) lv (st) M F) : J mt wr pc lv (v :: st) M F := by
  intro r M' hF p l e s m args below meth c D ad dA A mc ms hp H locs ls hP hD hS hl
  obtain ⟨hx, hb, hr, hml, hown, hts, hlk, hC⟩ := id hp
  exact lv_pop hx hb hd ((rv_cat ad v).trans hv) (K r M' hF p l e s m args below meth c D ad dA A mc ms hp H locs ls hP hD hS hl)
theorem j_iconst {R : Type} {mt : Mt} {wr : R → Option Value} {pc : Nat} {lv : List (Nat × Value)} {st : List Value} {M : Mem} {F : Option (R × Mem)} {n : Int} {v : Int32} (hd : decode mt.2.1 pc = .ok (.iconst n, 1)) (hv : Int32.ofInt n = v) (K : J mt wr (pc + 1) lv (.int v :: st) M F) : J mt wr pc lv (st) M F := by
  intro r M' hF p l e s m args below meth c D ad dA A mc ms hp H locs ls hP hD hS hl
  obtain ⟨hx, hb, hr, hml, hown, hts, hlk, hC⟩ := id hp
  exact lv_iconst hx hb hd hv (K r M' hF p l e s m args below meth c D ad dA A mc ms hp H locs ls hP hD hS hl)
theorem j_bipush {R : Type} {mt : Mt} {wr : R → Option Value} {pc : Nat} {lv : List (Nat × Value)} {st : List Value} {M : Mem} {F : Option (R × Mem)} {n : Int} {v : Int32} (hd : decode mt.2.1 pc = .ok (.bipush n, 2)) (hv : (Int8.ofInt n).toInt32 = v) (K : J mt wr (pc + 2) lv (.int v :: st) M F) : J mt wr pc lv (st) M F := by
  intro r M' hF p l e s m args below meth c D ad dA A mc ms hp H locs ls hP hD hS hl
  obtain ⟨hx, hb, hr, hml, hown, hts, hlk, hC⟩ := id hp
  exact lv_bipush hx hb hd hv (K r M' hF p l e s m args below meth c D ad dA A mc ms hp H locs ls hP hD hS hl)
theorem j_sipush {R : Type} {mt : Mt} {wr : R → Option Value} {pc : Nat} {lv : List (Nat × Value)} {st : List Value} {M : Mem} {F : Option (R × Mem)} {n : Int} {v : Int32} (hd : decode mt.2.1 pc = .ok (.sipush n, 3)) (hv : (Int16.ofInt n).toInt32 = v) (K : J mt wr (pc + 3) lv (.int v :: st) M F) : J mt wr pc lv (st) M F := by
  intro r M' hF p l e s m args below meth c D ad dA A mc ms hp H locs ls hP hD hS hl
  obtain ⟨hx, hb, hr, hml, hown, hts, hlk, hC⟩ := id hp
  exact lv_sipush hx hb hd hv (K r M' hF p l e s m args below meth c D ad dA A mc ms hp H locs ls hP hD hS hl)
theorem j_lconst {R : Type} {mt : Mt} {wr : R → Option Value} {pc : Nat} {lv : List (Nat × Value)} {st : List Value} {M : Mem} {F : Option (R × Mem)} {n : Fin 2} {v : Int64} (hd : decode mt.2.1 pc = .ok (.lconst n, 1)) (hv : Int64.ofNat (n : Nat) = v) (K : J mt wr (pc + 1) lv (.long v :: st) M F) : J mt wr pc lv (st) M F := by
  intro r M' hF p l e s m args below meth c D ad dA A mc ms hp H locs ls hP hD hS hl
  obtain ⟨hx, hb, hr, hml, hown, hts, hlk, hC⟩ := id hp
  exact lv_lconst hx hb hd hv (K r M' hF p l e s m args below meth c D ad dA A mc ms hp H locs ls hP hD hS hl)
theorem j_idiv {R : Type} {mt : Mt} {wr : R → Option Value} {pc : Nat} {lv : List (Nat × Value)} {st : List Value} {M : Mem} {F : Option (R × Mem)} {x y : Int32} (hd : decode mt.2.1 pc = .ok (.idiv, 1)) (K : ¬ y = 0 → J mt wr (pc + 1) lv (.int (x / y) :: st) M F) : J mt wr pc lv (.int y :: .int x :: st) M (if y = 0 then none else F) := by
  intro r M' hF0
  by_cases hy : y = 0
  · rw [if_pos hy] at hF0; cases hF0
  rw [if_neg hy] at hF0
  revert hF0
  revert r M'
  show J _ _ _ _ _ _ _
  intro r M' hF p l e s m args below meth c D ad dA A mc ms hp H locs ls hP hD hS hl
  obtain ⟨hx, hb, hr, hml, hown, hts, hlk, hC⟩ := id hp
  exact lv_idiv hx hb hd hy ((K hy) r M' hF p l e s m args below meth c D ad dA A mc ms hp H locs ls hP hD hS hl)
theorem j_irem {R : Type} {mt : Mt} {wr : R → Option Value} {pc : Nat} {lv : List (Nat × Value)} {st : List Value} {M : Mem} {F : Option (R × Mem)} {x y : Int32} (hd : decode mt.2.1 pc = .ok (.irem, 1)) (K : ¬ y = 0 → J mt wr (pc + 1) lv (.int (x - x / y * y) :: st) M F) : J mt wr pc lv (.int y :: .int x :: st) M (if y = 0 then none else F) := by
  intro r M' hF0
  by_cases hy : y = 0
  · rw [if_pos hy] at hF0; cases hF0
  rw [if_neg hy] at hF0
  revert hF0
  revert r M'
  show J _ _ _ _ _ _ _
  intro r M' hF p l e s m args below meth c D ad dA A mc ms hp H locs ls hP hD hS hl
  obtain ⟨hx, hb, hr, hml, hown, hts, hlk, hC⟩ := id hp
  exact lv_irem hx hb hd hy ((K hy) r M' hF p l e s m args below meth c D ad dA A mc ms hp H locs ls hP hD hS hl)
theorem j_ldc {R : Type} {mt : Mt} {wr : R → Option Value} {pc : Nat} {lv : List (Nat × Value)} {st : List Value} {M : Mem} {F : Option (R × Mem)} {own : String} {i : Nat} {v : Int32} (hd : decode mt.2.1 pc = .ok (.ldc i, 2)) (hw : Cond.constant mt.1 i v ∈ tbl) (K : J mt wr (pc + 2) lv (.int v :: st) M F) : J mt wr pc lv st M F := by
  intro r M' hF p l e s m args below meth c D ad dA A mc ms hp H locs ls hP hD hS hl
  obtain ⟨hx, hb, hr, hml, hown, hts, hlk, hC⟩ := id hp
  exact lv_ldc hx hb hown (hts _ hw) hd (K r M' hF p l e s m args below meth c D ad dA A mc ms hp H locs ls hP hD hS hl)
theorem j_ldcw {R : Type} {mt : Mt} {wr : R → Option Value} {pc : Nat} {lv : List (Nat × Value)} {st : List Value} {M : Mem} {F : Option (R × Mem)} {own : String} {i : Nat} {v : Int32} (hd : decode mt.2.1 pc = .ok (.ldc_w i, 3)) (hw : Cond.constant mt.1 i v ∈ tbl) (K : J mt wr (pc + 3) lv (.int v :: st) M F) : J mt wr pc lv st M F := by
  intro r M' hF p l e s m args below meth c D ad dA A mc ms hp H locs ls hP hD hS hl
  obtain ⟨hx, hb, hr, hml, hown, hts, hlk, hC⟩ := id hp
  exact lv_ldcw hx hb hown (hts _ hw) hd (K r M' hF p l e s m args below meth c D ad dA A mc ms hp H locs ls hP hD hS hl)
theorem j_ldc2 {R : Type} {mt : Mt} {wr : R → Option Value} {pc : Nat} {lv : List (Nat × Value)} {st : List Value} {M : Mem} {F : Option (R × Mem)} {i : Nat} {v : Int64} (hd : decode mt.2.1 pc = .ok (.ldc2_w i, 3)) (hw : Cond.constantLong mt.1 i v ∈ tbl) (K : J mt wr (pc + 3) lv (.long v :: st) M F) : J mt wr pc lv st M F := by
  intro r M' hF p l e s m args below meth c D ad dA A mc ms hp H locs ls hP hD hS hl
  obtain ⟨hx, hb, hr, hml, hown, hts, hlk, hC⟩ := id hp
  exact lv_ldc2 hx hb hown (hts _ hw) hd (K r M' hF p l e s m args below meth c D ad dA A mc ms hp H locs ls hP hD hS hl)
theorem j_iload_n {R : Type} {mt : Mt} {wr : R → Option Value} {pc : Nat} {lv : List (Nat × Value)} {st : List Value} {M : Mem} {F : Option (R × Mem)} {k : Fin 4} {i q : Nat} {x : Int32} (hd : decode mt.2.1 pc = .ok (.iload_n k, 1)) (hi : (k : Nat) = i) (hq : lv[q]? = some (i, .int x)) (K : J mt wr (pc + 1) lv (.int x :: st) M F) : J mt wr pc lv st M F := by
  intro r M' hF p l e s m args below meth c D ad dA A mc ms hp H locs ls hP hD hS hl
  obtain ⟨hx, hb, hr, hml, hown, hts, hlk, hC⟩ := id hp
  exact lv_iload_n hx hb hd hi (lv_at hl q (lvp_get hq)) (K r M' hF p l e s m args below meth c D ad dA A mc ms hp H locs ls hP hD hS hl)
theorem j_iload {R : Type} {mt : Mt} {wr : R → Option Value} {pc : Nat} {lv : List (Nat × Value)} {st : List Value} {M : Mem} {F : Option (R × Mem)} {i q : Nat} {x : Int32} (hd : decode mt.2.1 pc = .ok (.iload i, 2)) (hq : lv[q]? = some (i, .int x)) (K : J mt wr (pc + 2) lv (.int x :: st) M F) : J mt wr pc lv st M F := by
  intro r M' hF p l e s m args below meth c D ad dA A mc ms hp H locs ls hP hD hS hl
  obtain ⟨hx, hb, hr, hml, hown, hts, hlk, hC⟩ := id hp
  exact lv_iload hx hb hd (lv_at hl q (lvp_get hq)) (K r M' hF p l e s m args below meth c D ad dA A mc ms hp H locs ls hP hD hS hl)
theorem j_lload_n {R : Type} {mt : Mt} {wr : R → Option Value} {pc : Nat} {lv : List (Nat × Value)} {st : List Value} {M : Mem} {F : Option (R × Mem)} {k : Fin 4} {i q : Nat} {x : Int64} (hd : decode mt.2.1 pc = .ok (.lload_n k, 1)) (hi : (k : Nat) = i) (hq : lv[q]? = some (i, .long x)) (K : J mt wr (pc + 1) lv (.long x :: st) M F) : J mt wr pc lv st M F := by
  intro r M' hF p l e s m args below meth c D ad dA A mc ms hp H locs ls hP hD hS hl
  obtain ⟨hx, hb, hr, hml, hown, hts, hlk, hC⟩ := id hp
  exact lv_lload_n hx hb hd hi (lv_at hl q (lvp_get hq)) (K r M' hF p l e s m args below meth c D ad dA A mc ms hp H locs ls hP hD hS hl)
theorem j_lload {R : Type} {mt : Mt} {wr : R → Option Value} {pc : Nat} {lv : List (Nat × Value)} {st : List Value} {M : Mem} {F : Option (R × Mem)} {i q : Nat} {x : Int64} (hd : decode mt.2.1 pc = .ok (.lload i, 2)) (hq : lv[q]? = some (i, .long x)) (K : J mt wr (pc + 2) lv (.long x :: st) M F) : J mt wr pc lv st M F := by
  intro r M' hF p l e s m args below meth c D ad dA A mc ms hp H locs ls hP hD hS hl
  obtain ⟨hx, hb, hr, hml, hown, hts, hlk, hC⟩ := id hp
  exact lv_lload hx hb hd (lv_at hl q (lvp_get hq)) (K r M' hF p l e s m args below meth c D ad dA A mc ms hp H locs ls hP hD hS hl)
theorem j_aload_n {R : Type} {mt : Mt} {wr : R → Option Value} {pc : Nat} {lv : List (Nat × Value)} {st : List Value} {M : Mem} {F : Option (R × Mem)} {k : Fin 4} {i q : Nat} {x : Nat} (hd : decode mt.2.1 pc = .ok (.aload_n k, 1)) (hi : (k : Nat) = i) (hq : lv[q]? = some (i, .ref x)) (K : J mt wr (pc + 1) lv (.ref x :: st) M F) : J mt wr pc lv st M F := by
  intro r M' hF p l e s m args below meth c D ad dA A mc ms hp H locs ls hP hD hS hl
  obtain ⟨hx, hb, hr, hml, hown, hts, hlk, hC⟩ := id hp
  exact lv_aload_n hx hb hd hi (lv_at hl q (lvp_get hq)) (K r M' hF p l e s m args below meth c D ad dA A mc ms hp H locs ls hP hD hS hl)
theorem j_aload {R : Type} {mt : Mt} {wr : R → Option Value} {pc : Nat} {lv : List (Nat × Value)} {st : List Value} {M : Mem} {F : Option (R × Mem)} {i q : Nat} {x : Nat} (hd : decode mt.2.1 pc = .ok (.aload i, 2)) (hq : lv[q]? = some (i, .ref x)) (K : J mt wr (pc + 2) lv (.ref x :: st) M F) : J mt wr pc lv st M F := by
  intro r M' hF p l e s m args below meth c D ad dA A mc ms hp H locs ls hP hD hS hl
  obtain ⟨hx, hb, hr, hml, hown, hts, hlk, hC⟩ := id hp
  exact lv_aload hx hb hd (lv_at hl q (lvp_get hq)) (K r M' hF p l e s m args below meth c D ad dA A mc ms hp H locs ls hP hD hS hl)
theorem j_istore_n {R : Type} {mt : Mt} {wr : R → Option Value} {pc : Nat} {lv : List (Nat × Value)} {st : List Value} {M : Mem} {F : Option (R × Mem)} {k : Fin 4} {i : Nat} {x : Int32} {lv' : List (Nat × Value)} (hd : decode mt.2.1 pc = .ok (.istore_n k, 1)) (hi : (k : Nat) = i) (hn : i < mt.2.2.1) (h : (i, Value.int x) :: lv.filter (fun q => !(q.1 == i) && !(q.1 + 1 == i && q.2.category == 2)) = lv') (K : J mt wr (pc + 1) lv' st M F) : J mt wr pc lv (.int x :: st) M F := by
  intro r M' hF p l e s m args below meth c D ad dA A mc ms hp H locs ls hP hD hS hl
  obtain ⟨hx, hb, hr, hml, hown, hts, hlk, hC⟩ := id hp
  exact lv_istore_n hx hb hd hi hl hn (lvp_filter h) (fun ls2 hl2 => K r M' hF p l e s m args below meth c D ad dA A mc ms hp H locs ls2 hP hD hS hl2)
theorem j_istore {R : Type} {mt : Mt} {wr : R → Option Value} {pc : Nat} {lv : List (Nat × Value)} {st : List Value} {M : Mem} {F : Option (R × Mem)} {i : Nat} {x : Int32} {lv' : List (Nat × Value)} (hd : decode mt.2.1 pc = .ok (.istore i, 2)) (hn : i < mt.2.2.1) (h : (i, Value.int x) :: lv.filter (fun q => !(q.1 == i) && !(q.1 + 1 == i && q.2.category == 2)) = lv') (K : J mt wr (pc + 2) lv' st M F) : J mt wr pc lv (.int x :: st) M F := by
  intro r M' hF p l e s m args below meth c D ad dA A mc ms hp H locs ls hP hD hS hl
  obtain ⟨hx, hb, hr, hml, hown, hts, hlk, hC⟩ := id hp
  exact lv_istore hx hb hd hl hn (lvp_filter h) (fun ls2 hl2 => K r M' hF p l e s m args below meth c D ad dA A mc ms hp H locs ls2 hP hD hS hl2)
theorem j_lstore_n {R : Type} {mt : Mt} {wr : R → Option Value} {pc : Nat} {lv : List (Nat × Value)} {st : List Value} {M : Mem} {F : Option (R × Mem)} {k : Fin 4} {i : Nat} {x : Int64} {lv' : List (Nat × Value)} (hd : decode mt.2.1 pc = .ok (.lstore_n k, 1)) (hi : (k : Nat) = i) (hn : i + 1 < mt.2.2.1) (h : (i, Value.long x) :: lv.filter (fun q => !(q.1 == i) && (!(q.1 == i + 1) && !(q.1 + 1 == i && q.2.category == 2))) = lv') (K : J mt wr (pc + 1) lv' st M F) : J mt wr pc lv (.long x :: st) M F := by
  intro r M' hF p l e s m args below meth c D ad dA A mc ms hp H locs ls hP hD hS hl
  obtain ⟨hx, hb, hr, hml, hown, hts, hlk, hC⟩ := id hp
  exact lv_lstore_n hx hb hd hi hl hn (lvp_filter2 (fun q => by simp [rvp, rv_cat]) h) (fun ls2 hl2 => K r M' hF p l e s m args below meth c D ad dA A mc ms hp H locs ls2 hP hD hS hl2)
theorem j_lstore {R : Type} {mt : Mt} {wr : R → Option Value} {pc : Nat} {lv : List (Nat × Value)} {st : List Value} {M : Mem} {F : Option (R × Mem)} {i : Nat} {x : Int64} {lv' : List (Nat × Value)} (hd : decode mt.2.1 pc = .ok (.lstore i, 2)) (hn : i + 1 < mt.2.2.1) (h : (i, Value.long x) :: lv.filter (fun q => !(q.1 == i) && (!(q.1 == i + 1) && !(q.1 + 1 == i && q.2.category == 2))) = lv') (K : J mt wr (pc + 2) lv' st M F) : J mt wr pc lv (.long x :: st) M F := by
  intro r M' hF p l e s m args below meth c D ad dA A mc ms hp H locs ls hP hD hS hl
  obtain ⟨hx, hb, hr, hml, hown, hts, hlk, hC⟩ := id hp
  exact lv_lstore hx hb hd hl hn (lvp_filter2 (fun q => by simp [rvp, rv_cat]) h) (fun ls2 hl2 => K r M' hF p l e s m args below meth c D ad dA A mc ms hp H locs ls2 hP hD hS hl2)
theorem j_astore_n {R : Type} {mt : Mt} {wr : R → Option Value} {pc : Nat} {lv : List (Nat × Value)} {st : List Value} {M : Mem} {F : Option (R × Mem)} {k : Fin 4} {i : Nat} {x : Nat} {lv' : List (Nat × Value)} (hd : decode mt.2.1 pc = .ok (.astore_n k, 1)) (hi : (k : Nat) = i) (hn : i < mt.2.2.1) (h : (i, Value.ref x) :: lv.filter (fun q => !(q.1 == i) && !(q.1 + 1 == i && q.2.category == 2)) = lv') (K : J mt wr (pc + 1) lv' st M F) : J mt wr pc lv (.ref x :: st) M F := by
  intro r M' hF p l e s m args below meth c D ad dA A mc ms hp H locs ls hP hD hS hl
  obtain ⟨hx, hb, hr, hml, hown, hts, hlk, hC⟩ := id hp
  exact lv_astore_n hx hb hd hi hl hn (lvp_filter h) (fun ls2 hl2 => K r M' hF p l e s m args below meth c D ad dA A mc ms hp H locs ls2 hP hD hS hl2)
theorem j_astore {R : Type} {mt : Mt} {wr : R → Option Value} {pc : Nat} {lv : List (Nat × Value)} {st : List Value} {M : Mem} {F : Option (R × Mem)} {i : Nat} {x : Nat} {lv' : List (Nat × Value)} (hd : decode mt.2.1 pc = .ok (.astore i, 2)) (hn : i < mt.2.2.1) (h : (i, Value.ref x) :: lv.filter (fun q => !(q.1 == i) && !(q.1 + 1 == i && q.2.category == 2)) = lv') (K : J mt wr (pc + 2) lv' st M F) : J mt wr pc lv (.ref x :: st) M F := by
  intro r M' hF p l e s m args below meth c D ad dA A mc ms hp H locs ls hP hD hS hl
  obtain ⟨hx, hb, hr, hml, hown, hts, hlk, hC⟩ := id hp
  exact lv_astore hx hb hd hl hn (lvp_filter h) (fun ls2 hl2 => K r M' hF p l e s m args below meth c D ad dA A mc ms hp H locs ls2 hP hD hS hl2)
theorem j_iinc {R : Type} {mt : Mt} {wr : R → Option Value} {pc : Nat} {lv : List (Nat × Value)} {st : List Value} {M : Mem} {F : Option (R × Mem)} {i q : Nat} {n : Int} {x v : Int32} {lv' : List (Nat × Value)} (hd : decode mt.2.1 pc = .ok (.iinc i n, 3)) (hq : lv[q]? = some (i, .int x)) (hv : x + Int32.ofInt n = v) (hn : i < mt.2.2.1) (h : (i, Value.int v) :: lv.filter (fun q => !(q.1 == i) && !(q.1 + 1 == i && q.2.category == 2)) = lv') (K : J mt wr (pc + 3) lv' st M F) : J mt wr pc lv st M F := by
  intro r M' hF p l e s m args below meth c D ad dA A mc ms hp H locs ls hP hD hS hl
  obtain ⟨hx, hb, hr, hml, hown, hts, hlk, hC⟩ := id hp
  exact lv_iinc hx hb hd hl (lvp_get hq) hv hn (lvp_filter h) (fun ls2 hl2 => K r M' hF p l e s m args below meth c D ad dA A mc ms hp H locs ls2 hP hD hS hl2)
theorem j_icmp_eq {R : Type} {mt : Mt} {wr : R → Option Value} {pc : Nat} {lv : List (Nat × Value)} {st : List Value} {M : Mem} {F G : Option (R × Mem)} {x y : Int32} {off : Int} {tgt : Nat} (hd : decode mt.2.1 pc = .ok (.if_icmp .eq off, 3)) (ht : (pc : Int) + off = (tgt : Int)) (K : x = y → J mt wr tgt lv st M F) (L : ¬ (x = y) → J mt wr (pc + 3) lv st M G) : J mt wr pc lv (.int y :: .int x :: st) M (if x = y then F else G) := by
  intro r M' hF p l e s m args below meth c D ad dA A mc ms hp H locs ls hP hD hS hl
  obtain ⟨hx, hb, hr, hml, hown, hts, hlk, hC⟩ := id hp
  refine lv_icmp_eq hx hb hd ht (fun h => ?_) (fun h => ?_)
  · exact K h r M' ((if_pos h).symm.trans hF) p l e s m args below meth c D ad dA A mc ms hp H locs ls hP hD hS hl
  · exact L h r M' ((if_neg h).symm.trans hF) p l e s m args below meth c D ad dA A mc ms hp H locs ls hP hD hS hl
theorem j_if_eq {R : Type} {mt : Mt} {wr : R → Option Value} {pc : Nat} {lv : List (Nat × Value)} {st : List Value} {M : Mem} {F G : Option (R × Mem)} {x : Int32} {off : Int} {tgt : Nat} (hd : decode mt.2.1 pc = .ok (.ifCond .eq off, 3)) (ht : (pc : Int) + off = (tgt : Int)) (K : x = 0 → J mt wr tgt lv st M F) (L : ¬ (x = 0) → J mt wr (pc + 3) lv st M G) : J mt wr pc lv (.int x :: st) M (if x = 0 then F else G) := by
  intro r M' hF p l e s m args below meth c D ad dA A mc ms hp H locs ls hP hD hS hl
  obtain ⟨hx, hb, hr, hml, hown, hts, hlk, hC⟩ := id hp
  refine lv_if_eq hx hb hd ht (fun h => ?_) (fun h => ?_)
  · exact K h r M' ((if_pos h).symm.trans hF) p l e s m args below meth c D ad dA A mc ms hp H locs ls hP hD hS hl
  · exact L h r M' ((if_neg h).symm.trans hF) p l e s m args below meth c D ad dA A mc ms hp H locs ls hP hD hS hl
theorem j_icmp_lt {R : Type} {mt : Mt} {wr : R → Option Value} {pc : Nat} {lv : List (Nat × Value)} {st : List Value} {M : Mem} {F G : Option (R × Mem)} {x y : Int32} {off : Int} {tgt : Nat} (hd : decode mt.2.1 pc = .ok (.if_icmp .lt off, 3)) (ht : (pc : Int) + off = (tgt : Int)) (K : x < y → J mt wr tgt lv st M F) (L : ¬ (x < y) → J mt wr (pc + 3) lv st M G) : J mt wr pc lv (.int y :: .int x :: st) M (if x < y then F else G) := by
  intro r M' hF p l e s m args below meth c D ad dA A mc ms hp H locs ls hP hD hS hl
  obtain ⟨hx, hb, hr, hml, hown, hts, hlk, hC⟩ := id hp
  refine lv_icmp_lt hx hb hd ht (fun h => ?_) (fun h => ?_)
  · exact K h r M' ((if_pos h).symm.trans hF) p l e s m args below meth c D ad dA A mc ms hp H locs ls hP hD hS hl
  · exact L h r M' ((if_neg h).symm.trans hF) p l e s m args below meth c D ad dA A mc ms hp H locs ls hP hD hS hl
theorem j_if_lt {R : Type} {mt : Mt} {wr : R → Option Value} {pc : Nat} {lv : List (Nat × Value)} {st : List Value} {M : Mem} {F G : Option (R × Mem)} {x : Int32} {off : Int} {tgt : Nat} (hd : decode mt.2.1 pc = .ok (.ifCond .lt off, 3)) (ht : (pc : Int) + off = (tgt : Int)) (K : x < 0 → J mt wr tgt lv st M F) (L : ¬ (x < 0) → J mt wr (pc + 3) lv st M G) : J mt wr pc lv (.int x :: st) M (if x < 0 then F else G) := by
  intro r M' hF p l e s m args below meth c D ad dA A mc ms hp H locs ls hP hD hS hl
  obtain ⟨hx, hb, hr, hml, hown, hts, hlk, hC⟩ := id hp
  refine lv_if_lt hx hb hd ht (fun h => ?_) (fun h => ?_)
  · exact K h r M' ((if_pos h).symm.trans hF) p l e s m args below meth c D ad dA A mc ms hp H locs ls hP hD hS hl
  · exact L h r M' ((if_neg h).symm.trans hF) p l e s m args below meth c D ad dA A mc ms hp H locs ls hP hD hS hl
theorem j_icmp_ge {R : Type} {mt : Mt} {wr : R → Option Value} {pc : Nat} {lv : List (Nat × Value)} {st : List Value} {M : Mem} {F G : Option (R × Mem)} {x y : Int32} {off : Int} {tgt : Nat} (hd : decode mt.2.1 pc = .ok (.if_icmp .ge off, 3)) (ht : (pc : Int) + off = (tgt : Int)) (K : y ≤ x → J mt wr tgt lv st M F) (L : ¬ (y ≤ x) → J mt wr (pc + 3) lv st M G) : J mt wr pc lv (.int y :: .int x :: st) M (if y ≤ x then F else G) := by
  intro r M' hF p l e s m args below meth c D ad dA A mc ms hp H locs ls hP hD hS hl
  obtain ⟨hx, hb, hr, hml, hown, hts, hlk, hC⟩ := id hp
  refine lv_icmp_ge hx hb hd ht (fun h => ?_) (fun h => ?_)
  · exact K h r M' ((if_pos h).symm.trans hF) p l e s m args below meth c D ad dA A mc ms hp H locs ls hP hD hS hl
  · exact L h r M' ((if_neg h).symm.trans hF) p l e s m args below meth c D ad dA A mc ms hp H locs ls hP hD hS hl
theorem j_if_ge {R : Type} {mt : Mt} {wr : R → Option Value} {pc : Nat} {lv : List (Nat × Value)} {st : List Value} {M : Mem} {F G : Option (R × Mem)} {x : Int32} {off : Int} {tgt : Nat} (hd : decode mt.2.1 pc = .ok (.ifCond .ge off, 3)) (ht : (pc : Int) + off = (tgt : Int)) (K : 0 ≤ x → J mt wr tgt lv st M F) (L : ¬ (0 ≤ x) → J mt wr (pc + 3) lv st M G) : J mt wr pc lv (.int x :: st) M (if 0 ≤ x then F else G) := by
  intro r M' hF p l e s m args below meth c D ad dA A mc ms hp H locs ls hP hD hS hl
  obtain ⟨hx, hb, hr, hml, hown, hts, hlk, hC⟩ := id hp
  refine lv_if_ge hx hb hd ht (fun h => ?_) (fun h => ?_)
  · exact K h r M' ((if_pos h).symm.trans hF) p l e s m args below meth c D ad dA A mc ms hp H locs ls hP hD hS hl
  · exact L h r M' ((if_neg h).symm.trans hF) p l e s m args below meth c D ad dA A mc ms hp H locs ls hP hD hS hl
theorem j_icmp_gt {R : Type} {mt : Mt} {wr : R → Option Value} {pc : Nat} {lv : List (Nat × Value)} {st : List Value} {M : Mem} {F G : Option (R × Mem)} {x y : Int32} {off : Int} {tgt : Nat} (hd : decode mt.2.1 pc = .ok (.if_icmp .gt off, 3)) (ht : (pc : Int) + off = (tgt : Int)) (K : y < x → J mt wr tgt lv st M F) (L : ¬ (y < x) → J mt wr (pc + 3) lv st M G) : J mt wr pc lv (.int y :: .int x :: st) M (if y < x then F else G) := by
  intro r M' hF p l e s m args below meth c D ad dA A mc ms hp H locs ls hP hD hS hl
  obtain ⟨hx, hb, hr, hml, hown, hts, hlk, hC⟩ := id hp
  refine lv_icmp_gt hx hb hd ht (fun h => ?_) (fun h => ?_)
  · exact K h r M' ((if_pos h).symm.trans hF) p l e s m args below meth c D ad dA A mc ms hp H locs ls hP hD hS hl
  · exact L h r M' ((if_neg h).symm.trans hF) p l e s m args below meth c D ad dA A mc ms hp H locs ls hP hD hS hl
theorem j_if_gt {R : Type} {mt : Mt} {wr : R → Option Value} {pc : Nat} {lv : List (Nat × Value)} {st : List Value} {M : Mem} {F G : Option (R × Mem)} {x : Int32} {off : Int} {tgt : Nat} (hd : decode mt.2.1 pc = .ok (.ifCond .gt off, 3)) (ht : (pc : Int) + off = (tgt : Int)) (K : 0 < x → J mt wr tgt lv st M F) (L : ¬ (0 < x) → J mt wr (pc + 3) lv st M G) : J mt wr pc lv (.int x :: st) M (if 0 < x then F else G) := by
  intro r M' hF p l e s m args below meth c D ad dA A mc ms hp H locs ls hP hD hS hl
  obtain ⟨hx, hb, hr, hml, hown, hts, hlk, hC⟩ := id hp
  refine lv_if_gt hx hb hd ht (fun h => ?_) (fun h => ?_)
  · exact K h r M' ((if_pos h).symm.trans hF) p l e s m args below meth c D ad dA A mc ms hp H locs ls hP hD hS hl
  · exact L h r M' ((if_neg h).symm.trans hF) p l e s m args below meth c D ad dA A mc ms hp H locs ls hP hD hS hl
theorem j_icmp_le {R : Type} {mt : Mt} {wr : R → Option Value} {pc : Nat} {lv : List (Nat × Value)} {st : List Value} {M : Mem} {F G : Option (R × Mem)} {x y : Int32} {off : Int} {tgt : Nat} (hd : decode mt.2.1 pc = .ok (.if_icmp .le off, 3)) (ht : (pc : Int) + off = (tgt : Int)) (K : x ≤ y → J mt wr tgt lv st M F) (L : ¬ (x ≤ y) → J mt wr (pc + 3) lv st M G) : J mt wr pc lv (.int y :: .int x :: st) M (if x ≤ y then F else G) := by
  intro r M' hF p l e s m args below meth c D ad dA A mc ms hp H locs ls hP hD hS hl
  obtain ⟨hx, hb, hr, hml, hown, hts, hlk, hC⟩ := id hp
  refine lv_icmp_le hx hb hd ht (fun h => ?_) (fun h => ?_)
  · exact K h r M' ((if_pos h).symm.trans hF) p l e s m args below meth c D ad dA A mc ms hp H locs ls hP hD hS hl
  · exact L h r M' ((if_neg h).symm.trans hF) p l e s m args below meth c D ad dA A mc ms hp H locs ls hP hD hS hl
theorem j_if_le {R : Type} {mt : Mt} {wr : R → Option Value} {pc : Nat} {lv : List (Nat × Value)} {st : List Value} {M : Mem} {F G : Option (R × Mem)} {x : Int32} {off : Int} {tgt : Nat} (hd : decode mt.2.1 pc = .ok (.ifCond .le off, 3)) (ht : (pc : Int) + off = (tgt : Int)) (K : x ≤ 0 → J mt wr tgt lv st M F) (L : ¬ (x ≤ 0) → J mt wr (pc + 3) lv st M G) : J mt wr pc lv (.int x :: st) M (if x ≤ 0 then F else G) := by
  intro r M' hF p l e s m args below meth c D ad dA A mc ms hp H locs ls hP hD hS hl
  obtain ⟨hx, hb, hr, hml, hown, hts, hlk, hC⟩ := id hp
  refine lv_if_le hx hb hd ht (fun h => ?_) (fun h => ?_)
  · exact K h r M' ((if_pos h).symm.trans hF) p l e s m args below meth c D ad dA A mc ms hp H locs ls hP hD hS hl
  · exact L h r M' ((if_neg h).symm.trans hF) p l e s m args below meth c D ad dA A mc ms hp H locs ls hP hD hS hl
theorem j_icmp_ne {R : Type} {mt : Mt} {wr : R → Option Value} {pc : Nat} {lv : List (Nat × Value)} {st : List Value} {M : Mem} {F G : Option (R × Mem)} {x y : Int32} {off : Int} {tgt : Nat} (hd : decode mt.2.1 pc = .ok (.if_icmp .ne off, 3)) (ht : (pc : Int) + off = (tgt : Int)) (K : ¬ (x = y) → J mt wr tgt lv st M G) (L : x = y → J mt wr (pc + 3) lv st M F) : J mt wr pc lv (.int y :: .int x :: st) M (if x = y then F else G) := by
  intro r M' hF p l e s m args below meth c D ad dA A mc ms hp H locs ls hP hD hS hl
  obtain ⟨hx, hb, hr, hml, hown, hts, hlk, hC⟩ := id hp
  refine lv_icmp_ne hx hb hd ht (fun h => ?_) (fun h => ?_)
  · exact K h r M' ((if_neg h).symm.trans hF) p l e s m args below meth c D ad dA A mc ms hp H locs ls hP hD hS hl
  · exact L h r M' ((if_pos h).symm.trans hF) p l e s m args below meth c D ad dA A mc ms hp H locs ls hP hD hS hl
theorem j_if_ne {R : Type} {mt : Mt} {wr : R → Option Value} {pc : Nat} {lv : List (Nat × Value)} {st : List Value} {M : Mem} {F G : Option (R × Mem)} {x : Int32} {off : Int} {tgt : Nat} (hd : decode mt.2.1 pc = .ok (.ifCond .ne off, 3)) (ht : (pc : Int) + off = (tgt : Int)) (K : ¬ (x = 0) → J mt wr tgt lv st M G) (L : x = 0 → J mt wr (pc + 3) lv st M F) : J mt wr pc lv (.int x :: st) M (if x = 0 then F else G) := by
  intro r M' hF p l e s m args below meth c D ad dA A mc ms hp H locs ls hP hD hS hl
  obtain ⟨hx, hb, hr, hml, hown, hts, hlk, hC⟩ := id hp
  refine lv_if_ne hx hb hd ht (fun h => ?_) (fun h => ?_)
  · exact K h r M' ((if_neg h).symm.trans hF) p l e s m args below meth c D ad dA A mc ms hp H locs ls hP hD hS hl
  · exact L h r M' ((if_pos h).symm.trans hF) p l e s m args below meth c D ad dA A mc ms hp H locs ls hP hD hS hl
theorem j_goto {R : Type} {mt : Mt} {wr : R → Option Value} {pc : Nat} {lv : List (Nat × Value)} {st : List Value} {M : Mem} {F : Option (R × Mem)} {off : Int} {tgt : Nat} (hd : decode mt.2.1 pc = .ok (.goto off, 3)) (ht : (pc : Int) + off = (tgt : Int)) (K : J mt wr tgt lv st M F) : J mt wr pc lv st M F := by
  intro r M' hF p l e s m args below meth c D ad dA A mc ms hp H locs ls hP hD hS hl
  obtain ⟨hx, hb, hr, hml, hown, hts, hlk, hC⟩ := id hp
  exact lv_goto hx hb hd ht (K r M' hF p l e s m args below meth c D ad dA A mc ms hp H locs ls hP hD hS hl)
theorem j_tableIn {R : Type} {mt : Mt} {wr : R → Option Value} {pc : Nat} {lv : List (Nat × Value)} {st : List Value} {M : Mem} {F : Option (R × Mem)} {dflt lo hi : Int} {offs : Array Int} {len : Nat} {x : Int32} {off : Int} {tgt : Nat} (hd : decode mt.2.1 pc = .ok (.tableswitch dflt lo hi offs, len)) (v : Int32) (hv : x = v) (h1 : ¬ v.toInt < lo) (h2 : ¬ hi < v.toInt) (ho : offs[(v.toInt - lo).toNat]? = some off) (ht : (pc : Int) + off = (tgt : Int)) (K : J mt wr tgt lv st M F) : J mt wr pc lv (.int x :: st) M F := by
  subst hv
  intro r M' hF p l e s m args below meth c D ad dA A mc ms hp H locs ls hP hD hS hl
  obtain ⟨hx, hb, hr, hml, hown, hts, hlk, hC⟩ := id hp
  exact lv_tableIn hx hb hd h1 h2 ho ht (K r M' hF p l e s m args below meth c D ad dA A mc ms hp H locs ls hP hD hS hl)
theorem j_tableOut {R : Type} {mt : Mt} {wr : R → Option Value} {pc : Nat} {lv : List (Nat × Value)} {st : List Value} {M : Mem} {F : Option (R × Mem)} {dflt lo hi : Int} {offs : Array Int} {len : Nat} {x : Int32} {tgt : Nat} (hd : decode mt.2.1 pc = .ok (.tableswitch dflt lo hi offs, len)) (h : x.toInt < lo ∨ hi < x.toInt) (ht : (pc : Int) + dflt = (tgt : Int)) (K : J mt wr tgt lv st M F) : J mt wr pc lv (.int x :: st) M F := by
  intro r M' hF p l e s m args below meth c D ad dA A mc ms hp H locs ls hP hD hS hl
  obtain ⟨hx, hb, hr, hml, hown, hts, hlk, hC⟩ := id hp
  exact lv_tableOut hx hb hd h ht (K r M' hF p l e s m args below meth c D ad dA A mc ms hp H locs ls hP hD hS hl)
def nm {α β : Type} (e : α) (f : α → β) : β := f e
def gd {α : Type} (i : Int32) (n : Nat) (F : Option α) : Option α := if i < 0 ∨ n ≤ i.toNatClampNeg then none else F
def bd {α β : Type} (x : Option (α × Mem)) (f : α → Mem → Option β) : Option β := match x with
  | some q => f q.1 q.2
  | none => none
theorem j_none {R : Type} {mt : Mt} {wr : R → Option Value} {pc : Nat} {lv : List (Nat × Value)} {st : List Value} {M : Mem} : J mt wr pc lv st M none := fun r M' hF => by cases hF
theorem j_nm {R α : Type} {mt : Mt} {wr : R → Option Value} {pc : Nat} {lv : List (Nat × Value)} {st : List Value} {M : Mem} {e : α} {f : α → Option (R × Mem)} (K : J mt wr pc lv st M (f e)) : J mt wr pc lv st M (nm e f) := K
theorem j_nmi {R : Type} {mt : Mt} {wr : R → Option Value} {pc : Nat} {lv : List (Nat × Value)} {st : List Value} {M : Mem} {e : Int32} {f : Int32 → Option (R × Mem)} (K : ∀ x : Int32, J mt wr pc lv (.int x :: st) M (f x)) : J mt wr pc lv (.int e :: st) M (nm e f) := K e
theorem j_nml {R : Type} {mt : Mt} {wr : R → Option Value} {pc : Nat} {lv : List (Nat × Value)} {st : List Value} {M : Mem} {e : Int64} {f : Int64 → Option (R × Mem)} (K : ∀ x : Int64, J mt wr pc lv (.long x :: st) M (f x)) : J mt wr pc lv (.long e :: st) M (nm e f) := K e
theorem j_nmM {R : Type} {mt : Mt} {wr : R → Option Value} {pc : Nat} {lv : List (Nat × Value)} {st : List Value} {M : Mem} {f : Mem → Option (R × Mem)} (K : ∀ N : Mem, J mt wr pc lv st N (f N)) : J mt wr pc lv st M (nm M f) := K M
theorem j_lv {R : Type} {mt : Mt} {wr : R → Option Value} {pc : Nat} {lv lv' : List (Nat × Value)} {st : List Value} {M : Mem} {F : Option (R × Mem)} (ks : List Nat) (h : lv_pick lv ks = lv') (K : J mt wr pc lv' st M F) : J mt wr pc lv st M F := by
  intro r M' hF p l e s m args below meth c D ad dA A mc ms hp H locs ls hP hD hS hl
  refine K r M' hF p l e s m args below meth c D ad dA A mc ms hp H locs ls hP hD hS (lv_sub hl ks ?_)
  subst h
  unfold lv_pick
  rw [List.map_filterMap]
  congr 1
  funext k
  simp
theorem j_gd {R : Type} {mt : Mt} {wr : R → Option Value} {pc : Nat} {lv : List (Nat × Value)} {st : List Value} {M : Mem} {F : Option (R × Mem)} {i : Int32} {n : Nat} (K : vp_in i n → J mt wr pc lv st M F) : J mt wr pc lv st M (gd i n F) := by
  unfold gd
  by_cases h : i < 0 ∨ n ≤ i.toNatClampNeg
  · rw [if_pos h]; exact j_none
  · rw [if_neg h]; exact K h
def wI : Int32 → Option Value := fun x => some (.int x)
def wL : Int64 → Option Value := fun x => some (.long x)
def wU : Unit → Option Value := fun _ => none
theorem j_ireturn {mt : Mt} {pc : Nat} {lv : List (Nat × Value)} {M : Mem} {x : Int32} (hd : decode mt.2.1 pc = .ok (.ireturn, 1)) (hrt : mt.2.2.2.1 = some .int) : J mt wI pc lv [.int x] M (some (x, M)) := by
  intro r M' hF p l e s m args below meth c D ad dA A mc ms hp H locs ls hP hD hS hl
  obtain ⟨hx, hb, hr, hml, hown, hts, hlk, hC⟩ := id hp
  cases hF
  exact W.iret hx hb (hr.trans hrt) (fun t ht hW => ⟨rfl, by show Wd D ad dA A _ _ t.heap; rw [ht]; exact ⟨hP, hD⟩, hS.F ht⟩) hS.2.2 hd
theorem j_zreturn {mt : Mt} {pc : Nat} {lv : List (Nat × Value)} {M : Mem} {x : Int32} {ty : FieldType} (hd : decode mt.2.1 pc = .ok (.ireturn, 1)) (hrt : mt.2.2.2.1 = some ty) (hn : narrow ty (.int x) = .int x) : J mt wI pc lv [.int x] M (some (x, M)) := by
  intro r M' hF p l e s m args below meth c D ad dA A mc ms hp H locs ls hP hD hS hl
  obtain ⟨hx, hb, hr, hml, hown, hts, hlk, hC⟩ := id hp
  cases hF
  exact W.zret hx hb (hr.trans hrt) hn (fun t ht hW => ⟨rfl, by show Wd D ad dA A _ _ t.heap; rw [ht]; exact ⟨hP, hD⟩, hS.F ht⟩) hS.2.2 hd
theorem j_lreturn {mt : Mt} {pc : Nat} {lv : List (Nat × Value)} {M : Mem} {x : Int64} (hd : decode mt.2.1 pc = .ok (.lreturn, 1)) (hrt : mt.2.2.2.1 = some .long) : J mt wL pc lv [.long x] M (some (x, M)) := by
  intro r M' hF p l e s m args below meth c D ad dA A mc ms hp H locs ls hP hD hS hl
  obtain ⟨hx, hb, hr, hml, hown, hts, hlk, hC⟩ := id hp
  cases hF
  exact W.lret hx hb (hr.trans hrt) (fun t ht hW => ⟨rfl, by show Wd D ad dA A _ _ t.heap; rw [ht]; exact ⟨hP, hD⟩, hS.F ht⟩) hS.2.2 hd
theorem j_return {mt : Mt} {pc : Nat} {lv : List (Nat × Value)} {M : Mem}  (hd : decode mt.2.1 pc = .ok (.return_, 1)) (hrt : mt.2.2.2.1 = none) : J mt wU pc lv [] M (some ((), M)) := by
  intro r M' hF p l e s m args below meth c D ad dA A mc ms hp H locs ls hP hD hS hl
  obtain ⟨hx, hb, hr, hml, hown, hts, hlk, hC⟩ := id hp
  cases hF
  exact W.vret hx hb (hr.trans hrt) (fun t ht hW => ⟨rfl, by show Wd D ad dA A _ _ t.heap; rw [ht]; exact ⟨hP, hD⟩, hS.F ht⟩) hS.2.2 hd
end
section
/-! ROWS: memory and calls (written by wip/gen/mem.py) -/
def Fl (own : String) (idx ci k : Nat) (ty : FieldType) (fin : Bool) : Prop := ∃ (C : String) (T : u_T) (N : Nat) (ty0 : Nat → FieldType), cl[ci]? = some (C, T, N) ∧ k < N ∧ (∀ w ∈ u_ws C T N, w ∈ tbl) ∧ Cond.fieldLink own idx C (T k).2.1 (T k).2.2.1 ∈ tbl ∧ (T k).1 = C ∧ (∀ k, k < N → parseFieldDescriptor (T k).2.2.1 = some (ty0 k)) ∧ (∀ a, a < N → ∀ b, b < N → a ≠ b → (T a).2.1 ≠ (T b).2.1) ∧ parseFieldDescriptor (T k).2.2.1 = some ty ∧ (T k).2.2.2 = fin
theorem lay_obj {ad : Nat → Nat} {dA : Nat → ClassId} {sh : Shp} {M : Mem} {a ci : Nat} {ds : List Nat} (h : sh[a]? = some (ci, ds)) (hc : ci < 100) : (lay ad dA sh M)[a]? = some (ad a, .inr (ci, objOf ad M a ds)) := by
  rw [lay_get h, cell_obj hc]
theorem lay_int {ad : Nat → Nat} {dA : Nat → ClassId} {sh : Shp} {M : Mem} {a n t : Nat} (h : sh[a]? = some (100 + t, [n])) (ht : t < 3) : (lay ad dA sh M)[a]? = some (ad a, .inl (dA t, n, .inl (M.1 a))) := by
  rw [lay_get h]
  unfold cellOf
  rw [if_neg (by show ¬ 100 + t < 100; omega), if_pos (by show 100 + t < 103; omega), show 100 + t - 100 = t by omega]
  rfl
theorem lay_long {ad : Nat → Nat} {dA : Nat → ClassId} {sh : Shp} {M : Mem} {a n : Nat} (h : sh[a]? = some (103, [n])) : (lay ad dA sh M)[a]? = some (ad a, .inl (dA 3, n, .inr (.inl (M.2 a)))) := lay_get h
theorem lay_refs {ad : Nat → Nat} {dA : Nat → ClassId} {sh : Shp} {M : Mem} {a t : Nat} {ids : List Nat} (h : sh[a]? = some (104 + t, ids)) : (lay ad dA sh M)[a]? = some (ad a, .inl (dA (4 + t), ids.length, .inr (.inr (.inr (.inr (fun j => (ids[j]?).map ad)))))) := by
  rw [lay_get h]
  unfold cellOf
  rw [if_neg (by show ¬ 104 + t < 100; omega), if_neg (by show ¬ 104 + t < 103; omega), if_neg (by show ¬ 104 + t = 103; omega), show 104 + t - 100 = 4 + t by omega]
theorem j_getI {R : Type} {mt : Mt} {wr : R → Option Value} {pc : Nat} {lv : List (Nat × Value)} {st : List Value} {M : Mem} {F : Option (R × Mem)} {a ci k idx : Nat} {ds : List Nat} {ty : FieldType} {fin : Bool} (hd : decode mt.2.1 pc = .ok (.getfield idx, 3)) (hf : Fl mt.1 idx ci k ty fin) (hs : mt.2.2.2.2.2[a]? = some (ci, ds)) (hc : ci < 100) (hk : ds[k]? = some 0) (K : J mt wr (pc + 3) lv (.int (M.1 a k) :: st) M F) : J mt wr pc lv (.ref a :: st) M F := by
  intro r M' hF p l e s m args below meth c D ad dA A mc ms hp H locs ls hP hD hS hl
  obtain ⟨hx, hb, hr, hml, hown, hts, hlk, hC⟩ := id hp
  obtain ⟨C, T, N, ty0, e1, e2, e3, e4, e5, e6, e7, e8, e9⟩ := hf
  exact va_get (D := (D.1, D.2)) hx hb hts e3 hown hC.1 hP a (lay_obj hs hc) e1 k e2 (hts _ e4) (fun x h => by rw [e5] at h; exact h) (obj_get hk) hd (K r M' hF p l e s m args below meth c D ad dA A mc ms hp H locs ls hP hD hS hl)
theorem j_getL {R : Type} {mt : Mt} {wr : R → Option Value} {pc : Nat} {lv : List (Nat × Value)} {st : List Value} {M : Mem} {F : Option (R × Mem)} {a ci k idx : Nat} {ds : List Nat} {ty : FieldType} {fin : Bool} (hd : decode mt.2.1 pc = .ok (.getfield idx, 3)) (hf : Fl mt.1 idx ci k ty fin) (hs : mt.2.2.2.2.2[a]? = some (ci, ds)) (hc : ci < 100) (hk : ds[k]? = some 1) (K : J mt wr (pc + 3) lv (.long (M.2 a k) :: st) M F) : J mt wr pc lv (.ref a :: st) M F := by
  intro r M' hF p l e s m args below meth c D ad dA A mc ms hp H locs ls hP hD hS hl
  obtain ⟨hx, hb, hr, hml, hown, hts, hlk, hC⟩ := id hp
  obtain ⟨C, T, N, ty0, e1, e2, e3, e4, e5, e6, e7, e8, e9⟩ := hf
  exact va_get (D := (D.1, D.2)) hx hb hts e3 hown hC.1 hP a (lay_obj hs hc) e1 k e2 (hts _ e4) (fun x h => by rw [e5] at h; exact h) (obj_get hk) hd (K r M' hF p l e s m args below meth c D ad dA A mc ms hp H locs ls hP hD hS hl)
theorem j_getA {R : Type} {mt : Mt} {wr : R → Option Value} {pc : Nat} {lv : List (Nat × Value)} {st : List Value} {M : Mem} {F : Option (R × Mem)} {a ci k idx : Nat} {ds : List Nat} {ty : FieldType} {fin : Bool} {b : Nat} (hd : decode mt.2.1 pc = .ok (.getfield idx, 3)) (hf : Fl mt.1 idx ci k ty fin) (hs : mt.2.2.2.2.2[a]? = some (ci, ds)) (hc : ci < 100) (hk : ds[k]? = some (b + 2)) (K : J mt wr (pc + 3) lv (.ref b :: st) M F) : J mt wr pc lv (.ref a :: st) M F := by
  intro r M' hF p l e s m args below meth c D ad dA A mc ms hp H locs ls hP hD hS hl
  obtain ⟨hx, hb, hr, hml, hown, hts, hlk, hC⟩ := id hp
  obtain ⟨C, T, N, ty0, e1, e2, e3, e4, e5, e6, e7, e8, e9⟩ := hf
  exact va_get (D := (D.1, D.2)) hx hb hts e3 hown hC.1 hP a (lay_obj hs hc) e1 k e2 (hts _ e4) (fun x h => by rw [e5] at h; exact h) (obj_get hk) hd (K r M' hF p l e s m args below meth c D ad dA A mc ms hp H locs ls hP hD hS hl)
theorem j_putI {R : Type} {mt : Mt} {wr : R → Option Value} {pc : Nat} {lv : List (Nat × Value)} {st : List Value} {M : Mem} {F : Option (R × Mem)} {a ci k idx : Nat} {ds : List Nat} {ty : FieldType} {v : Int32} (hd : decode mt.2.1 pc = .ok (.putfield idx, 3)) (hf : Fl mt.1 idx ci k ty false) (ht : ty = .int) (hs : mt.2.2.2.2.2[a]? = some (ci, ds)) (hc : ci < 100) (hk : ds[k]? = some 0) (K : J mt wr (pc + 3) lv st (si M a k v) F) : J mt wr pc lv (.int v :: .ref a :: st) M F := by
  intro r M' hF p l e s m args below meth c D ad dA A mc ms hp H locs ls hP hD hS hl
  obtain ⟨hx, hb, hr, hml, hown, hts, hlk, hC⟩ := id hp
  obtain ⟨C, T, N, ty0, e1, e2, e3, e4, e5, e6, e7, e8, e9⟩ := hf
  have hset : (lay ad dA mt.2.2.2.2.2 M).set a (ad a, .inr (ci, (objOf ad M a ds).set k (.int v))) = lay ad dA mt.2.2.2.2.2 (si M a k v) := by
    refine lay_set hs ?_ (fun j hj => si_off hj)
    rw [cell_obj hc, obj_set hk (M' := si M a k v) (by simp [fldOf, si]) (fun j kd2 hj => by
      match kd2 with
      | 0 => simp [fldOf, si, hj]
      | 1 => simp [fldOf, si, hj]
      | r + 2 => rfl)]
  refine va_put (v := .int v) (D := (D.1, D.2)) hx hb hts e3 ty0 e6 e7 hown hC.1 hP hD hS a (lay_obj hs hc) e1 k e2 (hts _ e4) (fun x h => by rw [e5] at h; exact h) e9 e8 (by rw [ht]; rfl) (by rw [ht]; rfl) ((List.getElem?_eq_some_iff.mp (obj_get (ad := ad) (M := M) (a := a) hk)).1) hd (fun H1 locs1 hP1 hD1 hS1 => ?_)
  rw [hset] at hP1 hD1
  exact K r M' hF p l e s m args below meth c D ad dA A mc ms hp H1 locs1 ls hP1 hD1 hS1 hl
theorem j_putZ {R : Type} {mt : Mt} {wr : R → Option Value} {pc : Nat} {lv : List (Nat × Value)} {st : List Value} {M : Mem} {F : Option (R × Mem)} {a ci k idx : Nat} {ds : List Nat} {ty : FieldType} {v : Int32} (hd : decode mt.2.1 pc = .ok (.putfield idx, 3)) (hf : Fl mt.1 idx ci k ty false) (hn : narrow ty (.int v) = .int v) (hfi : fits ty (.int v) = true) (hs : mt.2.2.2.2.2[a]? = some (ci, ds)) (hc : ci < 100) (hk : ds[k]? = some 0) (K : J mt wr (pc + 3) lv st (si M a k v) F) : J mt wr pc lv (.int v :: .ref a :: st) M F := by
  intro r M' hF p l e s m args below meth c D ad dA A mc ms hp H locs ls hP hD hS hl
  obtain ⟨hx, hb, hr, hml, hown, hts, hlk, hC⟩ := id hp
  obtain ⟨C, T, N, ty0, e1, e2, e3, e4, e5, e6, e7, e8, e9⟩ := hf
  have hset : (lay ad dA mt.2.2.2.2.2 M).set a (ad a, .inr (ci, (objOf ad M a ds).set k (.int v))) = lay ad dA mt.2.2.2.2.2 (si M a k v) := by
    refine lay_set hs ?_ (fun j hj => si_off hj)
    rw [cell_obj hc, obj_set hk (M' := si M a k v) (by simp [fldOf, si]) (fun j kd2 hj => by
      match kd2 with
      | 0 => simp [fldOf, si, hj]
      | 1 => simp [fldOf, si, hj]
      | r + 2 => rfl)]
  refine va_put (v := .int v) (D := (D.1, D.2)) hx hb hts e3 ty0 e6 e7 hown hC.1 hP hD hS a (lay_obj hs hc) e1 k e2 (hts _ e4) (fun x h => by rw [e5] at h; exact h) e9 e8 hn hfi ((List.getElem?_eq_some_iff.mp (obj_get (ad := ad) (M := M) (a := a) hk)).1) hd (fun H1 locs1 hP1 hD1 hS1 => ?_)
  rw [hset] at hP1 hD1
  exact K r M' hF p l e s m args below meth c D ad dA A mc ms hp H1 locs1 ls hP1 hD1 hS1 hl
theorem j_putL {R : Type} {mt : Mt} {wr : R → Option Value} {pc : Nat} {lv : List (Nat × Value)} {st : List Value} {M : Mem} {F : Option (R × Mem)} {a ci k idx : Nat} {ds : List Nat} {ty : FieldType} {v : Int64} (hd : decode mt.2.1 pc = .ok (.putfield idx, 3)) (hf : Fl mt.1 idx ci k ty false) (ht : ty = .long) (hs : mt.2.2.2.2.2[a]? = some (ci, ds)) (hc : ci < 100) (hk : ds[k]? = some 1) (K : J mt wr (pc + 3) lv st (sl M a k v) F) : J mt wr pc lv (.long v :: .ref a :: st) M F := by
  intro r M' hF p l e s m args below meth c D ad dA A mc ms hp H locs ls hP hD hS hl
  obtain ⟨hx, hb, hr, hml, hown, hts, hlk, hC⟩ := id hp
  obtain ⟨C, T, N, ty0, e1, e2, e3, e4, e5, e6, e7, e8, e9⟩ := hf
  have hset : (lay ad dA mt.2.2.2.2.2 M).set a (ad a, .inr (ci, (objOf ad M a ds).set k (.long v))) = lay ad dA mt.2.2.2.2.2 (sl M a k v) := by
    refine lay_set hs ?_ (fun j hj => sl_off hj)
    rw [cell_obj hc, obj_set hk (M' := sl M a k v) (by simp [fldOf, sl]) (fun j kd2 hj => by
      match kd2 with
      | 0 => simp [fldOf, sl, hj]
      | 1 => simp [fldOf, sl, hj]
      | r + 2 => rfl)]
  refine va_put (v := .long v) (D := (D.1, D.2)) hx hb hts e3 ty0 e6 e7 hown hC.1 hP hD hS a (lay_obj hs hc) e1 k e2 (hts _ e4) (fun x h => by rw [e5] at h; exact h) e9 e8 (by rw [ht]; rfl) (by rw [ht]; rfl) ((List.getElem?_eq_some_iff.mp (obj_get (ad := ad) (M := M) (a := a) hk)).1) hd (fun H1 locs1 hP1 hD1 hS1 => ?_)
  rw [hset] at hP1 hD1
  exact K r M' hF p l e s m args below meth c D ad dA A mc ms hp H1 locs1 ls hP1 hD1 hS1 hl
theorem j_iald {R : Type} {mt : Mt} {wr : R → Option Value} {pc : Nat} {lv : List (Nat × Value)} {st : List Value} {M : Mem} {F : Option (R × Mem)} {a n : Nat} {i : Int32} (hd : decode mt.2.1 pc = .ok (.iaload, 1)) (hs : mt.2.2.2.2.2[a]? = some (100, [n])) (K : vp_in i n → J mt wr (pc + 1) lv (.int (M.1 a i.toNatClampNeg) :: st) M F) : J mt wr pc lv (.int i :: .ref a :: st) M (gd i n F) := by
  refine j_gd (fun hin => ?_)
  have K := K hin
  intro r M' hF p l e s m args below meth c D ad dA A mc ms hp H locs ls hP hD hS hl
  obtain ⟨hx, hb, hr, hml, hown, hts, hlk, hC⟩ := id hp
  exact va_iald (D := D) hx hb hC.1 hP a 0 (lay_int (t := 0) hs (by decide)) rfl hin hd (K r M' hF p l e s m args below meth c D ad dA A mc ms hp H locs ls hP hD hS hl)
theorem j_bald {R : Type} {mt : Mt} {wr : R → Option Value} {pc : Nat} {lv : List (Nat × Value)} {st : List Value} {M : Mem} {F : Option (R × Mem)} {a n : Nat} {i : Int32} (hd : decode mt.2.1 pc = .ok (.baload, 1)) (hs : mt.2.2.2.2.2[a]? = some (101, [n])) (K : vp_in i n → J mt wr (pc + 1) lv (.int (M.1 a i.toNatClampNeg) :: st) M F) : J mt wr pc lv (.int i :: .ref a :: st) M (gd i n F) := by
  refine j_gd (fun hin => ?_)
  have K := K hin
  intro r M' hF p l e s m args below meth c D ad dA A mc ms hp H locs ls hP hD hS hl
  obtain ⟨hx, hb, hr, hml, hown, hts, hlk, hC⟩ := id hp
  exact va_bald (D := D) hx hb hC.1 hP a 1 (lay_int (t := 1) hs (by decide)) rfl hin hd (K r M' hF p l e s m args below meth c D ad dA A mc ms hp H locs ls hP hD hS hl)
theorem j_zald {R : Type} {mt : Mt} {wr : R → Option Value} {pc : Nat} {lv : List (Nat × Value)} {st : List Value} {M : Mem} {F : Option (R × Mem)} {a n : Nat} {i : Int32} (hd : decode mt.2.1 pc = .ok (.baload, 1)) (hs : mt.2.2.2.2.2[a]? = some (102, [n])) (K : vp_in i n → J mt wr (pc + 1) lv (.int (M.1 a i.toNatClampNeg) :: st) M F) : J mt wr pc lv (.int i :: .ref a :: st) M (gd i n F) := by
  refine j_gd (fun hin => ?_)
  have K := K hin
  intro r M' hF p l e s m args below meth c D ad dA A mc ms hp H locs ls hP hD hS hl
  obtain ⟨hx, hb, hr, hml, hown, hts, hlk, hC⟩ := id hp
  exact va_zald (D := D) hx hb hC.1 hP a 2 (lay_int (t := 2) hs (by decide)) rfl hin hd (K r M' hF p l e s m args below meth c D ad dA A mc ms hp H locs ls hP hD hS hl)
theorem j_lald {R : Type} {mt : Mt} {wr : R → Option Value} {pc : Nat} {lv : List (Nat × Value)} {st : List Value} {M : Mem} {F : Option (R × Mem)} {a n : Nat} {i : Int32} (hd : decode mt.2.1 pc = .ok (.laload, 1)) (hs : mt.2.2.2.2.2[a]? = some (103, [n])) (K : vp_in i n → J mt wr (pc + 1) lv (.long (M.2 a i.toNatClampNeg) :: st) M F) : J mt wr pc lv (.int i :: .ref a :: st) M (gd i n F) := by
  refine j_gd (fun hin => ?_)
  have K := K hin
  intro r M' hF p l e s m args below meth c D ad dA A mc ms hp H locs ls hP hD hS hl
  obtain ⟨hx, hb, hr, hml, hown, hts, hlk, hC⟩ := id hp
  exact va_lald (D := D) hx hb hC.1 hP a 3 (lay_long hs) rfl hin hd (K r M' hF p l e s m args below meth c D ad dA A mc ms hp H locs ls hP hD hS hl)
theorem j_aald0 {R : Type} {mt : Mt} {wr : R → Option Value} {pc : Nat} {lv : List (Nat × Value)} {st : List Value} {M : Mem} {F : Option (R × Mem)} {a : Nat} {ids : List Nat} {i : Int32} (hd : decode mt.2.1 pc = .ok (.aaload, 1)) (hs : mt.2.2.2.2.2[a]? = some (104, ids)) (K : vp_in i ids.length → J mt wr (pc + 1) lv (.ref (ids.getD i.toNatClampNeg 0) :: st) M F) : J mt wr pc lv (.int i :: .ref a :: st) M (gd i ids.length F) := by
  refine j_gd (fun hin => ?_)
  have K := K hin
  intro r M' hF p l e s m args below meth c D ad dA A mc ms hp H locs ls hP hD hS hl
  obtain ⟨hx, hb, hr, hml, hown, hts, hlk, hC⟩ := id hp
  have hlt : i.toNatClampNeg < ids.length := Nat.not_le.mp fun q => hin (Or.inr q)
  have he : (ids[i.toNatClampNeg]?).map ad = some (ad (ids.getD i.toNatClampNeg 0)) := by
    rw [List.getD_eq_getElem?_getD, List.getElem?_eq_getElem hlt]; rfl
  refine W.aald (v := .ref (ad (ids.getD i.toNatClampNeg 0))) (ty := (.object "ShakeHands$Minds")) hx hb (hP a _ (lay_refs (t := 0) hs)) ((hC.1.2 4 _ rfl).1 ids.length (fun j => va_rf ((ids[j]?).map ad))) rfl (fun q => by cases q) (by show ¬ (i < 0 ∨ (arrV _ _ _).slots.size ≤ _); rw [arrV_size]; exact hin) (by show (arrV _ _ _).slots[_]? = _; rw [arrV_read _ _ hlt]; exact congrArg (fun o => some (va_rf o)) he) rfl rfl hd (K r M' hF p l e s m args below meth c D ad dA A mc ms hp H locs ls hP hD hS hl)
theorem j_aald1 {R : Type} {mt : Mt} {wr : R → Option Value} {pc : Nat} {lv : List (Nat × Value)} {st : List Value} {M : Mem} {F : Option (R × Mem)} {a : Nat} {ids : List Nat} {i : Int32} (hd : decode mt.2.1 pc = .ok (.aaload, 1)) (hs : mt.2.2.2.2.2[a]? = some (105, ids)) (K : vp_in i ids.length → J mt wr (pc + 1) lv (.ref (ids.getD i.toNatClampNeg 0) :: st) M F) : J mt wr pc lv (.int i :: .ref a :: st) M (gd i ids.length F) := by
  refine j_gd (fun hin => ?_)
  have K := K hin
  intro r M' hF p l e s m args below meth c D ad dA A mc ms hp H locs ls hP hD hS hl
  obtain ⟨hx, hb, hr, hml, hown, hts, hlk, hC⟩ := id hp
  have hlt : i.toNatClampNeg < ids.length := Nat.not_le.mp fun q => hin (Or.inr q)
  have he : (ids[i.toNatClampNeg]?).map ad = some (ad (ids.getD i.toNatClampNeg 0)) := by
    rw [List.getD_eq_getElem?_getD, List.getElem?_eq_getElem hlt]; rfl
  refine W.aald (v := .ref (ad (ids.getD i.toNatClampNeg 0))) (ty := (.object "ShakeHands$Sheet")) hx hb (hP a _ (lay_refs (t := 1) hs)) ((hC.1.2 5 _ rfl).1 ids.length (fun j => va_rf ((ids[j]?).map ad))) rfl (fun q => by cases q) (by show ¬ (i < 0 ∨ (arrV _ _ _).slots.size ≤ _); rw [arrV_size]; exact hin) (by show (arrV _ _ _).slots[_]? = _; rw [arrV_read _ _ hlt]; exact congrArg (fun o => some (va_rf o)) he) rfl rfl hd (K r M' hF p l e s m args below meth c D ad dA A mc ms hp H locs ls hP hD hS hl)
theorem j_aald2 {R : Type} {mt : Mt} {wr : R → Option Value} {pc : Nat} {lv : List (Nat × Value)} {st : List Value} {M : Mem} {F : Option (R × Mem)} {a : Nat} {ids : List Nat} {i : Int32} (hd : decode mt.2.1 pc = .ok (.aaload, 1)) (hs : mt.2.2.2.2.2[a]? = some (106, ids)) (K : vp_in i ids.length → J mt wr (pc + 1) lv (.ref (ids.getD i.toNatClampNeg 0) :: st) M F) : J mt wr pc lv (.int i :: .ref a :: st) M (gd i ids.length F) := by
  refine j_gd (fun hin => ?_)
  have K := K hin
  intro r M' hF p l e s m args below meth c D ad dA A mc ms hp H locs ls hP hD hS hl
  obtain ⟨hx, hb, hr, hml, hown, hts, hlk, hC⟩ := id hp
  have hlt : i.toNatClampNeg < ids.length := Nat.not_le.mp fun q => hin (Or.inr q)
  have he : (ids[i.toNatClampNeg]?).map ad = some (ad (ids.getD i.toNatClampNeg 0)) := by
    rw [List.getD_eq_getElem?_getD, List.getElem?_eq_getElem hlt]; rfl
  refine W.aald (v := .ref (ad (ids.getD i.toNatClampNeg 0))) (ty := (.array .long)) hx hb (hP a _ (lay_refs (t := 2) hs)) ((hC.1.2 6 _ rfl).1 ids.length (fun j => va_rf ((ids[j]?).map ad))) rfl (fun q => by cases q) (by show ¬ (i < 0 ∨ (arrV _ _ _).slots.size ≤ _); rw [arrV_size]; exact hin) (by show (arrV _ _ _).slots[_]? = _; rw [arrV_read _ _ hlt]; exact congrArg (fun o => some (va_rf o)) he) rfl rfl hd (K r M' hF p l e s m args below meth c D ad dA A mc ms hp H locs ls hP hD hS hl)
theorem j_iast {R : Type} {mt : Mt} {wr : R → Option Value} {pc : Nat} {lv : List (Nat × Value)} {st : List Value} {M : Mem} {F : Option (R × Mem)} {a n : Nat} {i x : Int32} (hd : decode mt.2.1 pc = .ok (.iastore, 1)) (hs : mt.2.2.2.2.2[a]? = some (100, [n])) (K : vp_in i n → J mt wr (pc + 1) lv st (si M a i.toNatClampNeg x) F) : J mt wr pc lv (.int x :: .int i :: .ref a :: st) M (gd i n F) := by
  refine j_gd (fun hin => ?_)
  have K := K hin
  intro r M' hF p l e s m args below meth c D ad dA A mc ms hp H locs ls hP hD hS hl
  obtain ⟨hx, hb, hr, hml, hown, hts, hlk, hC⟩ := id hp
  have hset : (lay ad dA mt.2.2.2.2.2 M).set a (ad a, .inl (dA 0, n, .inl (upd (M.1 a) i.toNatClampNeg x))) = lay ad dA mt.2.2.2.2.2 (si M a i.toNatClampNeg x) := by
    refine lay_set hs ?_ (fun j hj => si_off hj)
    have e : upd (M.1 a) i.toNatClampNeg x = (si M a i.toNatClampNeg x).1 a := by funext y; simp [upd, si]
    rw [e]
    rfl
  refine va_iast (D := D) hx hb hC.1 hP hD hS a 0 (lay_int (t := 0) hs (by decide)) rfl hin hd (fun H1 locs1 hP1 hD1 hS1 => ?_)
  rw [hset] at hP1 hD1
  exact K r M' hF p l e s m args below meth c D ad dA A mc ms hp H1 locs1 ls hP1 hD1 hS1 hl
theorem j_bast {R : Type} {mt : Mt} {wr : R → Option Value} {pc : Nat} {lv : List (Nat × Value)} {st : List Value} {M : Mem} {F : Option (R × Mem)} {a n : Nat} {i x : Int32} (hd : decode mt.2.1 pc = .ok (.bastore, 1)) (hs : mt.2.2.2.2.2[a]? = some (101, [n])) (K : vp_in i n → J mt wr (pc + 1) lv st (si M a i.toNatClampNeg (vp_nar .byte x)) F) : J mt wr pc lv (.int x :: .int i :: .ref a :: st) M (gd i n F) := by
  refine j_gd (fun hin => ?_)
  have K := K hin
  intro r M' hF p l e s m args below meth c D ad dA A mc ms hp H locs ls hP hD hS hl
  obtain ⟨hx, hb, hr, hml, hown, hts, hlk, hC⟩ := id hp
  have hset : (lay ad dA mt.2.2.2.2.2 M).set a (ad a, .inl (dA 1, n, .inl (upd (M.1 a) i.toNatClampNeg (vp_nar .byte x)))) = lay ad dA mt.2.2.2.2.2 (si M a i.toNatClampNeg (vp_nar .byte x)) := by
    refine lay_set hs ?_ (fun j hj => si_off hj)
    have e : upd (M.1 a) i.toNatClampNeg (vp_nar .byte x) = (si M a i.toNatClampNeg (vp_nar .byte x)).1 a := by funext y; simp [upd, si]
    rw [e]
    rfl
  refine va_bast (D := D) hx hb hC.1 hP hD hS a 1 (lay_int (t := 1) hs (by decide)) rfl hin hd (fun H1 locs1 hP1 hD1 hS1 => ?_)
  rw [hset] at hP1 hD1
  exact K r M' hF p l e s m args below meth c D ad dA A mc ms hp H1 locs1 ls hP1 hD1 hS1 hl
theorem j_zast {R : Type} {mt : Mt} {wr : R → Option Value} {pc : Nat} {lv : List (Nat × Value)} {st : List Value} {M : Mem} {F : Option (R × Mem)} {a n : Nat} {i x : Int32} (hd : decode mt.2.1 pc = .ok (.bastore, 1)) (hs : mt.2.2.2.2.2[a]? = some (102, [n])) (K : vp_in i n → J mt wr (pc + 1) lv st (si M a i.toNatClampNeg (vp_nar .boolean x)) F) : J mt wr pc lv (.int x :: .int i :: .ref a :: st) M (gd i n F) := by
  refine j_gd (fun hin => ?_)
  have K := K hin
  intro r M' hF p l e s m args below meth c D ad dA A mc ms hp H locs ls hP hD hS hl
  obtain ⟨hx, hb, hr, hml, hown, hts, hlk, hC⟩ := id hp
  have hset : (lay ad dA mt.2.2.2.2.2 M).set a (ad a, .inl (dA 2, n, .inl (upd (M.1 a) i.toNatClampNeg (vp_nar .boolean x)))) = lay ad dA mt.2.2.2.2.2 (si M a i.toNatClampNeg (vp_nar .boolean x)) := by
    refine lay_set hs ?_ (fun j hj => si_off hj)
    have e : upd (M.1 a) i.toNatClampNeg (vp_nar .boolean x) = (si M a i.toNatClampNeg (vp_nar .boolean x)).1 a := by funext y; simp [upd, si]
    rw [e]
    rfl
  refine va_zast (D := D) hx hb hC.1 hP hD hS a 2 (lay_int (t := 2) hs (by decide)) rfl hin hd (fun H1 locs1 hP1 hD1 hS1 => ?_)
  rw [hset] at hP1 hD1
  exact K r M' hF p l e s m args below meth c D ad dA A mc ms hp H1 locs1 ls hP1 hD1 hS1 hl
theorem j_last {R : Type} {mt : Mt} {wr : R → Option Value} {pc : Nat} {lv : List (Nat × Value)} {st : List Value} {M : Mem} {F : Option (R × Mem)} {a n : Nat} {i : Int32} {x : Int64} (hd : decode mt.2.1 pc = .ok (.lastore, 1)) (hs : mt.2.2.2.2.2[a]? = some (103, [n])) (K : vp_in i n → J mt wr (pc + 1) lv st (sl M a i.toNatClampNeg x) F) : J mt wr pc lv (.long x :: .int i :: .ref a :: st) M (gd i n F) := by
  refine j_gd (fun hin => ?_)
  have K := K hin
  intro r M' hF p l e s m args below meth c D ad dA A mc ms hp H locs ls hP hD hS hl
  obtain ⟨hx, hb, hr, hml, hown, hts, hlk, hC⟩ := id hp
  have hset : (lay ad dA mt.2.2.2.2.2 M).set a (ad a, .inl (dA 3, n, .inr (.inl (vp_updL (M.2 a) i.toNatClampNeg x)))) = lay ad dA mt.2.2.2.2.2 (sl M a i.toNatClampNeg x) := by
    refine lay_set hs ?_ (fun j hj => sl_off hj)
    have e : vp_updL (M.2 a) i.toNatClampNeg x = (sl M a i.toNatClampNeg x).2 a := by funext y; simp [vp_updL, sl]
    rw [e]
    rfl
  refine va_last (D := D) hx hb hC.1 hP hD hS a 3 (lay_long hs) rfl hin hd (fun H1 locs1 hP1 hD1 hS1 => ?_)
  rw [hset] at hP1 hD1
  exact K r M' hF p l e s m args below meth c D ad dA A mc ms hp H1 locs1 ls hP1 hD1 hS1 hl
theorem j_alen {R : Type} {mt : Mt} {wr : R → Option Value} {pc : Nat} {lv : List (Nat × Value)} {st : List Value} {M : Mem} {F : Option (R × Mem)} {a n t : Nat} (hd : decode mt.2.1 pc = .ok (.arraylength, 1)) (hs : mt.2.2.2.2.2[a]? = some (100 + t, [n])) (ht : t < 3) (K : J mt wr (pc + 1) lv (.int (nI n) :: st) M F) : J mt wr pc lv (.ref a :: st) M F := by
  intro r M' hF p l e s m args below meth c D ad dA A mc ms hp H locs ls hP hD hS hl
  obtain ⟨hx, hb, hr, hml, hown, hts, hlk, hC⟩ := id hp
  have ht2 : ∃ ty, (tysOf dA)[t]? = some (dA t, ty) := by
    match t, ht with
    | 0, _ => exact ⟨_, rfl⟩
    | 1, _ => exact ⟨_, rfl⟩
    | 2, _ => exact ⟨_, rfl⟩
  obtain ⟨ty, ht2⟩ := ht2
  exact va_alen (D := D) hx hb hC.1 hP a t (lay_int hs ht) ht2 rfl hd (K r M' hF p l e s m args below meth c D ad dA A mc ms hp H locs ls hP hD hS hl)
theorem j_gets200 {R : Type} {mt : Mt} {wr : R → Option Value} {pc : Nat} {lv : List (Nat × Value)} {st : List Value} {M : Mem} {F : Option (R × Mem)} {idx : Nat} (hd : decode mt.2.1 pc = .ok (.getstatic idx, 3)) (hw : (mt.1, idx, "LESSER") ∈ nestF) (K : J mt wr (pc + 3) lv (.ref 200 :: st) M F) : J mt wr pc lv st M F := by
  intro r M' hF p l e s m args below meth c D ad dA A mc ms hp H locs ls hP hD hS hl
  obtain ⟨hx, hb, hr, hml, hown, hts, hlk, hC⟩ := id hp
  exact va_getsN hx hb hC.2.1 hS hown ((hC.2.2.2.2.2.2.2.2.2.1 _ hw).use rfl) (fun x h => h) hd (K r M' hF p l e s m args below meth c D ad dA A mc ms hp H locs ls hP hD hS hl)
theorem j_ialdS200 {R : Type} {mt : Mt} {wr : R → Option Value} {pc : Nat} {lv : List (Nat × Value)} {st : List Value} {M : Mem} {F : Option (R × Mem)} {i : Int32} (hd : decode mt.2.1 pc = .ok (.iaload, 1)) (K : vp_in i 15 → J mt wr (pc + 1) lv (.int (lsr i.toNatClampNeg) :: st) M F) : J mt wr pc lv (.int i :: .ref 200 :: st) M (gd i 15 F) := by
  refine j_gd (fun hin => ?_)
  have K := K hin
  intro r M' hF p l e s m args below meth c D ad dA A mc ms hp H locs ls hP hD hS hl
  obtain ⟨hx, hb, hr, hml, hown, hts, hlk, hC⟩ := id hp
  exact va_ti hx hb hC.2.2.1 hS hin rfl hd (K r M' hF p l e s m args below meth c D ad dA A mc ms hp H locs ls hP hD hS hl)
theorem j_gets201 {R : Type} {mt : Mt} {wr : R → Option Value} {pc : Nat} {lv : List (Nat × Value)} {st : List Value} {M : Mem} {F : Option (R × Mem)} {idx : Nat} (hd : decode mt.2.1 pc = .ok (.getstatic idx, 3)) (hw : (mt.1, idx, "GREATER") ∈ nestF) (K : J mt wr (pc + 3) lv (.ref 201 :: st) M F) : J mt wr pc lv st M F := by
  intro r M' hF p l e s m args below meth c D ad dA A mc ms hp H locs ls hP hD hS hl
  obtain ⟨hx, hb, hr, hml, hown, hts, hlk, hC⟩ := id hp
  exact va_getsN hx hb hC.2.2.2.1 hS hown ((hC.2.2.2.2.2.2.2.2.2.1 _ hw).use rfl) (fun x h => h) hd (K r M' hF p l e s m args below meth c D ad dA A mc ms hp H locs ls hP hD hS hl)
theorem j_ialdS201 {R : Type} {mt : Mt} {wr : R → Option Value} {pc : Nat} {lv : List (Nat × Value)} {st : List Value} {M : Mem} {F : Option (R × Mem)} {i : Int32} (hd : decode mt.2.1 pc = .ok (.iaload, 1)) (K : vp_in i 15 → J mt wr (pc + 1) lv (.int (grt i.toNatClampNeg) :: st) M F) : J mt wr pc lv (.int i :: .ref 201 :: st) M (gd i 15 F) := by
  refine j_gd (fun hin => ?_)
  have K := K hin
  intro r M' hF p l e s m args below meth c D ad dA A mc ms hp H locs ls hP hD hS hl
  obtain ⟨hx, hb, hr, hml, hown, hts, hlk, hC⟩ := id hp
  exact va_ti hx hb hC.2.2.2.2.1 hS hin rfl hd (K r M' hF p l e s m args below meth c D ad dA A mc ms hp H locs ls hP hD hS hl)
def gc {α : Type} (sp dp n : Int32) (n0 n1 : Nat) (F : Option α) : Option α := if sp < 0 ∨ dp < 0 ∨ n < 0 ∨ n0 < sp.toNatClampNeg + n.toNatClampNeg ∨ n1 < dp.toNatClampNeg + n.toNatClampNeg then none else F
theorem st8 {ad : Nat → Nat} {st : List Value} {d : Nat} (h1 : 1 ≤ d) (hst : (st.map fun v => v.category).sum ≤ 8) : ((st.map (rv ad)).map fun v => v.category).sum + (nativeFrameWords "java/lang/System" "arraycopy" 5 + 11) ≤ 64 * d := by
  rw [rv_cats]
  have : nativeFrameWords "java/lang/System" "arraycopy" 5 ≤ 40 := by decide +kernel
  omega
theorem j_copyI {R : Type} {mt : Mt} {wr : R → Option Value} {pc : Nat} {lv : List (Nat × Value)} {st : List Value} {M : Mem} {F : Option (R × Mem)} {a0 a1 n0 n1 idx : Nat} {sp dp n : Int32} (hd : decode mt.2.1 pc = .ok (.invokestatic idx, 3)) (hw : Cond.methodLink mt.1 idx arraycopyName ∈ tbl) (hwn : Cond.native arraycopyName ∈ tbl) (hws : Cond.static arraycopyName ∈ tbl) (hs0 : mt.2.2.2.2.2[a0]? = some (100, [n0])) (hs1 : mt.2.2.2.2.2[a1]? = some (100, [n1])) (hdp : 1 ≤ mt.2.2.2.2.1) (hst : (st.map fun v => v.category).sum ≤ 8) (K : J mt wr (pc + 3) lv st (cpI M a0 sp.toNatClampNeg a1 dp.toNatClampNeg n.toNatClampNeg) F) : J mt wr pc lv (.int n :: .int dp :: .ref a1 :: .int sp :: .ref a0 :: st) M (gc sp dp n n0 n1 F) := by
  unfold gc
  by_cases hg : sp < 0 ∨ dp < 0 ∨ n < 0 ∨ n0 < sp.toNatClampNeg + n.toNatClampNeg ∨ n1 < dp.toNatClampNeg + n.toNatClampNeg
  · rw [if_pos hg]; exact j_none
  rw [if_neg hg]
  simp only [not_or] at hg
  obtain ⟨g1, g2, g3, g4, g5⟩ := hg
  intro r M' hF p l e s m args below meth c D ad dA A mc ms hp H locs ls hP hD hS hl
  obtain ⟨hx, hb, hr, hml, hown, hts, hlk, hC⟩ := id hp
  have hset : (lay ad dA mt.2.2.2.2.2 M).set a1 (ad a1, .inl (dA 0, n1, .inl (va_cpy (M.1 a0) (M.1 a1) sp.toNatClampNeg dp.toNatClampNeg n.toNatClampNeg))) = lay ad dA mt.2.2.2.2.2 (cpI M a0 sp.toNatClampNeg a1 dp.toNatClampNeg n.toNatClampNeg) := by
    refine lay_set hs1 ?_ (fun j hj => cpI_off hj)
    have e : va_cpy (M.1 a0) (M.1 a1) sp.toNatClampNeg dp.toNatClampNeg n.toNatClampNeg = (cpI M a0 sp.toNatClampNeg a1 dp.toNatClampNeg n.toNatClampNeg).1 a1 := by funext y; simp [va_cpy, cpI]
    rw [e]
    rfl
  refine va_copyi (D := D) hx hb (hml.trans hl.1.symm) hown (hts _ hw) (hts _ hwn) (hts _ hws) (hts _ ini_System) hC.1 hP hD hS a0 a1 0 0 (lay_int (t := 0) hs0 (by decide)) (lay_int (t := 0) hs1 (by decide)) rfl rfl rfl g1 g2 g3 (Nat.not_lt.mp g4) (Nat.not_lt.mp g5) (fun i _ => rfl) hdp (st8 hdp hst) hd (fun H1 locs1 hP1 hD1 hS1 => ?_)
  rw [hset] at hP1 hD1
  exact K r M' hF p l e s m args below meth c D ad dA A mc ms hp H1 locs1 ls hP1 hD1 hS1 hl
theorem j_copyL {R : Type} {mt : Mt} {wr : R → Option Value} {pc : Nat} {lv : List (Nat × Value)} {st : List Value} {M : Mem} {F : Option (R × Mem)} {a0 a1 n0 n1 idx : Nat} {sp dp n : Int32} (hd : decode mt.2.1 pc = .ok (.invokestatic idx, 3)) (hw : Cond.methodLink mt.1 idx arraycopyName ∈ tbl) (hwn : Cond.native arraycopyName ∈ tbl) (hws : Cond.static arraycopyName ∈ tbl) (hs0 : mt.2.2.2.2.2[a0]? = some (103, [n0])) (hs1 : mt.2.2.2.2.2[a1]? = some (103, [n1])) (hdp : 1 ≤ mt.2.2.2.2.1) (hst : (st.map fun v => v.category).sum ≤ 8) (K : J mt wr (pc + 3) lv st (cpL M a0 sp.toNatClampNeg a1 dp.toNatClampNeg n.toNatClampNeg) F) : J mt wr pc lv (.int n :: .int dp :: .ref a1 :: .int sp :: .ref a0 :: st) M (gc sp dp n n0 n1 F) := by
  unfold gc
  by_cases hg : sp < 0 ∨ dp < 0 ∨ n < 0 ∨ n0 < sp.toNatClampNeg + n.toNatClampNeg ∨ n1 < dp.toNatClampNeg + n.toNatClampNeg
  · rw [if_pos hg]; exact j_none
  rw [if_neg hg]
  simp only [not_or] at hg
  obtain ⟨g1, g2, g3, g4, g5⟩ := hg
  intro r M' hF p l e s m args below meth c D ad dA A mc ms hp H locs ls hP hD hS hl
  obtain ⟨hx, hb, hr, hml, hown, hts, hlk, hC⟩ := id hp
  have hset : (lay ad dA mt.2.2.2.2.2 M).set a1 (ad a1, .inl (dA 3, n1, .inr (.inl (va_cpy (M.2 a0) (M.2 a1) sp.toNatClampNeg dp.toNatClampNeg n.toNatClampNeg)))) = lay ad dA mt.2.2.2.2.2 (cpL M a0 sp.toNatClampNeg a1 dp.toNatClampNeg n.toNatClampNeg) := by
    refine lay_set hs1 ?_ (fun j hj => cpL_off hj)
    have e : va_cpy (M.2 a0) (M.2 a1) sp.toNatClampNeg dp.toNatClampNeg n.toNatClampNeg = (cpL M a0 sp.toNatClampNeg a1 dp.toNatClampNeg n.toNatClampNeg).2 a1 := by funext y; simp [va_cpy, cpL]
    rw [e]
    rfl
  refine va_copyl (D := D) hx hb (hml.trans hl.1.symm) hown (hts _ hw) (hts _ hwn) (hts _ hws) (hts _ ini_System) hC.1 hP hD hS a0 a1 3 3 (lay_long hs0) (lay_long hs1) rfl rfl rfl g1 g2 g3 (Nat.not_lt.mp g4) (Nat.not_lt.mp g5) (fun i _ => rfl) hdp (st8 hdp hst) hd (fun H1 locs1 hP1 hD1 hS1 => ?_)
  rw [hset] at hP1 hD1
  exact K r M' hF p l e s m args below meth c D ad dA A mc ms hp H1 locs1 ls hP1 hD1 hS1 hl
theorem j_mmax {R : Type} {mt : Mt} {wr : R → Option Value} {pc : Nat} {lv : List (Nat × Value)} {st : List Value} {M : Mem} {F : Option (R × Mem)} {x y : Int32} {idx : Nat} (hd : decode mt.2.1 pc = .ok (.invokestatic idx, 3)) (hw : Cond.methodLink mt.1 idx Lib.Math.max.name ∈ tbl) (hws : Cond.static Lib.Math.max.name ∈ tbl) (hwc : Cond.code Lib.Math.max.name Lib.Math.max.code 2 (some .int) ∈ tbl) (hdp : 1 ≤ mt.2.2.2.2.1) (hst : (st.map fun v => v.category).sum ≤ 8) (K : J mt wr (pc + 3) lv (.int (if x < y then y else x) :: st) M F) : J mt wr pc lv (.int y :: .int x :: st) M F := by
  intro r M' hF p l e s m args below meth c D ad dA A mc ms hp H locs ls hP hD hS hl
  obtain ⟨hx, hb, hr, hml, hown, hts, hlk, hC⟩ := id hp
  refine va_mmax hx hb (hml.trans hl.1.symm) hown (hts _ hw) (hts _ hws) (hts _ ini_Math) (hts _ hwc) hdp ?_ (Nat.le_refl _) (Nat.le_refl _) hd (K r M' hF p l e s m args below meth c D ad dA A mc ms hp H locs ls hP hD hS hl)
  show ((st.map (rv ad)).map fun v => v.category).sum + 13 ≤ 64 * mt.2.2.2.2.1
  rw [rv_cats]
  omega
theorem j_mmin {R : Type} {mt : Mt} {wr : R → Option Value} {pc : Nat} {lv : List (Nat × Value)} {st : List Value} {M : Mem} {F : Option (R × Mem)} {x y : Int32} {idx : Nat} (hd : decode mt.2.1 pc = .ok (.invokestatic idx, 3)) (hw : Cond.methodLink mt.1 idx Lib.Math.min.name ∈ tbl) (hws : Cond.static Lib.Math.min.name ∈ tbl) (hwc : Cond.code Lib.Math.min.name Lib.Math.min.code 2 (some .int) ∈ tbl) (hdp : 1 ≤ mt.2.2.2.2.1) (hst : (st.map fun v => v.category).sum ≤ 8) (K : J mt wr (pc + 3) lv (.int (if y < x then y else x) :: st) M F) : J mt wr pc lv (.int y :: .int x :: st) M F := by
  intro r M' hF p l e s m args below meth c D ad dA A mc ms hp H locs ls hP hD hS hl
  obtain ⟨hx, hb, hr, hml, hown, hts, hlk, hC⟩ := id hp
  refine va_mmin hx hb (hml.trans hl.1.symm) hown (hts _ hw) (hts _ hws) (hts _ ini_Math) (hts _ hwc) hdp ?_ (Nat.le_refl _) (Nat.le_refl _) hd (K r M' hF p l e s m args below meth c D ad dA A mc ms hp H locs ls hP hD hS hl)
  show ((st.map (rv ad)).map fun v => v.category).sum + 13 ≤ 64 * mt.2.2.2.2.1
  rw [rv_cats]
  omega
def CV (own : String) (idx : Nat) (y : MethodName) : Prop := Cond.methodLink own idx y ∈ tbl ∧ Cond.instanceMethod y ∈ tbl ∧ Cond.selects y.cls y y ∈ tbl ∧ Cond.initialized y.cls ∈ tbl
def CS (own : String) (idx : Nat) (y : MethodName) : Prop := Cond.methodLink own idx y ∈ tbl ∧ Cond.static y ∈ tbl ∧ Cond.initialized y.cls ∈ tbl
def CSN (own : String) (idx : Nat) (y : MethodName) : Prop := (own, idx, y) ∈ nestM ∧ Cond.static y ∈ tbl ∧ Cond.initialized y.cls ∈ tbl
def Dn (y : MethodName) (n : Nat) : Prop := y.cls ≠ "java/lang/invoke/MethodHandle" ∧ y.cls ≠ "java/lang/invoke/VarHandle" ∧ (parseMethodDescriptor y.desc).map (fun d => d.parameters.length) = some n
def nr {R : Type} (wr : R → Option Value) : Prop := ∀ (r : R) (ad : Nat → Nat), ((wr r).toList.map (rv ad)) = (wr r).toList
theorem nr_I : nr wI := fun _ _ => rfl
theorem nr_L : nr wL := fun _ _ => rfl
theorem nr_U : nr wU := fun _ _ => rfl
theorem good_cons {w : Cond} (h : w ∈ tbl) : GoodIn tbl (w :: tbl) := fun v hv => by
  rcases List.mem_cons.mp hv with rfl | hv
  · exact tbl_good _ h
  · exact tbl_good _ hv
section WC
variable {p : Program} {l : Launch} {e : Env} {R : Room} {s : State} {m : MethodId} {args : Array Value} {below : List Frame} {meth : Method} {c : Code} {H : Heap} {locs : List Loc} {cells slots : Nat} {Q : State → Prop} {pc : Nat} {ls : Array Slot} {rest st0 : List Value} {a : Array Value} {A : Nat → Prop}
theorem wr_call {wv : Option Value} {Post : State → Prop} (hr : va_Run p l e R s m args below meth c H locs cells slots 0 0 (F0 m pc ls st0) rest (Qr wv Post A a) A) (hS : va_S A s.heap H locs)
    (kk : ∀ (t : State) (H1 : Heap) (locs1 : List Loc), t.heap = H1 → Post t → va_S A s.heap H1 locs1 → W p l e R s m args below meth c H1 locs1 cells slots Q (F0 m (pc + 3) ls (wv.toList ++ rest))) : W p l e R s m args below meth c H locs cells slots Q (F0 m pc ls st0) := by
  intro T hT X
  obtain ⟨v, st₀, t, T', L, h0, X', hL, e1, e2, ⟨hv, hp, hz, hk⟩, st⟩ := hr T hT X
  cases hv
  rw [h0] at hz hk
  obtain ⟨t2, a1, b1⟩ := kk t T'.heap (locs ++ L) e1.symm hp
    ⟨Nat.le_trans hS.1 (by rw [e1]; exact hz), fun q h1 h2 => by rw [e1, hk q (Nat.lt_of_lt_of_le h1 hS.1) h2]; exact hS.2.1 q h1 h2, fun q hq => by
      rcases List.mem_append.mp hq with h | h
      · exact hS.2.2 q h
      · exact hL q h⟩ T' rfl X'
  exact ⟨t2, st t2 a1, b1⟩
end WC
theorem bd_some {α β : Type} {x : Option (α × Mem)} {f : α → Mem → Option β} {y : β} (h : bd x f = some y) : ∃ r N, x = some (r, N) ∧ f r N = some y := by
  match x, h with
  | some q, h => exact ⟨q.1, q.2, rfl, h⟩
theorem ct_blind {D : va_G} {ad : Nat → Nat} {dA : Nat → ClassId} {A : Nat → Prop} {sh : Shp} {M : Mem} {av : List Value} : FrameBlind (va_Pc av (fun U => Wd D ad dA A sh M U.heap ∧ Cx D ad dA A U U.heap)) := fun a U g mk q => ⟨q.1, q.2.1, q.2.2.blind⟩
theorem j_callV {R : Type} {mt : Mt} {wr : R → Option Value} {pc : Nat} {lv : List (Nat × Value)} {st : List Value} {M : Mem} {R2 : Type} {wr2 : R2 → Option Value} {mt2 : Mt} {F2 : Option (R2 × Mem)} {k : R2 → Mem → Option (R × Mem)} {y : MethodName} {idx n : Nat} {as : List Value} {a ci N : Nat} {ds : List Nat} {T : u_T} (hd : decode mt.2.1 pc = .ok (.invokevirtual idx, 3)) (hct : Ct y mt2 wr2 (.ref a :: as) M F2) (hw : CV mt.1 idx y) (hcd : Cond.code y mt2.2.1 mt2.2.2.1 mt2.2.2.2.1 ∈ tbl) (hdn : Dn y n) (hn : as.length = n) (hsh : mt2.2.2.2.2.2 = mt.2.2.2.2.2) (hdp : mt2.2.2.2.2.1 + 1 ≤ mt.2.2.2.2.1) (hmx : mt2.2.2.1 ≤ 40) (hst : (st.map fun v => v.category).sum ≤ 8) (hnr : nr wr2) (hs : mt.2.2.2.2.2[a]? = some (ci, ds)) (hc : ci < 100) (hcl : cl[ci]? = some (y.cls, T, N)) (K : ∀ (r : R2) (N : Mem), J mt wr (pc + 3) lv ((wr2 r).toList ++ st) N (k r N)) : J mt wr pc lv (as.reverse ++ .ref a :: st) M (bd F2 k) := by
  intro r M' hF p l e s m args below meth c D ad dA A mc ms hp H locs ls hP hD hS hl
  obtain ⟨hx, hb, hr, hml, hown, hts, hlk, hC⟩ := id hp
  obtain ⟨r1, M1, hF1, hF⟩ := bd_some hF
  have hM := hct r1 M1 hF1 l D ad dA A
  have hR : (rmd mt2.2.2.2.2.1).frames + 1 ≤ (rmc mt.2.2.2.2.1 mc ms).frames ∧ 8 + (mt2.2.2.1 + 11) + (rmd mt2.2.2.2.2.1).locals ≤ (rmc mt.2.2.2.2.1 mc ms).locals := by
    refine ⟨hdp, ?_⟩
    show 8 + (mt2.2.2.1 + 11) + 64 * mt2.2.2.2.2.1 ≤ 64 * mt.2.2.2.2.1
    omega
  refine wr_call (wv := wr2 r1) (rest := st.map (rv ad)) (va_runV (As := as.map (rv ad)) (b := ad a) (C := y.cls) (Ts := tbl) ⟨hx, hb, hml, hown, hts⟩ hM ⟨callB_of n hts (good_cons hcd) rfl rfl rfl (hts _ hw.2.2.2) (hts _ hw.1) hdn hR, hts _ hw.2.1, hts _ hw.2.2.1⟩ ⟨ct_blind, va_recv hC.1 hP hcl (lay_obj hs hc), fun U hU hW => ⟨rfl, by rw [hU, hsh]; exact ⟨hP, hD⟩, by rw [hU]; exact hC.next hS hW⟩⟩ rfl (by rw [List.length_map]; exact hn) hl.1 ?_ (lv_room (by rw [rv_cats]; exact hst)) hd ⟨Nat.le_refl _, Nat.le_refl _⟩) hS (fun t H1 locs1 ht hpost hS1 => ?_)
  · show (as.reverse ++ .ref a :: st).map (rv ad) = (as.map (rv ad)).reverse ++ .ref (ad a) :: st.map (rv ad)
    rw [List.map_append, List.map_reverse]
    rfl
  obtain ⟨hP1, hD1⟩ := hpost
  rw [ht] at hP1
  rw [hsh] at hP1 hD1
  have hk := K r1 M1 r M' hF p l e s m args below meth c D ad dA A mc ms hp H1 locs1 ls hP1 hD1 hS1 hl
  rw [List.map_append, hnr] at hk
  exact hk
theorem j_callS {R : Type} {mt : Mt} {wr : R → Option Value} {pc : Nat} {lv : List (Nat × Value)} {st : List Value} {M : Mem} {R2 : Type} {wr2 : R2 → Option Value} {mt2 : Mt} {F2 : Option (R2 × Mem)} {k : R2 → Mem → Option (R × Mem)} {y : MethodName} {idx n : Nat} {as : List Value} (hd : decode mt.2.1 pc = .ok (.invokestatic idx, 3)) (hct : Ct y mt2 wr2 as M F2) (hw : CS mt.1 idx y) (hcd : Cond.code y mt2.2.1 mt2.2.2.1 mt2.2.2.2.1 ∈ tbl) (hdn : Dn y n) (hn : as.length = n) (hsh : mt2.2.2.2.2.2 = mt.2.2.2.2.2) (hdp : mt2.2.2.2.2.1 + 1 ≤ mt.2.2.2.2.1) (hmx : mt2.2.2.1 ≤ 40) (hst : (st.map fun v => v.category).sum ≤ 8) (hnr : nr wr2) (K : ∀ (r : R2) (N : Mem), J mt wr (pc + 3) lv ((wr2 r).toList ++ st) N (k r N)) : J mt wr pc lv (as.reverse ++ st) M (bd F2 k) := by
  intro r M' hF p l e s m args below meth c D ad dA A mc ms hp H locs ls hP hD hS hl
  obtain ⟨hx, hb, hr, hml, hown, hts, hlk, hC⟩ := id hp
  obtain ⟨r1, M1, hF1, hF⟩ := bd_some hF
  have hM := hct r1 M1 hF1 l D ad dA A
  have hR : (rmd mt2.2.2.2.2.1).frames + 1 ≤ (rmc mt.2.2.2.2.1 mc ms).frames ∧ 8 + (mt2.2.2.1 + 11) + (rmd mt2.2.2.2.2.1).locals ≤ (rmc mt.2.2.2.2.1 mc ms).locals := by
    refine ⟨hdp, ?_⟩
    show 8 + (mt2.2.2.1 + 11) + 64 * mt2.2.2.2.2.1 ≤ 64 * mt.2.2.2.2.1
    omega
  refine wr_call (wv := wr2 r1) (rest := st.map (rv ad)) (va_runS (As := as.map (rv ad)) (Ts := tbl) ⟨hx, hb, hml, hown, hts⟩ hM ⟨callB_of n hts (good_cons hcd) rfl rfl rfl (hts _ hw.2.2) (hts _ hw.1) hdn hR, hts _ hw.2.1⟩ ⟨ct_blind, fun U hU hW => ⟨rfl, by rw [hU, hsh]; exact ⟨hP, hD⟩, by rw [hU]; exact hC.next hS hW⟩⟩ rfl (by rw [List.length_map]; exact hn) hl.1 ?_ (lv_room (by rw [rv_cats]; exact hst)) hd ⟨Nat.le_refl _, Nat.le_refl _⟩) hS (fun t H1 locs1 ht hpost hS1 => ?_)
  · show (as.reverse ++ st).map (rv ad) = (as.map (rv ad)).reverse ++ st.map (rv ad)
    rw [List.map_append, List.map_reverse]
  obtain ⟨hP1, hD1⟩ := hpost
  rw [ht] at hP1
  rw [hsh] at hP1 hD1
  have hk := K r1 M1 r M' hF p l e s m args below meth c D ad dA A mc ms hp H1 locs1 ls hP1 hD1 hS1 hl
  rw [List.map_append, hnr] at hk
  exact hk
theorem j_callSN {R : Type} {mt : Mt} {wr : R → Option Value} {pc : Nat} {lv : List (Nat × Value)} {st : List Value} {M : Mem} {R2 : Type} {wr2 : R2 → Option Value} {mt2 : Mt} {F2 : Option (R2 × Mem)} {k : R2 → Mem → Option (R × Mem)} {y : MethodName} {idx n : Nat} {as : List Value} (hd : decode mt.2.1 pc = .ok (.invokestatic idx, 3)) (hct : Ct y mt2 wr2 as M F2) (hw : CSN mt.1 idx y) (hcd : Cond.code y mt2.2.1 mt2.2.2.1 mt2.2.2.2.1 ∈ tbl) (hdn : Dn y n) (hn : as.length = n) (hsh : mt2.2.2.2.2.2 = mt.2.2.2.2.2) (hdp : mt2.2.2.2.2.1 + 1 ≤ mt.2.2.2.2.1) (hmx : mt2.2.2.1 ≤ 40) (hst : (st.map fun v => v.category).sum ≤ 8) (hnr : nr wr2) (K : ∀ (r : R2) (N : Mem), J mt wr (pc + 3) lv ((wr2 r).toList ++ st) N (k r N)) : J mt wr pc lv (as.reverse ++ st) M (bd F2 k) := by
  intro r M' hF p l e s m args below meth c D ad dA A mc ms hp H locs ls hP hD hS hl
  obtain ⟨hx, hb, hr, hml, hown, hts, hlk, hC⟩ := id hp
  obtain ⟨r1, M1, hF1, hF⟩ := bd_some hF
  have hM := hct r1 M1 hF1 l D ad dA A
  have hR : (rmd mt2.2.2.2.2.1).frames + 1 ≤ (rmc mt.2.2.2.2.1 mc ms).frames ∧ 8 + (mt2.2.2.1 + 11) + (rmd mt2.2.2.2.2.1).locals ≤ (rmc mt.2.2.2.2.1 mc ms).locals := by
    refine ⟨hdp, ?_⟩
    show 8 + (mt2.2.2.1 + 11) + 64 * mt2.2.2.2.2.1 ≤ 64 * mt.2.2.2.2.1
    omega
  refine wr_call (wv := wr2 r1) (rest := st.map (rv ad)) (va_runSN (As := as.map (rv ad)) (Ts := tbl) ⟨hx, hb, hml, hown, hts⟩ hM ⟨va_cnB n hts (good_cons hcd) rfl rfl rfl (hC.2.2.2.2.2.2.2.2.2.2 _ hw.1) (hts _ hw.2.2) hdn hR, hts _ hw.2.1, trivial⟩ ⟨ct_blind, fun U hU hW => ⟨rfl, by rw [hU, hsh]; exact ⟨hP, hD⟩, by rw [hU]; exact hC.next hS hW⟩⟩ rfl (by rw [List.length_map]; exact hn) hl.1 ?_ (lv_room (by rw [rv_cats]; exact hst)) hd ⟨Nat.le_refl _, Nat.le_refl _⟩) hS (fun t H1 locs1 ht hpost hS1 => ?_)
  · show (as.reverse ++ st).map (rv ad) = (as.map (rv ad)).reverse ++ st.map (rv ad)
    rw [List.map_append, List.map_reverse]
  obtain ⟨hP1, hD1⟩ := hpost
  rw [ht] at hP1
  rw [hsh] at hP1 hD1
  have hk := K r1 M1 r M' hF p l e s m args below meth c D ad dA A mc ms hp H1 locs1 ls hP1 hD1 hS1 hl
  rw [List.map_append, hnr] at hk
  exact hk
theorem j_callV0 {R : Type} {mt : Mt} {wr : R → Option Value} {pc : Nat} {lv : List (Nat × Value)} {st : List Value} {M : Mem} {R2 : Type} {wr2 : R2 → Option Value} {mt2 : Mt} {F2 : Option (R2 × Mem)} {k : R2 → Mem → Option (R × Mem)} {y : MethodName} {idx : Nat} {a ci N : Nat} {ds : List Nat} {T : u_T} (hd : decode mt.2.1 pc = .ok (.invokevirtual idx, 3)) (hct : Ct y mt2 wr2 (.ref a :: []) M F2) (hw : CV mt.1 idx y) (hcd : Cond.code y mt2.2.1 mt2.2.2.1 mt2.2.2.2.1 ∈ tbl) (hdn : Dn y 0) (hsh : mt2.2.2.2.2.2 = mt.2.2.2.2.2) (hdp : mt2.2.2.2.2.1 + 1 ≤ mt.2.2.2.2.1) (hmx : mt2.2.2.1 ≤ 40) (hst : (st.map fun v => v.category).sum ≤ 8) (hnr : nr wr2) (hs : mt.2.2.2.2.2[a]? = some (ci, ds)) (hc : ci < 100) (hcl : cl[ci]? = some (y.cls, T, N)) (K : ∀ (r : R2) (N : Mem), J mt wr (pc + 3) lv ((wr2 r).toList ++ st) N (k r N)) : J mt wr pc lv (.ref a :: st) M (bd F2 k) := j_callV (as := []) hd hct hw hcd hdn rfl hsh hdp hmx hst hnr hs hc hcl K
theorem j_callV1 {R : Type} {mt : Mt} {wr : R → Option Value} {pc : Nat} {lv : List (Nat × Value)} {st : List Value} {M : Mem} {R2 : Type} {wr2 : R2 → Option Value} {mt2 : Mt} {F2 : Option (R2 × Mem)} {k : R2 → Mem → Option (R × Mem)} {y : MethodName} {idx : Nat} {v0 : Value} {a ci N : Nat} {ds : List Nat} {T : u_T} (hd : decode mt.2.1 pc = .ok (.invokevirtual idx, 3)) (hct : Ct y mt2 wr2 (.ref a :: [v0]) M F2) (hw : CV mt.1 idx y) (hcd : Cond.code y mt2.2.1 mt2.2.2.1 mt2.2.2.2.1 ∈ tbl) (hdn : Dn y 1) (hsh : mt2.2.2.2.2.2 = mt.2.2.2.2.2) (hdp : mt2.2.2.2.2.1 + 1 ≤ mt.2.2.2.2.1) (hmx : mt2.2.2.1 ≤ 40) (hst : (st.map fun v => v.category).sum ≤ 8) (hnr : nr wr2) (hs : mt.2.2.2.2.2[a]? = some (ci, ds)) (hc : ci < 100) (hcl : cl[ci]? = some (y.cls, T, N)) (K : ∀ (r : R2) (N : Mem), J mt wr (pc + 3) lv ((wr2 r).toList ++ st) N (k r N)) : J mt wr pc lv (v0 :: .ref a :: st) M (bd F2 k) := j_callV (as := [v0]) hd hct hw hcd hdn rfl hsh hdp hmx hst hnr hs hc hcl K
theorem j_callS1 {R : Type} {mt : Mt} {wr : R → Option Value} {pc : Nat} {lv : List (Nat × Value)} {st : List Value} {M : Mem} {R2 : Type} {wr2 : R2 → Option Value} {mt2 : Mt} {F2 : Option (R2 × Mem)} {k : R2 → Mem → Option (R × Mem)} {y : MethodName} {idx : Nat} {v0 : Value} (hd : decode mt.2.1 pc = .ok (.invokestatic idx, 3)) (hct : Ct y mt2 wr2 [v0] M F2) (hw : CS mt.1 idx y) (hcd : Cond.code y mt2.2.1 mt2.2.2.1 mt2.2.2.2.1 ∈ tbl) (hdn : Dn y 1) (hsh : mt2.2.2.2.2.2 = mt.2.2.2.2.2) (hdp : mt2.2.2.2.2.1 + 1 ≤ mt.2.2.2.2.1) (hmx : mt2.2.2.1 ≤ 40) (hst : (st.map fun v => v.category).sum ≤ 8) (hnr : nr wr2) (K : ∀ (r : R2) (N : Mem), J mt wr (pc + 3) lv ((wr2 r).toList ++ st) N (k r N)) : J mt wr pc lv (v0 :: st) M (bd F2 k) := j_callS (as := [v0]) hd hct hw hcd hdn rfl hsh hdp hmx hst hnr K
theorem j_callSN1 {R : Type} {mt : Mt} {wr : R → Option Value} {pc : Nat} {lv : List (Nat × Value)} {st : List Value} {M : Mem} {R2 : Type} {wr2 : R2 → Option Value} {mt2 : Mt} {F2 : Option (R2 × Mem)} {k : R2 → Mem → Option (R × Mem)} {y : MethodName} {idx : Nat} {v0 : Value} (hd : decode mt.2.1 pc = .ok (.invokestatic idx, 3)) (hct : Ct y mt2 wr2 [v0] M F2) (hw : CSN mt.1 idx y) (hcd : Cond.code y mt2.2.1 mt2.2.2.1 mt2.2.2.2.1 ∈ tbl) (hdn : Dn y 1) (hsh : mt2.2.2.2.2.2 = mt.2.2.2.2.2) (hdp : mt2.2.2.2.2.1 + 1 ≤ mt.2.2.2.2.1) (hmx : mt2.2.2.1 ≤ 40) (hst : (st.map fun v => v.category).sum ≤ 8) (hnr : nr wr2) (K : ∀ (r : R2) (N : Mem), J mt wr (pc + 3) lv ((wr2 r).toList ++ st) N (k r N)) : J mt wr pc lv (v0 :: st) M (bd F2 k) := j_callSN (as := [v0]) hd hct hw hcd hdn rfl hsh hdp hmx hst hnr K
theorem j_callV2 {R : Type} {mt : Mt} {wr : R → Option Value} {pc : Nat} {lv : List (Nat × Value)} {st : List Value} {M : Mem} {R2 : Type} {wr2 : R2 → Option Value} {mt2 : Mt} {F2 : Option (R2 × Mem)} {k : R2 → Mem → Option (R × Mem)} {y : MethodName} {idx : Nat} {v0 v1 : Value} {a ci N : Nat} {ds : List Nat} {T : u_T} (hd : decode mt.2.1 pc = .ok (.invokevirtual idx, 3)) (hct : Ct y mt2 wr2 (.ref a :: [v0, v1]) M F2) (hw : CV mt.1 idx y) (hcd : Cond.code y mt2.2.1 mt2.2.2.1 mt2.2.2.2.1 ∈ tbl) (hdn : Dn y 2) (hsh : mt2.2.2.2.2.2 = mt.2.2.2.2.2) (hdp : mt2.2.2.2.2.1 + 1 ≤ mt.2.2.2.2.1) (hmx : mt2.2.2.1 ≤ 40) (hst : (st.map fun v => v.category).sum ≤ 8) (hnr : nr wr2) (hs : mt.2.2.2.2.2[a]? = some (ci, ds)) (hc : ci < 100) (hcl : cl[ci]? = some (y.cls, T, N)) (K : ∀ (r : R2) (N : Mem), J mt wr (pc + 3) lv ((wr2 r).toList ++ st) N (k r N)) : J mt wr pc lv (v1 :: v0 :: .ref a :: st) M (bd F2 k) := j_callV (as := [v0, v1]) hd hct hw hcd hdn rfl hsh hdp hmx hst hnr hs hc hcl K
theorem j_callS2 {R : Type} {mt : Mt} {wr : R → Option Value} {pc : Nat} {lv : List (Nat × Value)} {st : List Value} {M : Mem} {R2 : Type} {wr2 : R2 → Option Value} {mt2 : Mt} {F2 : Option (R2 × Mem)} {k : R2 → Mem → Option (R × Mem)} {y : MethodName} {idx : Nat} {v0 v1 : Value} (hd : decode mt.2.1 pc = .ok (.invokestatic idx, 3)) (hct : Ct y mt2 wr2 [v0, v1] M F2) (hw : CS mt.1 idx y) (hcd : Cond.code y mt2.2.1 mt2.2.2.1 mt2.2.2.2.1 ∈ tbl) (hdn : Dn y 2) (hsh : mt2.2.2.2.2.2 = mt.2.2.2.2.2) (hdp : mt2.2.2.2.2.1 + 1 ≤ mt.2.2.2.2.1) (hmx : mt2.2.2.1 ≤ 40) (hst : (st.map fun v => v.category).sum ≤ 8) (hnr : nr wr2) (K : ∀ (r : R2) (N : Mem), J mt wr (pc + 3) lv ((wr2 r).toList ++ st) N (k r N)) : J mt wr pc lv (v1 :: v0 :: st) M (bd F2 k) := j_callS (as := [v0, v1]) hd hct hw hcd hdn rfl hsh hdp hmx hst hnr K
theorem j_callSN2 {R : Type} {mt : Mt} {wr : R → Option Value} {pc : Nat} {lv : List (Nat × Value)} {st : List Value} {M : Mem} {R2 : Type} {wr2 : R2 → Option Value} {mt2 : Mt} {F2 : Option (R2 × Mem)} {k : R2 → Mem → Option (R × Mem)} {y : MethodName} {idx : Nat} {v0 v1 : Value} (hd : decode mt.2.1 pc = .ok (.invokestatic idx, 3)) (hct : Ct y mt2 wr2 [v0, v1] M F2) (hw : CSN mt.1 idx y) (hcd : Cond.code y mt2.2.1 mt2.2.2.1 mt2.2.2.2.1 ∈ tbl) (hdn : Dn y 2) (hsh : mt2.2.2.2.2.2 = mt.2.2.2.2.2) (hdp : mt2.2.2.2.2.1 + 1 ≤ mt.2.2.2.2.1) (hmx : mt2.2.2.1 ≤ 40) (hst : (st.map fun v => v.category).sum ≤ 8) (hnr : nr wr2) (K : ∀ (r : R2) (N : Mem), J mt wr (pc + 3) lv ((wr2 r).toList ++ st) N (k r N)) : J mt wr pc lv (v1 :: v0 :: st) M (bd F2 k) := j_callSN (as := [v0, v1]) hd hct hw hcd hdn rfl hsh hdp hmx hst hnr K
theorem j_callV3 {R : Type} {mt : Mt} {wr : R → Option Value} {pc : Nat} {lv : List (Nat × Value)} {st : List Value} {M : Mem} {R2 : Type} {wr2 : R2 → Option Value} {mt2 : Mt} {F2 : Option (R2 × Mem)} {k : R2 → Mem → Option (R × Mem)} {y : MethodName} {idx : Nat} {v0 v1 v2 : Value} {a ci N : Nat} {ds : List Nat} {T : u_T} (hd : decode mt.2.1 pc = .ok (.invokevirtual idx, 3)) (hct : Ct y mt2 wr2 (.ref a :: [v0, v1, v2]) M F2) (hw : CV mt.1 idx y) (hcd : Cond.code y mt2.2.1 mt2.2.2.1 mt2.2.2.2.1 ∈ tbl) (hdn : Dn y 3) (hsh : mt2.2.2.2.2.2 = mt.2.2.2.2.2) (hdp : mt2.2.2.2.2.1 + 1 ≤ mt.2.2.2.2.1) (hmx : mt2.2.2.1 ≤ 40) (hst : (st.map fun v => v.category).sum ≤ 8) (hnr : nr wr2) (hs : mt.2.2.2.2.2[a]? = some (ci, ds)) (hc : ci < 100) (hcl : cl[ci]? = some (y.cls, T, N)) (K : ∀ (r : R2) (N : Mem), J mt wr (pc + 3) lv ((wr2 r).toList ++ st) N (k r N)) : J mt wr pc lv (v2 :: v1 :: v0 :: .ref a :: st) M (bd F2 k) := j_callV (as := [v0, v1, v2]) hd hct hw hcd hdn rfl hsh hdp hmx hst hnr hs hc hcl K
theorem j_callS3 {R : Type} {mt : Mt} {wr : R → Option Value} {pc : Nat} {lv : List (Nat × Value)} {st : List Value} {M : Mem} {R2 : Type} {wr2 : R2 → Option Value} {mt2 : Mt} {F2 : Option (R2 × Mem)} {k : R2 → Mem → Option (R × Mem)} {y : MethodName} {idx : Nat} {v0 v1 v2 : Value} (hd : decode mt.2.1 pc = .ok (.invokestatic idx, 3)) (hct : Ct y mt2 wr2 [v0, v1, v2] M F2) (hw : CS mt.1 idx y) (hcd : Cond.code y mt2.2.1 mt2.2.2.1 mt2.2.2.2.1 ∈ tbl) (hdn : Dn y 3) (hsh : mt2.2.2.2.2.2 = mt.2.2.2.2.2) (hdp : mt2.2.2.2.2.1 + 1 ≤ mt.2.2.2.2.1) (hmx : mt2.2.2.1 ≤ 40) (hst : (st.map fun v => v.category).sum ≤ 8) (hnr : nr wr2) (K : ∀ (r : R2) (N : Mem), J mt wr (pc + 3) lv ((wr2 r).toList ++ st) N (k r N)) : J mt wr pc lv (v2 :: v1 :: v0 :: st) M (bd F2 k) := j_callS (as := [v0, v1, v2]) hd hct hw hcd hdn rfl hsh hdp hmx hst hnr K
theorem j_callSN3 {R : Type} {mt : Mt} {wr : R → Option Value} {pc : Nat} {lv : List (Nat × Value)} {st : List Value} {M : Mem} {R2 : Type} {wr2 : R2 → Option Value} {mt2 : Mt} {F2 : Option (R2 × Mem)} {k : R2 → Mem → Option (R × Mem)} {y : MethodName} {idx : Nat} {v0 v1 v2 : Value} (hd : decode mt.2.1 pc = .ok (.invokestatic idx, 3)) (hct : Ct y mt2 wr2 [v0, v1, v2] M F2) (hw : CSN mt.1 idx y) (hcd : Cond.code y mt2.2.1 mt2.2.2.1 mt2.2.2.2.1 ∈ tbl) (hdn : Dn y 3) (hsh : mt2.2.2.2.2.2 = mt.2.2.2.2.2) (hdp : mt2.2.2.2.2.1 + 1 ≤ mt.2.2.2.2.1) (hmx : mt2.2.2.1 ≤ 40) (hst : (st.map fun v => v.category).sum ≤ 8) (hnr : nr wr2) (K : ∀ (r : R2) (N : Mem), J mt wr (pc + 3) lv ((wr2 r).toList ++ st) N (k r N)) : J mt wr pc lv (v2 :: v1 :: v0 :: st) M (bd F2 k) := j_callSN (as := [v0, v1, v2]) hd hct hw hcd hdn rfl hsh hdp hmx hst hnr K
theorem j_callV4 {R : Type} {mt : Mt} {wr : R → Option Value} {pc : Nat} {lv : List (Nat × Value)} {st : List Value} {M : Mem} {R2 : Type} {wr2 : R2 → Option Value} {mt2 : Mt} {F2 : Option (R2 × Mem)} {k : R2 → Mem → Option (R × Mem)} {y : MethodName} {idx : Nat} {v0 v1 v2 v3 : Value} {a ci N : Nat} {ds : List Nat} {T : u_T} (hd : decode mt.2.1 pc = .ok (.invokevirtual idx, 3)) (hct : Ct y mt2 wr2 (.ref a :: [v0, v1, v2, v3]) M F2) (hw : CV mt.1 idx y) (hcd : Cond.code y mt2.2.1 mt2.2.2.1 mt2.2.2.2.1 ∈ tbl) (hdn : Dn y 4) (hsh : mt2.2.2.2.2.2 = mt.2.2.2.2.2) (hdp : mt2.2.2.2.2.1 + 1 ≤ mt.2.2.2.2.1) (hmx : mt2.2.2.1 ≤ 40) (hst : (st.map fun v => v.category).sum ≤ 8) (hnr : nr wr2) (hs : mt.2.2.2.2.2[a]? = some (ci, ds)) (hc : ci < 100) (hcl : cl[ci]? = some (y.cls, T, N)) (K : ∀ (r : R2) (N : Mem), J mt wr (pc + 3) lv ((wr2 r).toList ++ st) N (k r N)) : J mt wr pc lv (v3 :: v2 :: v1 :: v0 :: .ref a :: st) M (bd F2 k) := j_callV (as := [v0, v1, v2, v3]) hd hct hw hcd hdn rfl hsh hdp hmx hst hnr hs hc hcl K
theorem j_callS4 {R : Type} {mt : Mt} {wr : R → Option Value} {pc : Nat} {lv : List (Nat × Value)} {st : List Value} {M : Mem} {R2 : Type} {wr2 : R2 → Option Value} {mt2 : Mt} {F2 : Option (R2 × Mem)} {k : R2 → Mem → Option (R × Mem)} {y : MethodName} {idx : Nat} {v0 v1 v2 v3 : Value} (hd : decode mt.2.1 pc = .ok (.invokestatic idx, 3)) (hct : Ct y mt2 wr2 [v0, v1, v2, v3] M F2) (hw : CS mt.1 idx y) (hcd : Cond.code y mt2.2.1 mt2.2.2.1 mt2.2.2.2.1 ∈ tbl) (hdn : Dn y 4) (hsh : mt2.2.2.2.2.2 = mt.2.2.2.2.2) (hdp : mt2.2.2.2.2.1 + 1 ≤ mt.2.2.2.2.1) (hmx : mt2.2.2.1 ≤ 40) (hst : (st.map fun v => v.category).sum ≤ 8) (hnr : nr wr2) (K : ∀ (r : R2) (N : Mem), J mt wr (pc + 3) lv ((wr2 r).toList ++ st) N (k r N)) : J mt wr pc lv (v3 :: v2 :: v1 :: v0 :: st) M (bd F2 k) := j_callS (as := [v0, v1, v2, v3]) hd hct hw hcd hdn rfl hsh hdp hmx hst hnr K
theorem j_callSN4 {R : Type} {mt : Mt} {wr : R → Option Value} {pc : Nat} {lv : List (Nat × Value)} {st : List Value} {M : Mem} {R2 : Type} {wr2 : R2 → Option Value} {mt2 : Mt} {F2 : Option (R2 × Mem)} {k : R2 → Mem → Option (R × Mem)} {y : MethodName} {idx : Nat} {v0 v1 v2 v3 : Value} (hd : decode mt.2.1 pc = .ok (.invokestatic idx, 3)) (hct : Ct y mt2 wr2 [v0, v1, v2, v3] M F2) (hw : CSN mt.1 idx y) (hcd : Cond.code y mt2.2.1 mt2.2.2.1 mt2.2.2.2.1 ∈ tbl) (hdn : Dn y 4) (hsh : mt2.2.2.2.2.2 = mt.2.2.2.2.2) (hdp : mt2.2.2.2.2.1 + 1 ≤ mt.2.2.2.2.1) (hmx : mt2.2.2.1 ≤ 40) (hst : (st.map fun v => v.category).sum ≤ 8) (hnr : nr wr2) (K : ∀ (r : R2) (N : Mem), J mt wr (pc + 3) lv ((wr2 r).toList ++ st) N (k r N)) : J mt wr pc lv (v3 :: v2 :: v1 :: v0 :: st) M (bd F2 k) := j_callSN (as := [v0, v1, v2, v3]) hd hct hw hcd hdn rfl hsh hdp hmx hst hnr K
theorem j_callV5 {R : Type} {mt : Mt} {wr : R → Option Value} {pc : Nat} {lv : List (Nat × Value)} {st : List Value} {M : Mem} {R2 : Type} {wr2 : R2 → Option Value} {mt2 : Mt} {F2 : Option (R2 × Mem)} {k : R2 → Mem → Option (R × Mem)} {y : MethodName} {idx : Nat} {v0 v1 v2 v3 v4 : Value} {a ci N : Nat} {ds : List Nat} {T : u_T} (hd : decode mt.2.1 pc = .ok (.invokevirtual idx, 3)) (hct : Ct y mt2 wr2 (.ref a :: [v0, v1, v2, v3, v4]) M F2) (hw : CV mt.1 idx y) (hcd : Cond.code y mt2.2.1 mt2.2.2.1 mt2.2.2.2.1 ∈ tbl) (hdn : Dn y 5) (hsh : mt2.2.2.2.2.2 = mt.2.2.2.2.2) (hdp : mt2.2.2.2.2.1 + 1 ≤ mt.2.2.2.2.1) (hmx : mt2.2.2.1 ≤ 40) (hst : (st.map fun v => v.category).sum ≤ 8) (hnr : nr wr2) (hs : mt.2.2.2.2.2[a]? = some (ci, ds)) (hc : ci < 100) (hcl : cl[ci]? = some (y.cls, T, N)) (K : ∀ (r : R2) (N : Mem), J mt wr (pc + 3) lv ((wr2 r).toList ++ st) N (k r N)) : J mt wr pc lv (v4 :: v3 :: v2 :: v1 :: v0 :: .ref a :: st) M (bd F2 k) := j_callV (as := [v0, v1, v2, v3, v4]) hd hct hw hcd hdn rfl hsh hdp hmx hst hnr hs hc hcl K
theorem j_callS5 {R : Type} {mt : Mt} {wr : R → Option Value} {pc : Nat} {lv : List (Nat × Value)} {st : List Value} {M : Mem} {R2 : Type} {wr2 : R2 → Option Value} {mt2 : Mt} {F2 : Option (R2 × Mem)} {k : R2 → Mem → Option (R × Mem)} {y : MethodName} {idx : Nat} {v0 v1 v2 v3 v4 : Value} (hd : decode mt.2.1 pc = .ok (.invokestatic idx, 3)) (hct : Ct y mt2 wr2 [v0, v1, v2, v3, v4] M F2) (hw : CS mt.1 idx y) (hcd : Cond.code y mt2.2.1 mt2.2.2.1 mt2.2.2.2.1 ∈ tbl) (hdn : Dn y 5) (hsh : mt2.2.2.2.2.2 = mt.2.2.2.2.2) (hdp : mt2.2.2.2.2.1 + 1 ≤ mt.2.2.2.2.1) (hmx : mt2.2.2.1 ≤ 40) (hst : (st.map fun v => v.category).sum ≤ 8) (hnr : nr wr2) (K : ∀ (r : R2) (N : Mem), J mt wr (pc + 3) lv ((wr2 r).toList ++ st) N (k r N)) : J mt wr pc lv (v4 :: v3 :: v2 :: v1 :: v0 :: st) M (bd F2 k) := j_callS (as := [v0, v1, v2, v3, v4]) hd hct hw hcd hdn rfl hsh hdp hmx hst hnr K
theorem j_callSN5 {R : Type} {mt : Mt} {wr : R → Option Value} {pc : Nat} {lv : List (Nat × Value)} {st : List Value} {M : Mem} {R2 : Type} {wr2 : R2 → Option Value} {mt2 : Mt} {F2 : Option (R2 × Mem)} {k : R2 → Mem → Option (R × Mem)} {y : MethodName} {idx : Nat} {v0 v1 v2 v3 v4 : Value} (hd : decode mt.2.1 pc = .ok (.invokestatic idx, 3)) (hct : Ct y mt2 wr2 [v0, v1, v2, v3, v4] M F2) (hw : CSN mt.1 idx y) (hcd : Cond.code y mt2.2.1 mt2.2.2.1 mt2.2.2.2.1 ∈ tbl) (hdn : Dn y 5) (hsh : mt2.2.2.2.2.2 = mt.2.2.2.2.2) (hdp : mt2.2.2.2.2.1 + 1 ≤ mt.2.2.2.2.1) (hmx : mt2.2.2.1 ≤ 40) (hst : (st.map fun v => v.category).sum ≤ 8) (hnr : nr wr2) (K : ∀ (r : R2) (N : Mem), J mt wr (pc + 3) lv ((wr2 r).toList ++ st) N (k r N)) : J mt wr pc lv (v4 :: v3 :: v2 :: v1 :: v0 :: st) M (bd F2 k) := j_callSN (as := [v0, v1, v2, v3, v4]) hd hct hw hcd hdn rfl hsh hdp hmx hst hnr K
end
section
/-! CONSTANTS of the methods: shapes, links, numbers (written by wip/gen/emit.py) -/
def SHx : Shp := [(8, [3, 5, 13, 18, 21, 28, 39, 42, 51, 0, 0]), (6, [4, 0]), (101, [320]), (7, [6, 11, 0, 0, 3, 12, 0, 0, 0, 0, 0, 0, 0, 0, 0]), (0, [0, 0, 7, 0, 8, 0, 9, 0, 10]), (100, [12]), (100, [16]), (100, [8]), (3, [1, 0]), (103, [6]), (3, [1, 0]), (0, [0, 0, 14, 0, 15, 0, 16, 0, 17]), (100, [12]), (100, [16]), (100, [8]), (3, [1, 0]), (2, [19, 0, 0, 20]), (103, [6]), (100, [6]), (104, [20, 23]), (2, [23, 0, 0, 24]), (103, [6]), (100, [6]), (2, [26, 0, 0, 27]), (103, [6]), (100, [6]), (4, [29, 30, 0, 0, 0, 31, 13, 18, 0, 0, 0, 0, 0]), (100, [6]), (100, [6]), (106, [30, 31, 32, 33, 34, 35, 36]), (103, [6]), (103, [6]), (103, [6]), (103, [6]), (103, [6]), (103, [6]), (103, [6]), (1, [40, 41, 13, 18]), (103, [1206]), (103, [6]), (105, [41, 43, 45, 47]), (5, [0, 0, 0, 44]), (100, [40]), (5, [0, 0, 0, 46]), (100, [40]), (5, [0, 0, 0, 48]), (100, [40]), (5, [0, 0, 0, 50]), (100, [40]), (103, [6])]
theorem sx_0 : SHx[0]? = some (8, [3, 5, 13, 18, 21, 28, 39, 42, 51, 0, 0]) := rfl
theorem sx_1 : SHx[1]? = some (6, [4, 0]) := rfl
theorem sx_2 : SHx[2]? = some (101, [320]) := rfl
theorem sx_3 : SHx[3]? = some (7, [6, 11, 0, 0, 3, 12, 0, 0, 0, 0, 0, 0, 0, 0, 0]) := rfl
theorem sx_4 : SHx[4]? = some (0, [0, 0, 7, 0, 8, 0, 9, 0, 10]) := rfl
theorem sx_5 : SHx[5]? = some (100, [12]) := rfl
theorem sx_6 : SHx[6]? = some (100, [16]) := rfl
theorem sx_7 : SHx[7]? = some (100, [8]) := rfl
theorem sx_8 : SHx[8]? = some (3, [1, 0]) := rfl
theorem sx_9 : SHx[9]? = some (103, [6]) := rfl
theorem sx_10 : SHx[10]? = some (3, [1, 0]) := rfl
theorem sx_11 : SHx[11]? = some (0, [0, 0, 14, 0, 15, 0, 16, 0, 17]) := rfl
theorem sx_12 : SHx[12]? = some (100, [12]) := rfl
theorem sx_13 : SHx[13]? = some (100, [16]) := rfl
theorem sx_14 : SHx[14]? = some (100, [8]) := rfl
theorem sx_15 : SHx[15]? = some (3, [1, 0]) := rfl
theorem sx_16 : SHx[16]? = some (2, [19, 0, 0, 20]) := rfl
theorem sx_17 : SHx[17]? = some (103, [6]) := rfl
theorem sx_18 : SHx[18]? = some (100, [6]) := rfl
theorem sx_19 : SHx[19]? = some (104, [20, 23]) := rfl
theorem sx_20 : SHx[20]? = some (2, [23, 0, 0, 24]) := rfl
theorem sx_21 : SHx[21]? = some (103, [6]) := rfl
theorem sx_22 : SHx[22]? = some (100, [6]) := rfl
theorem sx_23 : SHx[23]? = some (2, [26, 0, 0, 27]) := rfl
theorem sx_24 : SHx[24]? = some (103, [6]) := rfl
theorem sx_25 : SHx[25]? = some (100, [6]) := rfl
theorem sx_26 : SHx[26]? = some (4, [29, 30, 0, 0, 0, 31, 13, 18, 0, 0, 0, 0, 0]) := rfl
theorem sx_27 : SHx[27]? = some (100, [6]) := rfl
theorem sx_28 : SHx[28]? = some (100, [6]) := rfl
theorem sx_29 : SHx[29]? = some (106, [30, 31, 32, 33, 34, 35, 36]) := rfl
theorem sx_30 : SHx[30]? = some (103, [6]) := rfl
theorem sx_31 : SHx[31]? = some (103, [6]) := rfl
theorem sx_32 : SHx[32]? = some (103, [6]) := rfl
theorem sx_33 : SHx[33]? = some (103, [6]) := rfl
theorem sx_34 : SHx[34]? = some (103, [6]) := rfl
theorem sx_35 : SHx[35]? = some (103, [6]) := rfl
theorem sx_36 : SHx[36]? = some (103, [6]) := rfl
theorem sx_37 : SHx[37]? = some (1, [40, 41, 13, 18]) := rfl
theorem sx_38 : SHx[38]? = some (103, [1206]) := rfl
theorem sx_39 : SHx[39]? = some (103, [6]) := rfl
theorem sx_40 : SHx[40]? = some (105, [41, 43, 45, 47]) := rfl
theorem sx_41 : SHx[41]? = some (5, [0, 0, 0, 44]) := rfl
theorem sx_42 : SHx[42]? = some (100, [40]) := rfl
theorem sx_43 : SHx[43]? = some (5, [0, 0, 0, 46]) := rfl
theorem sx_44 : SHx[44]? = some (100, [40]) := rfl
theorem sx_45 : SHx[45]? = some (5, [0, 0, 0, 48]) := rfl
theorem sx_46 : SHx[46]? = some (100, [40]) := rfl
theorem sx_47 : SHx[47]? = some (5, [0, 0, 0, 50]) := rfl
theorem sx_48 : SHx[48]? = some (100, [40]) := rfl
theorem sx_49 : SHx[49]? = some (103, [6]) := rfl
def SHm : Shp := [(9, [3, 4, 0, 0, 0, 0, 0, 5, 6, 7, 8, 9, 0, 0, 0, 0, 0, 0, 10, 11, 12, 13, 14, 15, 0, 16, 0, 0, 0, 0, 0, 0, 0, 17, 18, 0, 19, 20, 0, 0, 0, 0, 0, 0, 0, 0, 21, 0, 22, 23, 24, 25, 26, 27, 0]), (100, [234]), (102, [2]), (100, [12]), (100, [16]), (100, [8]), (100, [15]), (100, [15]), (100, [12]), (100, [16]), (100, [8]), (100, [60]), (102, [6]), (102, [6]), (100, [320]), (100, [600]), (100, [18]), (100, [4]), (100, [4]), (100, [80]), (103, [1206]), (100, [6]), (100, [6]), (100, [4]), (100, [4]), (100, [160])]
theorem sm_0 : SHm[0]? = some (9, [3, 4, 0, 0, 0, 0, 0, 5, 6, 7, 8, 9, 0, 0, 0, 0, 0, 0, 10, 11, 12, 13, 14, 15, 0, 16, 0, 0, 0, 0, 0, 0, 0, 17, 18, 0, 19, 20, 0, 0, 0, 0, 0, 0, 0, 0, 21, 0, 22, 23, 24, 25, 26, 27, 0]) := rfl
theorem sm_1 : SHm[1]? = some (100, [234]) := rfl
theorem sm_2 : SHm[2]? = some (102, [2]) := rfl
theorem sm_3 : SHm[3]? = some (100, [12]) := rfl
theorem sm_4 : SHm[4]? = some (100, [16]) := rfl
theorem sm_5 : SHm[5]? = some (100, [8]) := rfl
theorem sm_6 : SHm[6]? = some (100, [15]) := rfl
theorem sm_7 : SHm[7]? = some (100, [15]) := rfl
theorem sm_8 : SHm[8]? = some (100, [12]) := rfl
theorem sm_9 : SHm[9]? = some (100, [16]) := rfl
theorem sm_10 : SHm[10]? = some (100, [8]) := rfl
theorem sm_11 : SHm[11]? = some (100, [60]) := rfl
theorem sm_12 : SHm[12]? = some (102, [6]) := rfl
theorem sm_13 : SHm[13]? = some (102, [6]) := rfl
theorem sm_14 : SHm[14]? = some (100, [320]) := rfl
theorem sm_15 : SHm[15]? = some (100, [600]) := rfl
theorem sm_16 : SHm[16]? = some (100, [18]) := rfl
theorem sm_17 : SHm[17]? = some (100, [4]) := rfl
theorem sm_18 : SHm[18]? = some (100, [4]) := rfl
theorem sm_19 : SHm[19]? = some (100, [80]) := rfl
theorem sm_20 : SHm[20]? = some (103, [1206]) := rfl
theorem sm_21 : SHm[21]? = some (100, [6]) := rfl
theorem sm_22 : SHm[22]? = some (100, [6]) := rfl
theorem sm_23 : SHm[23]? = some (100, [4]) := rfl
theorem sm_24 : SHm[24]? = some (100, [4]) := rfl
theorem sm_25 : SHm[25]? = some (100, [160]) := rfl
theorem k_i_m8 : Int32.ofInt (-8) = (-8) := by decide
theorem k_i_m1 : Int32.ofInt (-1) = (-1) := by decide
theorem k_i_0 : Int32.ofInt 0 = 0 := by decide
theorem k_i_1 : Int32.ofInt 1 = 1 := by decide
theorem k_i_2 : Int32.ofInt 2 = 2 := by decide
theorem k_i_3 : Int32.ofInt 3 = 3 := by decide
theorem k_i_4 : Int32.ofInt 4 = 4 := by decide
theorem k_i_5 : Int32.ofInt 5 = 5 := by decide
theorem k_b_m20 : (Int8.ofInt (-20)).toInt32 = (-20) := by decide
theorem k_b_m14 : (Int8.ofInt (-14)).toInt32 = (-14) := by decide
theorem k_b_m12 : (Int8.ofInt (-12)).toInt32 = (-12) := by decide
theorem k_b_m11 : (Int8.ofInt (-11)).toInt32 = (-11) := by decide
theorem k_b_m10 : (Int8.ofInt (-10)).toInt32 = (-10) := by decide
theorem k_b_m4 : (Int8.ofInt (-4)).toInt32 = (-4) := by decide
theorem k_b_m3 : (Int8.ofInt (-3)).toInt32 = (-3) := by decide
theorem k_b_m2 : (Int8.ofInt (-2)).toInt32 = (-2) := by decide
theorem k_b_6 : (Int8.ofInt 6).toInt32 = 6 := by decide
theorem k_b_7 : (Int8.ofInt 7).toInt32 = 7 := by decide
theorem k_b_8 : (Int8.ofInt 8).toInt32 = 8 := by decide
theorem k_b_9 : (Int8.ofInt 9).toInt32 = 9 := by decide
theorem k_b_10 : (Int8.ofInt 10).toInt32 = 10 := by decide
theorem k_b_12 : (Int8.ofInt 12).toInt32 = 12 := by decide
theorem k_b_14 : (Int8.ofInt 14).toInt32 = 14 := by decide
theorem k_b_15 : (Int8.ofInt 15).toInt32 = 15 := by decide
theorem k_b_16 : (Int8.ofInt 16).toInt32 = 16 := by decide
theorem k_b_20 : (Int8.ofInt 20).toInt32 = 20 := by decide
theorem k_b_32 : (Int8.ofInt 32).toInt32 = 32 := by decide
theorem k_b_36 : (Int8.ofInt 36).toInt32 = 36 := by decide
theorem k_b_40 : (Int8.ofInt 40).toInt32 = 40 := by decide
theorem k_b_48 : (Int8.ofInt 48).toInt32 = 48 := by decide
theorem k_b_56 : (Int8.ofInt 56).toInt32 = 56 := by decide
theorem k_b_57 : (Int8.ofInt 57).toInt32 = 57 := by decide
theorem k_b_59 : (Int8.ofInt 59).toInt32 = 59 := by decide
theorem k_b_60 : (Int8.ofInt 60).toInt32 = 60 := by decide
theorem k_b_63 : (Int8.ofInt 63).toInt32 = 63 := by decide
theorem k_b_66 : (Int8.ofInt 66).toInt32 = 66 := by decide
theorem k_b_72 : (Int8.ofInt 72).toInt32 = 72 := by decide
theorem k_b_78 : (Int8.ofInt 78).toInt32 = 78 := by decide
theorem k_b_97 : (Int8.ofInt 97).toInt32 = 97 := by decide
theorem k_b_99 : (Int8.ofInt 99).toInt32 = 99 := by decide
theorem k_b_100 : (Int8.ofInt 100).toInt32 = 100 := by decide
theorem k_b_101 : (Int8.ofInt 101).toInt32 = 101 := by decide
theorem k_b_103 : (Int8.ofInt 103).toInt32 = 103 := by decide
theorem k_b_104 : (Int8.ofInt 104).toInt32 = 104 := by decide
theorem k_b_105 : (Int8.ofInt 105).toInt32 = 105 := by decide
theorem k_b_106 : (Int8.ofInt 106).toInt32 = 106 := by decide
theorem k_b_107 : (Int8.ofInt 107).toInt32 = 107 := by decide
theorem k_b_108 : (Int8.ofInt 108).toInt32 = 108 := by decide
theorem k_b_110 : (Int8.ofInt 110).toInt32 = 110 := by decide
theorem k_b_111 : (Int8.ofInt 111).toInt32 = 111 := by decide
theorem k_b_112 : (Int8.ofInt 112).toInt32 = 112 := by decide
theorem k_b_115 : (Int8.ofInt 115).toInt32 = 115 := by decide
theorem k_b_118 : (Int8.ofInt 118).toInt32 = 118 := by decide
theorem k_b_119 : (Int8.ofInt 119).toInt32 = 119 := by decide
theorem k_b_121 : (Int8.ofInt 121).toInt32 = 121 := by decide
theorem k_b_122 : (Int8.ofInt 122).toInt32 = 122 := by decide
theorem k_s_200 : (Int16.ofInt 200).toInt32 = 200 := by decide
theorem k_s_312 : (Int16.ofInt 312).toInt32 = 312 := by decide
theorem k_s_320 : (Int16.ofInt 320).toInt32 = 320 := by decide
theorem k_s_32767 : (Int16.ofInt 32767).toInt32 = 32767 := by decide
theorem k_l_0 : Int64.ofNat ((0 : Fin 2) : Nat) = 0 := by decide
theorem k_l_1 : Int64.ofNat ((1 : Fin 2) : Nat) = 1 := by decide
theorem fl_ShakeHands_10 : Fl "ShakeHands" 10 8 0 (.object "ShakeHands$Tape") true := ⟨R_ShakeHands, F_ShakeHands, 11, t_ShakeHands, rfl, by decide, i_ShakeHands, tbl_in 295 (by decide +kernel) rfl, rfl, t_ShakeHands_ok, n_ShakeHands, by decide +kernel, rfl⟩
theorem fl_ShakeHands_21 : Fl "ShakeHands" 21 8 1 (.object "ShakeHands$Teller") true := ⟨R_ShakeHands, F_ShakeHands, 11, t_ShakeHands, rfl, by decide, i_ShakeHands, tbl_in 296 (by decide +kernel) rfl, rfl, t_ShakeHands_ok, n_ShakeHands, by decide +kernel, rfl⟩
theorem fl_ShakeHands_28 : Fl "ShakeHands" 28 8 2 (.object "ShakeHands$Circle") true := ⟨R_ShakeHands, F_ShakeHands, 11, t_ShakeHands, rfl, by decide, i_ShakeHands, tbl_in 297 (by decide +kernel) rfl, rfl, t_ShakeHands_ok, n_ShakeHands, by decide +kernel, rfl⟩
theorem fl_ShakeHands_35 : Fl "ShakeHands" 35 8 3 (.object "ShakeHands$Minds") true := ⟨R_ShakeHands, F_ShakeHands, 11, t_ShakeHands, rfl, by decide, i_ShakeHands, tbl_in 298 (by decide +kernel) rfl, rfl, t_ShakeHands_ok, n_ShakeHands, by decide +kernel, rfl⟩
theorem fl_ShakeHands_39 : Fl "ShakeHands" 39 8 4 (.array (.object "ShakeHands$Minds")) true := ⟨R_ShakeHands, F_ShakeHands, 11, t_ShakeHands, rfl, by decide, i_ShakeHands, tbl_in 299 (by decide +kernel) rfl, rfl, t_ShakeHands_ok, n_ShakeHands, by decide +kernel, rfl⟩
theorem fl_ShakeHands_48 : Fl "ShakeHands" 48 8 5 (.object "ShakeHands$Search") true := ⟨R_ShakeHands, F_ShakeHands, 11, t_ShakeHands, rfl, by decide, i_ShakeHands, tbl_in 300 (by decide +kernel) rfl, rfl, t_ShakeHands_ok, n_ShakeHands, by decide +kernel, rfl⟩
theorem fl_ShakeHands_55 : Fl "ShakeHands" 55 8 6 (.object "ShakeHands$Habit") true := ⟨R_ShakeHands, F_ShakeHands, 11, t_ShakeHands, rfl, by decide, i_ShakeHands, tbl_in 301 (by decide +kernel) rfl, rfl, t_ShakeHands_ok, n_ShakeHands, by decide +kernel, rfl⟩
theorem fl_ShakeHands_61 : Fl "ShakeHands" 61 8 7 (.array (.object "ShakeHands$Sheet")) true := ⟨R_ShakeHands, F_ShakeHands, 11, t_ShakeHands, rfl, by decide, i_ShakeHands, tbl_in 302 (by decide +kernel) rfl, rfl, t_ShakeHands_ok, n_ShakeHands, by decide +kernel, rfl⟩
theorem fl_ShakeHands_66 : Fl "ShakeHands" 66 8 8 (.array .long) true := ⟨R_ShakeHands, F_ShakeHands, 11, t_ShakeHands, rfl, by decide, i_ShakeHands, tbl_in 303 (by decide +kernel) rfl, rfl, t_ShakeHands_ok, n_ShakeHands, by decide +kernel, rfl⟩
theorem fl_ShakeHands_74 : Fl "ShakeHands" 74 6 1 (.int) false := ⟨R_Tape, F_Tape, 2, t_Tape, rfl, by decide, i_Tape, tbl_in 36 (by decide +kernel) rfl, rfl, t_Tape_ok, n_Tape, by decide +kernel, rfl⟩
theorem fl_ShakeHands_82 : Fl "ShakeHands" 82 7 3 (.int) false := ⟨R_Teller, F_Teller, 15, t_Teller, rfl, by decide, i_Teller, tbl_in 125 (by decide +kernel) rfl, rfl, t_Teller_ok, n_Teller, by decide +kernel, rfl⟩
theorem fl_ShakeHands_85 : Fl "ShakeHands" 85 7 0 (.object "ShakeHands$Circle") true := ⟨R_Teller, F_Teller, 15, t_Teller, rfl, by decide, i_Teller, tbl_in 119 (by decide +kernel) rfl, rfl, t_Teller_ok, n_Teller, by decide +kernel, rfl⟩
theorem fl_ShakeHands_90 : Fl "ShakeHands" 90 7 1 (.array .long) true := ⟨R_Teller, F_Teller, 15, t_Teller, rfl, by decide, i_Teller, tbl_in 121 (by decide +kernel) rfl, rfl, t_Teller_ok, n_Teller, by decide +kernel, rfl⟩
theorem fl_ShakeHands_93 : Fl "ShakeHands" 93 2 0 (.array .long) true := ⟨R_Minds, F_Minds, 4, t_Minds, rfl, by decide, i_Minds, tbl_in 180 (by decide +kernel) rfl, rfl, t_Minds_ok, n_Minds, by decide +kernel, rfl⟩
theorem fl_ShakeHands_100 : Fl "ShakeHands" 100 7 2 (.int) false := ⟨R_Teller, F_Teller, 15, t_Teller, rfl, by decide, i_Teller, tbl_in 123 (by decide +kernel) rfl, rfl, t_Teller_ok, n_Teller, by decide +kernel, rfl⟩
theorem fl_ShakeHands_103 : Fl "ShakeHands" 103 2 1 (.int) false := ⟨R_Minds, F_Minds, 4, t_Minds, rfl, by decide, i_Minds, tbl_in 183 (by decide +kernel) rfl, rfl, t_Minds_ok, n_Minds, by decide +kernel, rfl⟩
theorem fl_ShakeHands_104 : Fl "ShakeHands" 104 2 2 (.int) false := ⟨R_Minds, F_Minds, 4, t_Minds, rfl, by decide, i_Minds, tbl_in 186 (by decide +kernel) rfl, rfl, t_Minds_ok, n_Minds, by decide +kernel, rfl⟩
theorem fl_ShakeHands_107 : Fl "ShakeHands" 107 8 9 (.int) false := ⟨R_ShakeHands, F_ShakeHands, 11, t_ShakeHands, rfl, by decide, i_ShakeHands, tbl_in 304 (by decide +kernel) rfl, rfl, t_ShakeHands_ok, n_ShakeHands, by decide +kernel, rfl⟩
theorem fl_ShakeHands_110 : Fl "ShakeHands" 110 0 0 (.int) false := ⟨R_Circle, F_Circle, 9, t_Circle, rfl, by decide, i_Circle, tbl_in 74 (by decide +kernel) rfl, rfl, t_Circle_ok, n_Circle, by decide +kernel, rfl⟩
theorem fl_ShakeHands_113 : Fl "ShakeHands" 113 0 1 (.int) false := ⟨R_Circle, F_Circle, 9, t_Circle, rfl, by decide, i_Circle, tbl_in 77 (by decide +kernel) rfl, rfl, t_Circle_ok, n_Circle, by decide +kernel, rfl⟩
theorem fl_ShakeHands_116 : Fl "ShakeHands" 116 0 3 (.int) false := ⟨R_Circle, F_Circle, 9, t_Circle, rfl, by decide, i_Circle, tbl_in 82 (by decide +kernel) rfl, rfl, t_Circle_ok, n_Circle, by decide +kernel, rfl⟩
theorem fl_ShakeHands_119 : Fl "ShakeHands" 119 0 5 (.int) false := ⟨R_Circle, F_Circle, 9, t_Circle, rfl, by decide, i_Circle, tbl_in 88 (by decide +kernel) rfl, rfl, t_Circle_ok, n_Circle, by decide +kernel, rfl⟩
theorem fl_ShakeHands_122 : Fl "ShakeHands" 122 0 7 (.int) false := ⟨R_Circle, F_Circle, 9, t_Circle, rfl, by decide, i_Circle, tbl_in 94 (by decide +kernel) rfl, rfl, t_Circle_ok, n_Circle, by decide +kernel, rfl⟩
theorem fl_ShakeHands_131 : Fl "ShakeHands" 131 0 6 (.array .int) true := ⟨R_Circle, F_Circle, 9, t_Circle, rfl, by decide, i_Circle, tbl_in 91 (by decide +kernel) rfl, rfl, t_Circle_ok, n_Circle, by decide +kernel, rfl⟩
theorem fl_ShakeHands_135 : Fl "ShakeHands" 135 0 4 (.array .int) true := ⟨R_Circle, F_Circle, 9, t_Circle, rfl, by decide, i_Circle, tbl_in 85 (by decide +kernel) rfl, rfl, t_Circle_ok, n_Circle, by decide +kernel, rfl⟩
theorem fl_ShakeHands_138 : Fl "ShakeHands" 138 0 2 (.array .int) true := ⟨R_Circle, F_Circle, 9, t_Circle, rfl, by decide, i_Circle, tbl_in 79 (by decide +kernel) rfl, rfl, t_Circle_ok, n_Circle, by decide +kernel, rfl⟩
theorem fl_ShakeHands_218 : Fl "ShakeHands" 218 4 0 (.array .int) true := ⟨R_Search, F_Search, 13, t_Search, rfl, by decide, i_Search, tbl_in 210 (by decide +kernel) rfl, rfl, t_Search_ok, n_Search, by decide +kernel, rfl⟩
theorem fl_ShakeHands_239 : Fl "ShakeHands" 239 2 3 (.array .int) true := ⟨R_Minds, F_Minds, 4, t_Minds, rfl, by decide, i_Minds, tbl_in 190 (by decide +kernel) rfl, rfl, t_Minds_ok, n_Minds, by decide +kernel, rfl⟩
theorem fl_ShakeHands_246 : Fl "ShakeHands" 246 4 2 (.int) false := ⟨R_Search, F_Search, 13, t_Search, rfl, by decide, i_Search, tbl_in 214 (by decide +kernel) rfl, rfl, t_Search_ok, n_Search, by decide +kernel, rfl⟩
theorem fl_ShakeHands_249 : Fl "ShakeHands" 249 4 3 (.int) false := ⟨R_Search, F_Search, 13, t_Search, rfl, by decide, i_Search, tbl_in 216 (by decide +kernel) rfl, rfl, t_Search_ok, n_Search, by decide +kernel, rfl⟩
theorem fl_ShakeHands_252 : Fl "ShakeHands" 252 4 4 (.int) false := ⟨R_Search, F_Search, 13, t_Search, rfl, by decide, i_Search, tbl_in 218 (by decide +kernel) rfl, rfl, t_Search_ok, n_Search, by decide +kernel, rfl⟩
theorem fl_ShakeHands_258 : Fl "ShakeHands" 258 4 1 (.array .int) true := ⟨R_Search, F_Search, 13, t_Search, rfl, by decide, i_Search, tbl_in 212 (by decide +kernel) rfl, rfl, t_Search_ok, n_Search, by decide +kernel, rfl⟩
theorem fl_ShakeHands_292 : Fl "ShakeHands" 292 8 10 (.int) false := ⟨R_ShakeHands, F_ShakeHands, 11, t_ShakeHands, rfl, by decide, i_ShakeHands, tbl_in 305 (by decide +kernel) rfl, rfl, t_ShakeHands_ok, n_ShakeHands, by decide +kernel, rfl⟩
theorem fl_ShakeHands_298 : Fl "ShakeHands" 298 5 0 (.boolean) false := ⟨R_Sheet, F_Sheet, 4, t_Sheet, rfl, by decide, i_Sheet, tbl_in 281 (by decide +kernel) rfl, rfl, t_Sheet_ok, n_Sheet, by decide +kernel, rfl⟩
theorem fl_ShakeHands_302 : Fl "ShakeHands" 302 5 1 (.int) false := ⟨R_Sheet, F_Sheet, 4, t_Sheet, rfl, by decide, i_Sheet, tbl_in 283 (by decide +kernel) rfl, rfl, t_Sheet_ok, n_Sheet, by decide +kernel, rfl⟩
theorem fl_Circle_13 : Fl "ShakeHands$Circle" 13 0 0 (.int) false := ⟨R_Circle, F_Circle, 9, t_Circle, rfl, by decide, i_Circle, tbl_in 71 (by decide +kernel) rfl, rfl, t_Circle_ok, n_Circle, by decide +kernel, rfl⟩
theorem fl_Circle_17 : Fl "ShakeHands$Circle" 17 0 1 (.int) false := ⟨R_Circle, F_Circle, 9, t_Circle, rfl, by decide, i_Circle, tbl_in 75 (by decide +kernel) rfl, rfl, t_Circle_ok, n_Circle, by decide +kernel, rfl⟩
theorem fl_Circle_20 : Fl "ShakeHands$Circle" 20 0 2 (.array .int) true := ⟨R_Circle, F_Circle, 9, t_Circle, rfl, by decide, i_Circle, tbl_in 78 (by decide +kernel) rfl, rfl, t_Circle_ok, n_Circle, by decide +kernel, rfl⟩
theorem fl_Circle_24 : Fl "ShakeHands$Circle" 24 0 4 (.array .int) true := ⟨R_Circle, F_Circle, 9, t_Circle, rfl, by decide, i_Circle, tbl_in 84 (by decide +kernel) rfl, rfl, t_Circle_ok, n_Circle, by decide +kernel, rfl⟩
theorem fl_Circle_27 : Fl "ShakeHands$Circle" 27 0 6 (.array .int) true := ⟨R_Circle, F_Circle, 9, t_Circle, rfl, by decide, i_Circle, tbl_in 90 (by decide +kernel) rfl, rfl, t_Circle_ok, n_Circle, by decide +kernel, rfl⟩
theorem fl_Circle_31 : Fl "ShakeHands$Circle" 31 0 8 (.object "ShakeHands$Row") true := ⟨R_Circle, F_Circle, 9, t_Circle, rfl, by decide, i_Circle, tbl_in 96 (by decide +kernel) rfl, rfl, t_Circle_ok, n_Circle, by decide +kernel, rfl⟩
theorem fl_Circle_35 : Fl "ShakeHands$Circle" 35 0 3 (.int) false := ⟨R_Circle, F_Circle, 9, t_Circle, rfl, by decide, i_Circle, tbl_in 81 (by decide +kernel) rfl, rfl, t_Circle_ok, n_Circle, by decide +kernel, rfl⟩
theorem fl_Circle_38 : Fl "ShakeHands$Circle" 38 0 5 (.int) false := ⟨R_Circle, F_Circle, 9, t_Circle, rfl, by decide, i_Circle, tbl_in 87 (by decide +kernel) rfl, rfl, t_Circle_ok, n_Circle, by decide +kernel, rfl⟩
theorem fl_Circle_41 : Fl "ShakeHands$Circle" 41 0 7 (.int) false := ⟨R_Circle, F_Circle, 9, t_Circle, rfl, by decide, i_Circle, tbl_in 93 (by decide +kernel) rfl, rfl, t_Circle_ok, n_Circle, by decide +kernel, rfl⟩
theorem fl_Circle_88 : Fl "ShakeHands$Circle" 88 3 1 (.int) false := ⟨R_Row, F_Row, 2, t_Row, rfl, by decide, i_Row, tbl_in 63 (by decide +kernel) rfl, rfl, t_Row_ok, n_Row, by decide +kernel, rfl⟩
theorem fl_Habit_11 : Fl "ShakeHands$Habit" 11 1 0 (.array .long) true := ⟨R_Habit, F_Habit, 4, t_Habit, rfl, by decide, i_Habit, tbl_in 260 (by decide +kernel) rfl, rfl, t_Habit_ok, n_Habit, by decide +kernel, rfl⟩
theorem fl_Habit_15 : Fl "ShakeHands$Habit" 15 1 1 (.array .long) true := ⟨R_Habit, F_Habit, 4, t_Habit, rfl, by decide, i_Habit, tbl_in 261 (by decide +kernel) rfl, rfl, t_Habit_ok, n_Habit, by decide +kernel, rfl⟩
theorem fl_Habit_18 : Fl "ShakeHands$Habit" 18 1 2 (.object "ShakeHands$Circle") true := ⟨R_Habit, F_Habit, 4, t_Habit, rfl, by decide, i_Habit, tbl_in 262 (by decide +kernel) rfl, rfl, t_Habit_ok, n_Habit, by decide +kernel, rfl⟩
theorem fl_Habit_22 : Fl "ShakeHands$Habit" 22 1 3 (.object "ShakeHands$Minds") true := ⟨R_Habit, F_Habit, 4, t_Habit, rfl, by decide, i_Habit, tbl_in 263 (by decide +kernel) rfl, rfl, t_Habit_ok, n_Habit, by decide +kernel, rfl⟩
theorem fl_Habit_26 : Fl "ShakeHands$Habit" 26 2 0 (.array .long) true := ⟨R_Minds, F_Minds, 4, t_Minds, rfl, by decide, i_Minds, tbl_in 178 (by decide +kernel) rfl, rfl, t_Minds_ok, n_Minds, by decide +kernel, rfl⟩
theorem fl_Habit_39 : Fl "ShakeHands$Habit" 39 2 1 (.int) false := ⟨R_Minds, F_Minds, 4, t_Minds, rfl, by decide, i_Minds, tbl_in 182 (by decide +kernel) rfl, rfl, t_Minds_ok, n_Minds, by decide +kernel, rfl⟩
theorem fl_Minds_9 : Fl "ShakeHands$Minds" 9 2 0 (.array .long) true := ⟨R_Minds, F_Minds, 4, t_Minds, rfl, by decide, i_Minds, tbl_in 177 (by decide +kernel) rfl, rfl, t_Minds_ok, n_Minds, by decide +kernel, rfl⟩
theorem fl_Minds_15 : Fl "ShakeHands$Minds" 15 2 3 (.array .int) true := ⟨R_Minds, F_Minds, 4, t_Minds, rfl, by decide, i_Minds, tbl_in 188 (by decide +kernel) rfl, rfl, t_Minds_ok, n_Minds, by decide +kernel, rfl⟩
theorem fl_Minds_25 : Fl "ShakeHands$Minds" 25 2 1 (.int) false := ⟨R_Minds, F_Minds, 4, t_Minds, rfl, by decide, i_Minds, tbl_in 181 (by decide +kernel) rfl, rfl, t_Minds_ok, n_Minds, by decide +kernel, rfl⟩
theorem fl_Minds_29 : Fl "ShakeHands$Minds" 29 2 2 (.int) false := ⟨R_Minds, F_Minds, 4, t_Minds, rfl, by decide, i_Minds, tbl_in 185 (by decide +kernel) rfl, rfl, t_Minds_ok, n_Minds, by decide +kernel, rfl⟩
theorem fl_Row_17 : Fl "ShakeHands$Row" 17 3 0 (.long) false := ⟨R_Row, F_Row, 2, t_Row, rfl, by decide, i_Row, tbl_in 61 (by decide +kernel) rfl, rfl, t_Row_ok, n_Row, by decide +kernel, rfl⟩
theorem fl_Row_21 : Fl "ShakeHands$Row" 21 3 1 (.int) false := ⟨R_Row, F_Row, 2, t_Row, rfl, by decide, i_Row, tbl_in 62 (by decide +kernel) rfl, rfl, t_Row_ok, n_Row, by decide +kernel, rfl⟩
theorem fl_Search_11 : Fl "ShakeHands$Search" 11 4 0 (.array .int) true := ⟨R_Search, F_Search, 13, t_Search, rfl, by decide, i_Search, tbl_in 209 (by decide +kernel) rfl, rfl, t_Search_ok, n_Search, by decide +kernel, rfl⟩
theorem fl_Search_15 : Fl "ShakeHands$Search" 15 4 1 (.array .int) true := ⟨R_Search, F_Search, 13, t_Search, rfl, by decide, i_Search, tbl_in 211 (by decide +kernel) rfl, rfl, t_Search_ok, n_Search, by decide +kernel, rfl⟩
theorem fl_Search_20 : Fl "ShakeHands$Search" 20 4 5 (.array (.array .long)) true := ⟨R_Search, F_Search, 13, t_Search, rfl, by decide, i_Search, tbl_in 219 (by decide +kernel) rfl, rfl, t_Search_ok, n_Search, by decide +kernel, rfl⟩
theorem fl_Search_23 : Fl "ShakeHands$Search" 23 4 6 (.object "ShakeHands$Circle") true := ⟨R_Search, F_Search, 13, t_Search, rfl, by decide, i_Search, tbl_in 220 (by decide +kernel) rfl, rfl, t_Search_ok, n_Search, by decide +kernel, rfl⟩
theorem fl_Search_27 : Fl "ShakeHands$Search" 27 4 7 (.object "ShakeHands$Minds") true := ⟨R_Search, F_Search, 13, t_Search, rfl, by decide, i_Search, tbl_in 221 (by decide +kernel) rfl, rfl, t_Search_ok, n_Search, by decide +kernel, rfl⟩
theorem fl_Search_31 : Fl "ShakeHands$Search" 31 0 0 (.int) false := ⟨R_Circle, F_Circle, 9, t_Circle, rfl, by decide, i_Circle, tbl_in 72 (by decide +kernel) rfl, rfl, t_Circle_ok, n_Circle, by decide +kernel, rfl⟩
theorem fl_Search_37 : Fl "ShakeHands$Search" 37 4 8 (.int) false := ⟨R_Search, F_Search, 13, t_Search, rfl, by decide, i_Search, tbl_in 222 (by decide +kernel) rfl, rfl, t_Search_ok, n_Search, by decide +kernel, rfl⟩
theorem fl_Search_40 : Fl "ShakeHands$Search" 40 2 0 (.array .long) true := ⟨R_Minds, F_Minds, 4, t_Minds, rfl, by decide, i_Minds, tbl_in 179 (by decide +kernel) rfl, rfl, t_Minds_ok, n_Minds, by decide +kernel, rfl⟩
theorem fl_Search_52 : Fl "ShakeHands$Search" 52 4 9 (.int) false := ⟨R_Search, F_Search, 13, t_Search, rfl, by decide, i_Search, tbl_in 223 (by decide +kernel) rfl, rfl, t_Search_ok, n_Search, by decide +kernel, rfl⟩
theorem fl_Search_55 : Fl "ShakeHands$Search" 55 4 10 (.int) false := ⟨R_Search, F_Search, 13, t_Search, rfl, by decide, i_Search, tbl_in 224 (by decide +kernel) rfl, rfl, t_Search_ok, n_Search, by decide +kernel, rfl⟩
theorem fl_Search_58 : Fl "ShakeHands$Search" 58 4 11 (.int) false := ⟨R_Search, F_Search, 13, t_Search, rfl, by decide, i_Search, tbl_in 225 (by decide +kernel) rfl, rfl, t_Search_ok, n_Search, by decide +kernel, rfl⟩
theorem fl_Search_61 : Fl "ShakeHands$Search" 61 4 12 (.int) false := ⟨R_Search, F_Search, 13, t_Search, rfl, by decide, i_Search, tbl_in 226 (by decide +kernel) rfl, rfl, t_Search_ok, n_Search, by decide +kernel, rfl⟩
theorem fl_Search_80 : Fl "ShakeHands$Search" 80 4 2 (.int) false := ⟨R_Search, F_Search, 13, t_Search, rfl, by decide, i_Search, tbl_in 213 (by decide +kernel) rfl, rfl, t_Search_ok, n_Search, by decide +kernel, rfl⟩
theorem fl_Search_83 : Fl "ShakeHands$Search" 83 4 3 (.int) false := ⟨R_Search, F_Search, 13, t_Search, rfl, by decide, i_Search, tbl_in 215 (by decide +kernel) rfl, rfl, t_Search_ok, n_Search, by decide +kernel, rfl⟩
theorem fl_Search_86 : Fl "ShakeHands$Search" 86 4 4 (.int) false := ⟨R_Search, F_Search, 13, t_Search, rfl, by decide, i_Search, tbl_in 217 (by decide +kernel) rfl, rfl, t_Search_ok, n_Search, by decide +kernel, rfl⟩
theorem fl_Search_101 : Fl "ShakeHands$Search" 101 2 2 (.int) false := ⟨R_Minds, F_Minds, 4, t_Minds, rfl, by decide, i_Minds, tbl_in 187 (by decide +kernel) rfl, rfl, t_Minds_ok, n_Minds, by decide +kernel, rfl⟩
theorem fl_Search_110 : Fl "ShakeHands$Search" 110 2 3 (.array .int) true := ⟨R_Minds, F_Minds, 4, t_Minds, rfl, by decide, i_Minds, tbl_in 189 (by decide +kernel) rfl, rfl, t_Minds_ok, n_Minds, by decide +kernel, rfl⟩
theorem fl_Search_125 : Fl "ShakeHands$Search" 125 2 1 (.int) false := ⟨R_Minds, F_Minds, 4, t_Minds, rfl, by decide, i_Minds, tbl_in 184 (by decide +kernel) rfl, rfl, t_Minds_ok, n_Minds, by decide +kernel, rfl⟩
theorem fl_Sheet_9 : Fl "ShakeHands$Sheet" 9 5 3 (.array .int) true := ⟨R_Sheet, F_Sheet, 4, t_Sheet, rfl, by decide, i_Sheet, tbl_in 285 (by decide +kernel) rfl, rfl, t_Sheet_ok, n_Sheet, by decide +kernel, rfl⟩
theorem fl_Sheet_13 : Fl "ShakeHands$Sheet" 13 5 0 (.boolean) false := ⟨R_Sheet, F_Sheet, 4, t_Sheet, rfl, by decide, i_Sheet, tbl_in 280 (by decide +kernel) rfl, rfl, t_Sheet_ok, n_Sheet, by decide +kernel, rfl⟩
theorem fl_Sheet_17 : Fl "ShakeHands$Sheet" 17 5 2 (.int) false := ⟨R_Sheet, F_Sheet, 4, t_Sheet, rfl, by decide, i_Sheet, tbl_in 284 (by decide +kernel) rfl, rfl, t_Sheet_ok, n_Sheet, by decide +kernel, rfl⟩
theorem fl_Sheet_21 : Fl "ShakeHands$Sheet" 21 5 1 (.int) false := ⟨R_Sheet, F_Sheet, 4, t_Sheet, rfl, by decide, i_Sheet, tbl_in 282 (by decide +kernel) rfl, rfl, t_Sheet_ok, n_Sheet, by decide +kernel, rfl⟩
theorem fl_Tape_9 : Fl "ShakeHands$Tape" 9 6 0 (.array .byte) true := ⟨R_Tape, F_Tape, 2, t_Tape, rfl, by decide, i_Tape, tbl_in 32 (by decide +kernel) rfl, rfl, t_Tape_ok, n_Tape, by decide +kernel, rfl⟩
theorem fl_Tape_13 : Fl "ShakeHands$Tape" 13 6 1 (.int) false := ⟨R_Tape, F_Tape, 2, t_Tape, rfl, by decide, i_Tape, tbl_in 34 (by decide +kernel) rfl, rfl, t_Tape_ok, n_Tape, by decide +kernel, rfl⟩
theorem fl_Teller_12 : Fl "ShakeHands$Teller" 12 7 0 (.object "ShakeHands$Circle") true := ⟨R_Teller, F_Teller, 15, t_Teller, rfl, by decide, i_Teller, tbl_in 118 (by decide +kernel) rfl, rfl, t_Teller_ok, n_Teller, by decide +kernel, rfl⟩
theorem fl_Teller_18 : Fl "ShakeHands$Teller" 18 7 1 (.array .long) true := ⟨R_Teller, F_Teller, 15, t_Teller, rfl, by decide, i_Teller, tbl_in 120 (by decide +kernel) rfl, rfl, t_Teller_ok, n_Teller, by decide +kernel, rfl⟩
theorem fl_Teller_25 : Fl "ShakeHands$Teller" 25 7 5 (.object "ShakeHands$Row") true := ⟨R_Teller, F_Teller, 15, t_Teller, rfl, by decide, i_Teller, tbl_in 127 (by decide +kernel) rfl, rfl, t_Teller_ok, n_Teller, by decide +kernel, rfl⟩
theorem fl_Teller_29 : Fl "ShakeHands$Teller" 29 7 4 (.object "ShakeHands$Tape") true := ⟨R_Teller, F_Teller, 15, t_Teller, rfl, by decide, i_Teller, tbl_in 126 (by decide +kernel) rfl, rfl, t_Teller_ok, n_Teller, by decide +kernel, rfl⟩
theorem fl_Teller_36 : Fl "ShakeHands$Teller" 36 6 1 (.int) false := ⟨R_Tape, F_Tape, 2, t_Tape, rfl, by decide, i_Tape, tbl_in 35 (by decide +kernel) rfl, rfl, t_Tape_ok, n_Tape, by decide +kernel, rfl⟩
theorem fl_Teller_45 : Fl "ShakeHands$Teller" 45 7 3 (.int) false := ⟨R_Teller, F_Teller, 15, t_Teller, rfl, by decide, i_Teller, tbl_in 124 (by decide +kernel) rfl, rfl, t_Teller_ok, n_Teller, by decide +kernel, rfl⟩
theorem fl_Teller_48 : Fl "ShakeHands$Teller" 48 7 7 (.int) false := ⟨R_Teller, F_Teller, 15, t_Teller, rfl, by decide, i_Teller, tbl_in 129 (by decide +kernel) rfl, rfl, t_Teller_ok, n_Teller, by decide +kernel, rfl⟩
theorem fl_Teller_57 : Fl "ShakeHands$Teller" 57 7 8 (.int) false := ⟨R_Teller, F_Teller, 15, t_Teller, rfl, by decide, i_Teller, tbl_in 130 (by decide +kernel) rfl, rfl, t_Teller_ok, n_Teller, by decide +kernel, rfl⟩
theorem fl_Teller_63 : Fl "ShakeHands$Teller" 63 7 2 (.int) false := ⟨R_Teller, F_Teller, 15, t_Teller, rfl, by decide, i_Teller, tbl_in 122 (by decide +kernel) rfl, rfl, t_Teller_ok, n_Teller, by decide +kernel, rfl⟩
theorem fl_Teller_66 : Fl "ShakeHands$Teller" 66 7 6 (.int) false := ⟨R_Teller, F_Teller, 15, t_Teller, rfl, by decide, i_Teller, tbl_in 128 (by decide +kernel) rfl, rfl, t_Teller_ok, n_Teller, by decide +kernel, rfl⟩
theorem fl_Teller_69 : Fl "ShakeHands$Teller" 69 7 10 (.boolean) false := ⟨R_Teller, F_Teller, 15, t_Teller, rfl, by decide, i_Teller, tbl_in 132 (by decide +kernel) rfl, rfl, t_Teller_ok, n_Teller, by decide +kernel, rfl⟩
theorem fl_Teller_73 : Fl "ShakeHands$Teller" 73 7 11 (.boolean) false := ⟨R_Teller, F_Teller, 15, t_Teller, rfl, by decide, i_Teller, tbl_in 133 (by decide +kernel) rfl, rfl, t_Teller_ok, n_Teller, by decide +kernel, rfl⟩
theorem fl_Teller_76 : Fl "ShakeHands$Teller" 76 7 12 (.int) false := ⟨R_Teller, F_Teller, 15, t_Teller, rfl, by decide, i_Teller, tbl_in 134 (by decide +kernel) rfl, rfl, t_Teller_ok, n_Teller, by decide +kernel, rfl⟩
theorem fl_Teller_79 : Fl "ShakeHands$Teller" 79 7 13 (.int) false := ⟨R_Teller, F_Teller, 15, t_Teller, rfl, by decide, i_Teller, tbl_in 135 (by decide +kernel) rfl, rfl, t_Teller_ok, n_Teller, by decide +kernel, rfl⟩
theorem fl_Teller_82 : Fl "ShakeHands$Teller" 82 7 14 (.int) false := ⟨R_Teller, F_Teller, 15, t_Teller, rfl, by decide, i_Teller, tbl_in 136 (by decide +kernel) rfl, rfl, t_Teller_ok, n_Teller, by decide +kernel, rfl⟩
theorem fl_Teller_85 : Fl "ShakeHands$Teller" 85 0 0 (.int) false := ⟨R_Circle, F_Circle, 9, t_Circle, rfl, by decide, i_Circle, tbl_in 73 (by decide +kernel) rfl, rfl, t_Circle_ok, n_Circle, by decide +kernel, rfl⟩
theorem fl_Teller_92 : Fl "ShakeHands$Teller" 92 0 1 (.int) false := ⟨R_Circle, F_Circle, 9, t_Circle, rfl, by decide, i_Circle, tbl_in 76 (by decide +kernel) rfl, rfl, t_Circle_ok, n_Circle, by decide +kernel, rfl⟩
theorem fl_Teller_95 : Fl "ShakeHands$Teller" 95 6 0 (.array .byte) true := ⟨R_Tape, F_Tape, 2, t_Tape, rfl, by decide, i_Tape, tbl_in 33 (by decide +kernel) rfl, rfl, t_Tape_ok, n_Tape, by decide +kernel, rfl⟩
theorem fl_Teller_103 : Fl "ShakeHands$Teller" 103 7 9 (.int) false := ⟨R_Teller, F_Teller, 15, t_Teller, rfl, by decide, i_Teller, tbl_in 131 (by decide +kernel) rfl, rfl, t_Teller_ok, n_Teller, by decide +kernel, rfl⟩
theorem fl_Teller_139 : Fl "ShakeHands$Teller" 139 0 4 (.array .int) true := ⟨R_Circle, F_Circle, 9, t_Circle, rfl, by decide, i_Circle, tbl_in 86 (by decide +kernel) rfl, rfl, t_Circle_ok, n_Circle, by decide +kernel, rfl⟩
theorem fl_Teller_143 : Fl "ShakeHands$Teller" 143 0 5 (.int) false := ⟨R_Circle, F_Circle, 9, t_Circle, rfl, by decide, i_Circle, tbl_in 89 (by decide +kernel) rfl, rfl, t_Circle_ok, n_Circle, by decide +kernel, rfl⟩
theorem fl_Teller_152 : Fl "ShakeHands$Teller" 152 0 6 (.array .int) true := ⟨R_Circle, F_Circle, 9, t_Circle, rfl, by decide, i_Circle, tbl_in 92 (by decide +kernel) rfl, rfl, t_Circle_ok, n_Circle, by decide +kernel, rfl⟩
theorem fl_Teller_154 : Fl "ShakeHands$Teller" 154 0 7 (.int) false := ⟨R_Circle, F_Circle, 9, t_Circle, rfl, by decide, i_Circle, tbl_in 95 (by decide +kernel) rfl, rfl, t_Circle_ok, n_Circle, by decide +kernel, rfl⟩
theorem fl_Teller_184 : Fl "ShakeHands$Teller" 184 3 1 (.int) false := ⟨R_Row, F_Row, 2, t_Row, rfl, by decide, i_Row, tbl_in 64 (by decide +kernel) rfl, rfl, t_Row_ok, n_Row, by decide +kernel, rfl⟩
theorem fl_Teller_200 : Fl "ShakeHands$Teller" 200 0 3 (.int) false := ⟨R_Circle, F_Circle, 9, t_Circle, rfl, by decide, i_Circle, tbl_in 83 (by decide +kernel) rfl, rfl, t_Circle_ok, n_Circle, by decide +kernel, rfl⟩
theorem fl_Teller_203 : Fl "ShakeHands$Teller" 203 0 2 (.array .int) true := ⟨R_Circle, F_Circle, 9, t_Circle, rfl, by decide, i_Circle, tbl_in 80 (by decide +kernel) rfl, rfl, t_Circle_ok, n_Circle, by decide +kernel, rfl⟩
theorem fl_Model_7 : Fl "ShakeHandsModel" 7 9 0 (.array .int) true := ⟨R_Model, F_Model, 55, t_Model, rfl, by decide, i_Model, tbl_in 897 (by decide +kernel) rfl, rfl, t_Model_ok, n_Model, by decide +kernel, rfl⟩
theorem fl_Model_13 : Fl "ShakeHandsModel" 13 9 1 (.array .boolean) true := ⟨R_Model, F_Model, 55, t_Model, rfl, by decide, i_Model, tbl_in 898 (by decide +kernel) rfl, rfl, t_Model_ok, n_Model, by decide +kernel, rfl⟩
theorem fl_Model_17 : Fl "ShakeHandsModel" 17 9 7 (.array .int) true := ⟨R_Model, F_Model, 55, t_Model, rfl, by decide, i_Model, tbl_in 904 (by decide +kernel) rfl, rfl, t_Model_ok, n_Model, by decide +kernel, rfl⟩
theorem fl_Model_20 : Fl "ShakeHandsModel" 20 9 8 (.array .int) true := ⟨R_Model, F_Model, 55, t_Model, rfl, by decide, i_Model, tbl_in 905 (by decide +kernel) rfl, rfl, t_Model_ok, n_Model, by decide +kernel, rfl⟩
theorem fl_Model_23 : Fl "ShakeHandsModel" 23 9 9 (.array .int) true := ⟨R_Model, F_Model, 55, t_Model, rfl, by decide, i_Model, tbl_in 906 (by decide +kernel) rfl, rfl, t_Model_ok, n_Model, by decide +kernel, rfl⟩
theorem fl_Model_26 : Fl "ShakeHandsModel" 26 9 10 (.array .int) true := ⟨R_Model, F_Model, 55, t_Model, rfl, by decide, i_Model, tbl_in 907 (by decide +kernel) rfl, rfl, t_Model_ok, n_Model, by decide +kernel, rfl⟩
theorem fl_Model_29 : Fl "ShakeHandsModel" 29 9 11 (.array .int) true := ⟨R_Model, F_Model, 55, t_Model, rfl, by decide, i_Model, tbl_in 908 (by decide +kernel) rfl, rfl, t_Model_ok, n_Model, by decide +kernel, rfl⟩
theorem fl_Model_32 : Fl "ShakeHandsModel" 32 9 18 (.array .int) true := ⟨R_Model, F_Model, 55, t_Model, rfl, by decide, i_Model, tbl_in 915 (by decide +kernel) rfl, rfl, t_Model_ok, n_Model, by decide +kernel, rfl⟩
theorem fl_Model_35 : Fl "ShakeHandsModel" 35 9 19 (.array .int) true := ⟨R_Model, F_Model, 55, t_Model, rfl, by decide, i_Model, tbl_in 916 (by decide +kernel) rfl, rfl, t_Model_ok, n_Model, by decide +kernel, rfl⟩
theorem fl_Model_38 : Fl "ShakeHandsModel" 38 9 20 (.array .int) true := ⟨R_Model, F_Model, 55, t_Model, rfl, by decide, i_Model, tbl_in 917 (by decide +kernel) rfl, rfl, t_Model_ok, n_Model, by decide +kernel, rfl⟩
theorem fl_Model_41 : Fl "ShakeHandsModel" 41 9 21 (.array .int) true := ⟨R_Model, F_Model, 55, t_Model, rfl, by decide, i_Model, tbl_in 918 (by decide +kernel) rfl, rfl, t_Model_ok, n_Model, by decide +kernel, rfl⟩
theorem fl_Model_44 : Fl "ShakeHandsModel" 44 9 22 (.array .boolean) true := ⟨R_Model, F_Model, 55, t_Model, rfl, by decide, i_Model, tbl_in 919 (by decide +kernel) rfl, rfl, t_Model_ok, n_Model, by decide +kernel, rfl⟩
theorem fl_Model_47 : Fl "ShakeHandsModel" 47 9 23 (.array .boolean) true := ⟨R_Model, F_Model, 55, t_Model, rfl, by decide, i_Model, tbl_in 920 (by decide +kernel) rfl, rfl, t_Model_ok, n_Model, by decide +kernel, rfl⟩
theorem fl_Model_50 : Fl "ShakeHandsModel" 50 9 25 (.array .int) true := ⟨R_Model, F_Model, 55, t_Model, rfl, by decide, i_Model, tbl_in 922 (by decide +kernel) rfl, rfl, t_Model_ok, n_Model, by decide +kernel, rfl⟩
theorem fl_Model_53 : Fl "ShakeHandsModel" 53 9 33 (.array .int) true := ⟨R_Model, F_Model, 55, t_Model, rfl, by decide, i_Model, tbl_in 930 (by decide +kernel) rfl, rfl, t_Model_ok, n_Model, by decide +kernel, rfl⟩
theorem fl_Model_56 : Fl "ShakeHandsModel" 56 9 34 (.array .int) true := ⟨R_Model, F_Model, 55, t_Model, rfl, by decide, i_Model, tbl_in 931 (by decide +kernel) rfl, rfl, t_Model_ok, n_Model, by decide +kernel, rfl⟩
theorem fl_Model_59 : Fl "ShakeHandsModel" 59 9 36 (.array .int) true := ⟨R_Model, F_Model, 55, t_Model, rfl, by decide, i_Model, tbl_in 933 (by decide +kernel) rfl, rfl, t_Model_ok, n_Model, by decide +kernel, rfl⟩
theorem fl_Model_62 : Fl "ShakeHandsModel" 62 9 37 (.array .int) true := ⟨R_Model, F_Model, 55, t_Model, rfl, by decide, i_Model, tbl_in 934 (by decide +kernel) rfl, rfl, t_Model_ok, n_Model, by decide +kernel, rfl⟩
theorem fl_Model_65 : Fl "ShakeHandsModel" 65 9 46 (.array .int) true := ⟨R_Model, F_Model, 55, t_Model, rfl, by decide, i_Model, tbl_in 943 (by decide +kernel) rfl, rfl, t_Model_ok, n_Model, by decide +kernel, rfl⟩
theorem fl_Model_68 : Fl "ShakeHandsModel" 68 9 48 (.array .long) true := ⟨R_Model, F_Model, 55, t_Model, rfl, by decide, i_Model, tbl_in 945 (by decide +kernel) rfl, rfl, t_Model_ok, n_Model, by decide +kernel, rfl⟩
theorem fl_Model_72 : Fl "ShakeHandsModel" 72 9 49 (.array .int) true := ⟨R_Model, F_Model, 55, t_Model, rfl, by decide, i_Model, tbl_in 946 (by decide +kernel) rfl, rfl, t_Model_ok, n_Model, by decide +kernel, rfl⟩
theorem fl_Model_75 : Fl "ShakeHandsModel" 75 9 50 (.array .int) true := ⟨R_Model, F_Model, 55, t_Model, rfl, by decide, i_Model, tbl_in 947 (by decide +kernel) rfl, rfl, t_Model_ok, n_Model, by decide +kernel, rfl⟩
theorem fl_Model_78 : Fl "ShakeHandsModel" 78 9 51 (.array .int) true := ⟨R_Model, F_Model, 55, t_Model, rfl, by decide, i_Model, tbl_in 948 (by decide +kernel) rfl, rfl, t_Model_ok, n_Model, by decide +kernel, rfl⟩
theorem fl_Model_81 : Fl "ShakeHandsModel" 81 9 52 (.array .int) true := ⟨R_Model, F_Model, 55, t_Model, rfl, by decide, i_Model, tbl_in 949 (by decide +kernel) rfl, rfl, t_Model_ok, n_Model, by decide +kernel, rfl⟩
theorem fl_Model_84 : Fl "ShakeHandsModel" 84 9 53 (.array .int) true := ⟨R_Model, F_Model, 55, t_Model, rfl, by decide, i_Model, tbl_in 950 (by decide +kernel) rfl, rfl, t_Model_ok, n_Model, by decide +kernel, rfl⟩
theorem fl_Model_97 : Fl "ShakeHandsModel" 97 9 12 (.int) false := ⟨R_Model, F_Model, 55, t_Model, rfl, by decide, i_Model, tbl_in 909 (by decide +kernel) rfl, rfl, t_Model_ok, n_Model, by decide +kernel, rfl⟩
theorem fl_Model_101 : Fl "ShakeHandsModel" 101 9 13 (.int) false := ⟨R_Model, F_Model, 55, t_Model, rfl, by decide, i_Model, tbl_in 910 (by decide +kernel) rfl, rfl, t_Model_ok, n_Model, by decide +kernel, rfl⟩
theorem fl_Model_104 : Fl "ShakeHandsModel" 104 9 14 (.int) false := ⟨R_Model, F_Model, 55, t_Model, rfl, by decide, i_Model, tbl_in 911 (by decide +kernel) rfl, rfl, t_Model_ok, n_Model, by decide +kernel, rfl⟩
theorem fl_Model_107 : Fl "ShakeHandsModel" 107 9 15 (.int) false := ⟨R_Model, F_Model, 55, t_Model, rfl, by decide, i_Model, tbl_in 912 (by decide +kernel) rfl, rfl, t_Model_ok, n_Model, by decide +kernel, rfl⟩
theorem fl_Model_110 : Fl "ShakeHandsModel" 110 9 16 (.int) false := ⟨R_Model, F_Model, 55, t_Model, rfl, by decide, i_Model, tbl_in 913 (by decide +kernel) rfl, rfl, t_Model_ok, n_Model, by decide +kernel, rfl⟩
theorem fl_Model_113 : Fl "ShakeHandsModel" 113 9 17 (.int) false := ⟨R_Model, F_Model, 55, t_Model, rfl, by decide, i_Model, tbl_in 914 (by decide +kernel) rfl, rfl, t_Model_ok, n_Model, by decide +kernel, rfl⟩
theorem fl_Model_116 : Fl "ShakeHandsModel" 116 9 24 (.int) false := ⟨R_Model, F_Model, 55, t_Model, rfl, by decide, i_Model, tbl_in 921 (by decide +kernel) rfl, rfl, t_Model_ok, n_Model, by decide +kernel, rfl⟩
theorem fl_Model_119 : Fl "ShakeHandsModel" 119 9 2 (.int) false := ⟨R_Model, F_Model, 55, t_Model, rfl, by decide, i_Model, tbl_in 899 (by decide +kernel) rfl, rfl, t_Model_ok, n_Model, by decide +kernel, rfl⟩
theorem fl_Model_122 : Fl "ShakeHandsModel" 122 9 3 (.int) false := ⟨R_Model, F_Model, 55, t_Model, rfl, by decide, i_Model, tbl_in 900 (by decide +kernel) rfl, rfl, t_Model_ok, n_Model, by decide +kernel, rfl⟩
theorem fl_Model_125 : Fl "ShakeHandsModel" 125 9 4 (.int) false := ⟨R_Model, F_Model, 55, t_Model, rfl, by decide, i_Model, tbl_in 901 (by decide +kernel) rfl, rfl, t_Model_ok, n_Model, by decide +kernel, rfl⟩
theorem fl_Model_128 : Fl "ShakeHandsModel" 128 9 5 (.int) false := ⟨R_Model, F_Model, 55, t_Model, rfl, by decide, i_Model, tbl_in 902 (by decide +kernel) rfl, rfl, t_Model_ok, n_Model, by decide +kernel, rfl⟩
theorem fl_Model_131 : Fl "ShakeHandsModel" 131 9 6 (.int) false := ⟨R_Model, F_Model, 55, t_Model, rfl, by decide, i_Model, tbl_in 903 (by decide +kernel) rfl, rfl, t_Model_ok, n_Model, by decide +kernel, rfl⟩
theorem fl_Model_138 : Fl "ShakeHandsModel" 138 9 26 (.int) false := ⟨R_Model, F_Model, 55, t_Model, rfl, by decide, i_Model, tbl_in 923 (by decide +kernel) rfl, rfl, t_Model_ok, n_Model, by decide +kernel, rfl⟩
theorem fl_Model_147 : Fl "ShakeHandsModel" 147 9 31 (.int) false := ⟨R_Model, F_Model, 55, t_Model, rfl, by decide, i_Model, tbl_in 928 (by decide +kernel) rfl, rfl, t_Model_ok, n_Model, by decide +kernel, rfl⟩
theorem fl_Model_150 : Fl "ShakeHandsModel" 150 9 28 (.int) false := ⟨R_Model, F_Model, 55, t_Model, rfl, by decide, i_Model, tbl_in 925 (by decide +kernel) rfl, rfl, t_Model_ok, n_Model, by decide +kernel, rfl⟩
theorem fl_Model_153 : Fl "ShakeHandsModel" 153 9 32 (.int) false := ⟨R_Model, F_Model, 55, t_Model, rfl, by decide, i_Model, tbl_in 929 (by decide +kernel) rfl, rfl, t_Model_ok, n_Model, by decide +kernel, rfl⟩
theorem fl_Model_156 : Fl "ShakeHandsModel" 156 9 27 (.int) false := ⟨R_Model, F_Model, 55, t_Model, rfl, by decide, i_Model, tbl_in 924 (by decide +kernel) rfl, rfl, t_Model_ok, n_Model, by decide +kernel, rfl⟩
theorem fl_Model_167 : Fl "ShakeHandsModel" 167 9 29 (.int) false := ⟨R_Model, F_Model, 55, t_Model, rfl, by decide, i_Model, tbl_in 926 (by decide +kernel) rfl, rfl, t_Model_ok, n_Model, by decide +kernel, rfl⟩
theorem fl_Model_178 : Fl "ShakeHandsModel" 178 9 30 (.int) false := ⟨R_Model, F_Model, 55, t_Model, rfl, by decide, i_Model, tbl_in 927 (by decide +kernel) rfl, rfl, t_Model_ok, n_Model, by decide +kernel, rfl⟩
theorem fl_Model_229 : Fl "ShakeHandsModel" 229 9 35 (.int) false := ⟨R_Model, F_Model, 55, t_Model, rfl, by decide, i_Model, tbl_in 932 (by decide +kernel) rfl, rfl, t_Model_ok, n_Model, by decide +kernel, rfl⟩
theorem fl_Model_302 : Fl "ShakeHandsModel" 302 9 38 (.int) false := ⟨R_Model, F_Model, 55, t_Model, rfl, by decide, i_Model, tbl_in 935 (by decide +kernel) rfl, rfl, t_Model_ok, n_Model, by decide +kernel, rfl⟩
theorem fl_Model_308 : Fl "ShakeHandsModel" 308 9 39 (.int) false := ⟨R_Model, F_Model, 55, t_Model, rfl, by decide, i_Model, tbl_in 936 (by decide +kernel) rfl, rfl, t_Model_ok, n_Model, by decide +kernel, rfl⟩
theorem fl_Model_311 : Fl "ShakeHandsModel" 311 9 40 (.int) false := ⟨R_Model, F_Model, 55, t_Model, rfl, by decide, i_Model, tbl_in 937 (by decide +kernel) rfl, rfl, t_Model_ok, n_Model, by decide +kernel, rfl⟩
theorem fl_Model_314 : Fl "ShakeHandsModel" 314 9 42 (.int) false := ⟨R_Model, F_Model, 55, t_Model, rfl, by decide, i_Model, tbl_in 939 (by decide +kernel) rfl, rfl, t_Model_ok, n_Model, by decide +kernel, rfl⟩
theorem fl_Model_320 : Fl "ShakeHandsModel" 320 9 41 (.int) false := ⟨R_Model, F_Model, 55, t_Model, rfl, by decide, i_Model, tbl_in 938 (by decide +kernel) rfl, rfl, t_Model_ok, n_Model, by decide +kernel, rfl⟩
theorem fl_Model_323 : Fl "ShakeHandsModel" 323 9 43 (.int) false := ⟨R_Model, F_Model, 55, t_Model, rfl, by decide, i_Model, tbl_in 940 (by decide +kernel) rfl, rfl, t_Model_ok, n_Model, by decide +kernel, rfl⟩
theorem fl_Model_326 : Fl "ShakeHandsModel" 326 9 44 (.int) false := ⟨R_Model, F_Model, 55, t_Model, rfl, by decide, i_Model, tbl_in 941 (by decide +kernel) rfl, rfl, t_Model_ok, n_Model, by decide +kernel, rfl⟩
theorem fl_Model_329 : Fl "ShakeHandsModel" 329 9 45 (.int) false := ⟨R_Model, F_Model, 55, t_Model, rfl, by decide, i_Model, tbl_in 942 (by decide +kernel) rfl, rfl, t_Model_ok, n_Model, by decide +kernel, rfl⟩
theorem fl_Model_365 : Fl "ShakeHandsModel" 365 9 47 (.int) false := ⟨R_Model, F_Model, 55, t_Model, rfl, by decide, i_Model, tbl_in 944 (by decide +kernel) rfl, rfl, t_Model_ok, n_Model, by decide +kernel, rfl⟩
theorem fl_Model_408 : Fl "ShakeHandsModel" 408 9 54 (.int) false := ⟨R_Model, F_Model, 55, t_Model, rfl, by decide, i_Model, tbl_in 951 (by decide +kernel) rfl, rfl, t_Model_ok, n_Model, by decide +kernel, rfl⟩
theorem gs_Circle_50 : ("ShakeHands$Circle", 50, "LESSER") ∈ nestF := by decide +kernel
theorem gs_Circle_53 : ("ShakeHands$Circle", 53, "GREATER") ∈ nestF := by decide +kernel
theorem gs_Search_113 : ("ShakeHands$Search", 113, "LESSER") ∈ nestF := by decide +kernel
theorem gs_Search_116 : ("ShakeHands$Search", 116, "GREATER") ∈ nestF := by decide +kernel
theorem ct_ShakeHands_238 : Cond.constant "ShakeHands" 238 65536 ∈ tbl := tbl_in 764 (by decide +kernel) rfl
theorem ct_ShakeHands_313 : Cond.constant "ShakeHands" 313 65535 ∈ tbl := tbl_in 876 (by decide +kernel) rfl
theorem ct_Model_368 : Cond.constant "ShakeHandsModel" 368 32768 ∈ tbl := tbl_in 1350 (by decide +kernel) rfl
theorem ct_Model_411 : Cond.constant "ShakeHandsModel" 411 65535 ∈ tbl := tbl_in 1456 (by decide +kernel) rfl
theorem ct_Integer_265 : Cond.constant "java/lang/Integer" 265 1431655765 ∈ tbl := tbl_in 467 (by decide +kernel) rfl
theorem ct_Integer_266 : Cond.constant "java/lang/Integer" 266 858993459 ∈ tbl := tbl_in 468 (by decide +kernel) rfl
theorem ct_Integer_267 : Cond.constant "java/lang/Integer" 267 252645135 ∈ tbl := tbl_in 469 (by decide +kernel) rfl
theorem cl_Row_15 : Cond.constantLong "ShakeHands$Row" 15 68719476735 ∈ tbl := tbl_in 459 (by decide +kernel) rfl
theorem cl_Row_29 : Cond.constantLong "ShakeHands$Row" 29 15 ∈ tbl := tbl_in 591 (by decide +kernel) rfl
theorem cl_Model_141 : Cond.constantLong "ShakeHandsModel" 141 255 ∈ tbl := tbl_in 1068 (by decide +kernel) rfl
theorem cl_Model_170 : Cond.constantLong "ShakeHandsModel" 170 97 ∈ tbl := tbl_in 1088 (by decide +kernel) rfl
theorem cl_Model_172 : Cond.constantLong "ShakeHandsModel" 172 122 ∈ tbl := tbl_in 1089 (by decide +kernel) rfl
theorem cl_Model_174 : Cond.constantLong "ShakeHandsModel" 174 48 ∈ tbl := tbl_in 1090 (by decide +kernel) rfl
theorem cl_Model_176 : Cond.constantLong "ShakeHandsModel" 176 57 ∈ tbl := tbl_in 1091 (by decide +kernel) rfl
theorem cl_Model_227 : Cond.constantLong "ShakeHandsModel" 227 2 ∈ tbl := tbl_in 1163 (by decide +kernel) rfl
theorem cl_Model_254 : Cond.constantLong "ShakeHandsModel" 254 15 ∈ tbl := tbl_in 1195 (by decide +kernel) rfl
theorem cl_Model_354 : Cond.constantLong "ShakeHandsModel" 354 10 ∈ tbl := tbl_in 1300 (by decide +kernel) rfl
theorem cl_Model_356 : Cond.constantLong "ShakeHandsModel" 356 13 ∈ tbl := tbl_in 1301 (by decide +kernel) rfl
theorem cl_Model_381 : Cond.constantLong "ShakeHandsModel" 381 17 ∈ tbl := tbl_in 1379 (by decide +kernel) rfl
theorem cl_Model_389 : Cond.constantLong "ShakeHandsModel" 389 99 ∈ tbl := tbl_in 1388 (by decide +kernel) rfl
theorem cl_Model_391 : Cond.constantLong "ShakeHandsModel" 391 65535 ∈ tbl := tbl_in 1393 (by decide +kernel) rfl
theorem cl_Model_396 : Cond.constantLong "ShakeHandsModel" 396 4 ∈ tbl := tbl_in 1406 (by decide +kernel) rfl
theorem cl_Model_401 : Cond.constantLong "ShakeHandsModel" 401 3 ∈ tbl := tbl_in 1438 (by decide +kernel) rfl
theorem cl_Model_406 : Cond.constantLong "ShakeHandsModel" 406 20 ∈ tbl := tbl_in 1447 (by decide +kernel) rfl
theorem cw_nat : Cond.native arraycopyName ∈ tbl := tbl_in 512 (by decide +kernel) rfl
theorem cw_st : Cond.static arraycopyName ∈ tbl := tbl_in 511 (by decide +kernel) rfl
theorem cw_ShakeHands_94 : Cond.methodLink "ShakeHands" 94 arraycopyName ∈ tbl := tbl_in 513 (by decide +kernel) rfl
theorem cw_Circle_44 : Cond.methodLink "ShakeHands$Circle" 44 arraycopyName ∈ tbl := tbl_in 510 (by decide +kernel) rfl
theorem cw_Habit_29 : Cond.methodLink "ShakeHands$Habit" 29 arraycopyName ∈ tbl := tbl_in 737 (by decide +kernel) rfl
theorem cw_Minds_19 : Cond.methodLink "ShakeHands$Minds" 19 arraycopyName ∈ tbl := tbl_in 820 (by decide +kernel) rfl
theorem cw_Search_46 : Cond.methodLink "ShakeHands$Search" 46 arraycopyName ∈ tbl := tbl_in 679 (by decide +kernel) rfl
theorem mw_ShakeHands_305 : Cond.methodLink "ShakeHands" 305 Lib.Math.max.name ∈ tbl := tbl_in 492 (by decide +kernel) rfl
theorem mw_ShakeHands_310 : Cond.methodLink "ShakeHands" 310 Lib.Math.min.name ∈ tbl := tbl_in 493 (by decide +kernel) rfl
theorem mw_Teller_169 : Cond.methodLink "ShakeHands$Teller" 169 Lib.Math.max.name ∈ tbl := tbl_in 452 (by decide +kernel) rfl
theorem ms_max : Cond.static Lib.Math.max.name ∈ tbl := tbl_in 453 (by decide +kernel) rfl
theorem mc_max : Cond.code Lib.Math.max.name Lib.Math.max.code 2 (some .int) ∈ tbl := tbl_in 454 (by decide +kernel) rfl
theorem ms_min : Cond.static Lib.Math.min.name ∈ tbl := tbl_in 494 (by decide +kernel) rfl
theorem mc_min : Cond.code Lib.Math.min.name Lib.Math.min.code 2 (some .int) ∈ tbl := tbl_in 495 (by decide +kernel) rfl
theorem cV_ShakeHands_70 : CV "ShakeHands" 70 y_Tape_append := ⟨tbl_in 333 (by decide +kernel) rfl, im_Tape_append, se_Tape_append, ini_Tape⟩
theorem cV_ShakeHands_78 : CV "ShakeHands" 78 y_Teller_tell := ⟨tbl_in 345 (by decide +kernel) rfl, im_Teller_tell, se_Teller_tell, ini_Teller⟩
theorem cV_ShakeHands_86 : CV "ShakeHands" 86 y_Circle_copy := ⟨tbl_in 506 (by decide +kernel) rfl, im_Circle_copy, se_Circle_copy, ini_Circle⟩
theorem cV_ShakeHands_141 : CV "ShakeHands" 141 y_ShakeHands_isOne := ⟨tbl_in 535 (by decide +kernel) rfl, im_ShakeHands_isOne, se_ShakeHands_isOne, ini_ShakeHands⟩
theorem cV_ShakeHands_165 : CV "ShakeHands" 165 y_ShakeHands_knowsNow := ⟨tbl_in 566 (by decide +kernel) rfl, im_ShakeHands_knowsNow, se_ShakeHands_knowsNow, ini_ShakeHands⟩
theorem cV_ShakeHands_169 : CV "ShakeHands" 169 y_Circle_taught := ⟨tbl_in 573 (by decide +kernel) rfl, im_Circle_taught, se_Circle_taught, ini_Circle⟩
theorem cV_ShakeHands_173 : CV "ShakeHands" 173 y_Circle_without := ⟨tbl_in 601 (by decide +kernel) rfl, im_Circle_without, se_Circle_without, ini_Circle⟩
theorem cV_ShakeHands_176 : CV "ShakeHands" 176 y_ShakeHands_areTwo := ⟨tbl_in 613 (by decide +kernel) rfl, im_ShakeHands_areTwo, se_ShakeHands_areTwo, ini_ShakeHands⟩
theorem cV_ShakeHands_183 : CV "ShakeHands" 183 y_Circle_meet := ⟨tbl_in 618 (by decide +kernel) rfl, im_Circle_meet, se_Circle_meet, ini_Circle⟩
theorem cV_ShakeHands_187 : CV "ShakeHands" 187 y_ShakeHands_isFeastPart := ⟨tbl_in 635 (by decide +kernel) rfl, im_ShakeHands_isFeastPart, se_ShakeHands_isFeastPart, ini_ShakeHands⟩
theorem cV_ShakeHands_194 : CV "ShakeHands" 194 y_Circle_celebrate := ⟨tbl_in 642 (by decide +kernel) rfl, im_Circle_celebrate, se_Circle_celebrate, ini_Circle⟩
theorem cV_ShakeHands_198 : CV "ShakeHands" 198 y_ShakeHands_takeTrial := ⟨tbl_in 651 (by decide +kernel) rfl, im_ShakeHands_takeTrial, se_ShakeHands_takeTrial, ini_ShakeHands⟩
theorem cV_ShakeHands_205 : CV "ShakeHands" 205 y_ShakeHands_arePeople := ⟨tbl_in 667 (by decide +kernel) rfl, im_ShakeHands_arePeople, se_ShakeHands_arePeople, ini_ShakeHands⟩
theorem cV_ShakeHands_208 : CV "ShakeHands" 208 y_Search_begin := ⟨tbl_in 675 (by decide +kernel) rfl, im_Search_begin, se_Search_begin, ini_Search⟩
theorem cV_ShakeHands_211 : CV "ShakeHands" 211 y_Search_aim := ⟨tbl_in 680 (by decide +kernel) rfl, im_Search_aim, se_Search_aim, ini_Search⟩
theorem cV_ShakeHands_215 : CV "ShakeHands" 215 y_Search_fewestHands := ⟨tbl_in 684 (by decide +kernel) rfl, im_Search_fewestHands, se_Search_fewestHands, ini_Search⟩
theorem cV_ShakeHands_221 : CV "ShakeHands" 221 y_Search_fewestRounds := ⟨tbl_in 718 (by decide +kernel) rfl, im_Search_fewestRounds, se_Search_fewestRounds, ini_Search⟩
theorem cV_ShakeHands_224 : CV "ShakeHands" 224 y_ShakeHands_everybody := ⟨tbl_in 671 (by decide +kernel) rfl, im_ShakeHands_everybody, se_ShakeHands_everybody, ini_ShakeHands⟩
theorem cV_ShakeHands_227 : CV "ShakeHands" 227 y_Habit_lastDay := ⟨tbl_in 733 (by decide +kernel) rfl, im_Habit_lastDay, se_Habit_lastDay, ini_Habit⟩
theorem cV_ShakeHands_230 : CV "ShakeHands" 230 y_Habit_comesBack := ⟨tbl_in 747 (by decide +kernel) rfl, im_Habit_comesBack, se_Habit_comesBack, ini_Habit⟩
theorem cV_ShakeHands_234 : CV "ShakeHands" 234 y_Circle_liveDay := ⟨tbl_in 759 (by decide +kernel) rfl, im_Circle_liveDay, se_Circle_liveDay, ini_Circle⟩
theorem cV_ShakeHands_242 : CV "ShakeHands" 242 y_Search_countFits := ⟨tbl_in 773 (by decide +kernel) rfl, im_Search_countFits, se_Search_countFits, ini_Search⟩
theorem cV_ShakeHands_255 : CV "ShakeHands" 255 y_Search_countSeats := ⟨tbl_in 793 (by decide +kernel) rfl, im_Search_countSeats, se_Search_countSeats, ini_Search⟩
theorem cV_ShakeHands_261 : CV "ShakeHands" 261 y_ShakeHands_fewestGloves := ⟨tbl_in 805 (by decide +kernel) rfl, im_ShakeHands_fewestGloves, se_ShakeHands_fewestGloves, ini_ShakeHands⟩
theorem cV_ShakeHands_267 : CV "ShakeHands" 267 y_Minds_copy := ⟨tbl_in 816 (by decide +kernel) rfl, im_Minds_copy, se_Minds_copy, ini_Minds⟩
theorem cV_ShakeHands_276 : CV "ShakeHands" 276 y_Sheet_renew := ⟨tbl_in 835 (by decide +kernel) rfl, im_Sheet_renew, se_Sheet_renew, ini_Sheet⟩
theorem cV_ShakeHands_280 : CV "ShakeHands" 280 y_Sheet_faultAt := ⟨tbl_in 843 (by decide +kernel) rfl, im_Sheet_faultAt, se_Sheet_faultAt, ini_Sheet⟩
theorem cV_ShakeHands_283 : CV "ShakeHands" 283 y_Sheet_put := ⟨tbl_in 847 (by decide +kernel) rfl, im_Sheet_put, se_Sheet_put, ini_Sheet⟩
theorem cV_ShakeHands_286 : CV "ShakeHands" 286 y_Sheet_faultOfTwo := ⟨tbl_in 856 (by decide +kernel) rfl, im_Sheet_faultOfTwo, se_Sheet_faultOfTwo, ini_Sheet⟩
theorem cV_ShakeHands_289 : CV "ShakeHands" 289 y_Sheet_cellAt := ⟨tbl_in 860 (by decide +kernel) rfl, im_Sheet_cellAt, se_Sheet_cellAt, ini_Sheet⟩
theorem cV_ShakeHands_295 : CV "ShakeHands" 295 y_ShakeHands_knownToAll := ⟨tbl_in 872 (by decide +kernel) rfl, im_ShakeHands_knownToAll, se_ShakeHands_knownToAll, ini_ShakeHands⟩
theorem cV_Circle_56 : CV "ShakeHands$Circle" 56 y_Row_take := ⟨tbl_in 577 (by decide +kernel) rfl, im_Row_take, se_Row_take, ini_Row⟩
theorem cV_Circle_60 : CV "ShakeHands$Circle" 60 y_Row_addAll := ⟨tbl_in 626 (by decide +kernel) rfl, im_Row_addAll, se_Row_addAll, ini_Row⟩
theorem cV_Circle_63 : CV "ShakeHands$Circle" 63 y_Circle_settle := ⟨tbl_in 579 (by decide +kernel) rfl, im_Circle_settle, se_Circle_settle, ini_Circle⟩
theorem cV_Circle_66 : CV "ShakeHands$Circle" 66 y_Row_atRest := ⟨tbl_in 596 (by decide +kernel) rfl, im_Row_atRest, se_Row_atRest, ini_Row⟩
theorem cV_Circle_70 : CV "ShakeHands$Circle" 70 y_Row_add := ⟨tbl_in 578 (by decide +kernel) rfl, im_Row_add, se_Row_add, ini_Row⟩
theorem cV_Circle_74 : CV "ShakeHands$Circle" 74 y_Row_drop := ⟨tbl_in 587 (by decide +kernel) rfl, im_Row_drop, se_Row_drop, ini_Row⟩
theorem cV_Circle_77 : CV "ShakeHands$Circle" 77 y_Circle_meet := ⟨tbl_in 646 (by decide +kernel) rfl, im_Circle_meet, se_Circle_meet, ini_Circle⟩
theorem cV_Circle_81 : CV "ShakeHands$Circle" 81 y_Circle_firstJoin := ⟨tbl_in 583 (by decide +kernel) rfl, im_Circle_firstJoin, se_Circle_firstJoin, ini_Circle⟩
theorem cV_Circle_85 : CV "ShakeHands$Circle" 85 y_Row_shorten := ⟨tbl_in 592 (by decide +kernel) rfl, im_Row_shorten, se_Row_shorten, ini_Row⟩
theorem cV_Habit_43 : CV "ShakeHands$Habit" 43 y_Circle_liveDay := ⟨tbl_in 739 (by decide +kernel) rfl, im_Circle_liveDay, se_Circle_liveDay, ini_Circle⟩
theorem cV_Habit_49 : CV "ShakeHands$Habit" 49 y_Habit_sameDay := ⟨tbl_in 751 (by decide +kernel) rfl, im_Habit_sameDay, se_Habit_sameDay, ini_Habit⟩
theorem cV_Row_25 : CV "ShakeHands$Row" 25 y_Row_add := ⟨tbl_in 630 (by decide +kernel) rfl, im_Row_add, se_Row_add, ini_Row⟩
theorem cV_Search_64 : CV "ShakeHands$Search" 64 y_Search_isBarred := ⟨tbl_in 688 (by decide +kernel) rfl, im_Search_isBarred, se_Search_isBarred, ini_Search⟩
theorem cV_Search_72 : CV "ShakeHands$Search" 72 y_Search_amiss := ⟨tbl_in 696 (by decide +kernel) rfl, im_Search_amiss, se_Search_amiss, ini_Search⟩
theorem cV_Search_128 : CV "ShakeHands$Search" 128 y_Circle_meet := ⟨tbl_in 713 (by decide +kernel) rfl, im_Circle_meet, se_Circle_meet, ini_Circle⟩
theorem cV_Search_139 : CV "ShakeHands$Search" 139 y_Search_step := ⟨tbl_in 709 (by decide +kernel) rfl, im_Search_step, se_Search_step, ini_Search⟩
theorem cV_Search_143 : CV "ShakeHands$Search" 143 y_Search_unlikeSeen := ⟨tbl_in 780 (by decide +kernel) rfl, im_Search_unlikeSeen, se_Search_unlikeSeen, ini_Search⟩
theorem cV_Sheet_24 : CV "ShakeHands$Sheet" 24 y_Sheet_faultAt := ⟨tbl_in 851 (by decide +kernel) rfl, im_Sheet_faultAt, se_Sheet_faultAt, ini_Sheet⟩
theorem cV_Teller_33 : CV "ShakeHands$Teller" 33 y_Teller_begin := ⟨tbl_in 349 (by decide +kernel) rfl, im_Teller_begin, se_Teller_begin, ini_Teller⟩
theorem cV_Teller_42 : CV "ShakeHands$Teller" 42 y_Teller_readToken := ⟨tbl_in 357 (by decide +kernel) rfl, im_Teller_readToken, se_Teller_readToken, ini_Teller⟩
theorem cV_Teller_51 : CV "ShakeHands$Teller" 51 y_Teller_tellLine := ⟨tbl_in 369 (by decide +kernel) rfl, im_Teller_tellLine, se_Teller_tellLine, ini_Teller⟩
theorem cV_Teller_54 : CV "ShakeHands$Teller" 54 y_Teller_lookBack := ⟨tbl_in 502 (by decide +kernel) rfl, im_Teller_lookBack, se_Teller_lookBack, ini_Teller⟩
theorem cV_Teller_60 : CV "ShakeHands$Teller" 60 y_Circle_beAsAtFirst := ⟨tbl_in 353 (by decide +kernel) rfl, im_Circle_beAsAtFirst, se_Circle_beAsAtFirst, ini_Circle⟩
theorem cV_Teller_88 : CV "ShakeHands$Teller" 88 y_Teller_refuse := ⟨tbl_in 365 (by decide +kernel) rfl, im_Teller_refuse, se_Teller_refuse, ini_Teller⟩
theorem cV_Teller_99 : CV "ShakeHands$Teller" 99 y_Teller_isWithin := ⟨tbl_in 361 (by decide +kernel) rfl, im_Teller_isWithin, se_Teller_isWithin, ini_Teller⟩
theorem cV_Teller_106 : CV "ShakeHands$Teller" 106 y_String_length := ⟨tbl_in 378 (by decide +kernel) rfl, im_String_length, se_String_length, ini_String⟩
theorem cV_Teller_111 : CV "ShakeHands$Teller" 111 y_String_charAt := ⟨tbl_in 388 (by decide +kernel) rfl, im_String_charAt, se_String_charAt, ini_String⟩
theorem cV_Teller_116 : CV "ShakeHands$Teller" 116 y_Teller_isCalled := ⟨tbl_in 374 (by decide +kernel) rfl, im_Teller_isCalled, se_Teller_isCalled, ini_Teller⟩
theorem cV_Teller_120 : CV "ShakeHands$Teller" 120 y_Teller_tellPeople := ⟨tbl_in 426 (by decide +kernel) rfl, im_Teller_tellPeople, se_Teller_tellPeople, ini_Teller⟩
theorem cV_Teller_124 : CV "ShakeHands$Teller" 124 y_Teller_tellHold := ⟨tbl_in 443 (by decide +kernel) rfl, im_Teller_tellHold, se_Teller_tellHold, ini_Teller⟩
theorem cV_Teller_129 : CV "ShakeHands$Teller" 129 y_Teller_tellRow := ⟨tbl_in 448 (by decide +kernel) rfl, im_Teller_tellRow, se_Teller_tellRow, ini_Teller⟩
theorem cV_Teller_134 : CV "ShakeHands$Teller" 134 y_Teller_tellJoin := ⟨tbl_in 480 (by decide +kernel) rfl, im_Teller_tellJoin, se_Teller_tellJoin, ini_Teller⟩
theorem cV_Teller_146 : CV "ShakeHands$Teller" 146 y_Teller_tellPair := ⟨tbl_in 485 (by decide +kernel) rfl, im_Teller_tellPair, se_Teller_tellPair, ini_Teller⟩
theorem cV_Teller_159 : CV "ShakeHands$Teller" 159 y_Teller_tellGlove := ⟨tbl_in 498 (by decide +kernel) rfl, im_Teller_tellGlove, se_Teller_tellGlove, ini_Teller⟩
theorem cV_Teller_162 : CV "ShakeHands$Teller" 162 y_Teller_takeNumber := ⟨tbl_in 430 (by decide +kernel) rfl, im_Teller_takeNumber, se_Teller_takeNumber, ini_Teller⟩
theorem cV_Teller_166 : CV "ShakeHands$Teller" 166 y_Teller_takeSign := ⟨tbl_in 438 (by decide +kernel) rfl, im_Teller_takeSign, se_Teller_takeSign, ini_Teller⟩
theorem cV_Teller_174 : CV "ShakeHands$Teller" 174 y_Row_take := ⟨tbl_in 455 (by decide +kernel) rfl, im_Row_take, se_Row_take, ini_Row⟩
theorem cV_Teller_178 : CV "ShakeHands$Teller" 178 y_Teller_tellThing := ⟨tbl_in 460 (by decide +kernel) rfl, im_Teller_tellThing, se_Teller_tellThing, ini_Teller⟩
theorem cV_Teller_181 : CV "ShakeHands$Teller" 181 y_Teller_boundedValue := ⟨tbl_in 434 (by decide +kernel) rfl, im_Teller_boundedValue, se_Teller_boundedValue, ini_Teller⟩
theorem cV_Teller_193 : CV "ShakeHands$Teller" 193 y_Row_atRest := ⟨tbl_in 475 (by decide +kernel) rfl, im_Row_atRest, se_Row_atRest, ini_Row⟩
theorem cV_Teller_197 : CV "ShakeHands$Teller" 197 y_Row_add := ⟨tbl_in 470 (by decide +kernel) rfl, im_Row_add, se_Row_add, ini_Row⟩
theorem cV_Model_91 : CV "ShakeHandsModel" 91 y_Model_firstDraft := ⟨tbl_in 886 (by decide +kernel) rfl, im_Model_firstDraft, se_Model_firstDraft, ini_Model⟩
theorem cV_Model_94 : CV "ShakeHandsModel" 94 y_Model_keepDraft := ⟨tbl_in 890 (by decide +kernel) rfl, im_Model_keepDraft, se_Model_keepDraft, ini_Model⟩
theorem cV_Model_159 : CV "ShakeHandsModel" 159 y_Model_look := ⟨tbl_in 1084 (by decide +kernel) rfl, im_Model_look, se_Model_look, ini_Model⟩
theorem cV_Model_163 : CV "ShakeHandsModel" 163 y_Model_is := ⟨tbl_in 1104 (by decide +kernel) rfl, im_Model_is, se_Model_is, ini_Model⟩
theorem cV_Model_181 : CV "ShakeHandsModel" 181 y_Model_needs := ⟨tbl_in 1092 (by decide +kernel) rfl, im_Model_needs, se_Model_needs, ini_Model⟩
theorem cV_Model_185 : CV "ShakeHandsModel" 185 y_Model_looked := ⟨tbl_in 1112 (by decide +kernel) rfl, im_Model_looked, se_Model_looked, ini_Model⟩
theorem cV_Model_188 : CV "ShakeHandsModel" 188 y_Model_next := ⟨tbl_in 1080 (by decide +kernel) rfl, im_Model_next, se_Model_next, ini_Model⟩
theorem cV_Model_191 : CV "ShakeHandsModel" 191 y_Model_tells := ⟨tbl_in 1120 (by decide +kernel) rfl, im_Model_tells, se_Model_tells, ini_Model⟩
theorem cV_Model_195 : CV "ShakeHandsModel" 195 y_Model_readNumber := ⟨tbl_in 1108 (by decide +kernel) rfl, im_Model_readNumber, se_Model_readNumber, ini_Model⟩
theorem cV_Model_198 : CV "ShakeHandsModel" 198 y_Model_nameNow := ⟨tbl_in 1100 (by decide +kernel) rfl, im_Model_nameNow, se_Model_nameNow, ini_Model⟩
theorem cV_Model_202 : CV "ShakeHandsModel" 202 y_Model_readKnows := ⟨tbl_in 1116 (by decide +kernel) rfl, im_Model_readKnows, se_Model_readKnows, ini_Model⟩
theorem cV_Model_205 : CV "ShakeHandsModel" 205 y_Model_readJoin := ⟨tbl_in 1124 (by decide +kernel) rfl, im_Model_readJoin, se_Model_readJoin, ini_Model⟩
theorem cV_Model_208 : CV "ShakeHandsModel" 208 y_Model_readHand := ⟨tbl_in 1128 (by decide +kernel) rfl, im_Model_readHand, se_Model_readHand, ini_Model⟩
theorem cV_Model_211 : CV "ShakeHandsModel" 211 y_Model_readGlove := ⟨tbl_in 1132 (by decide +kernel) rfl, im_Model_readGlove, se_Model_readGlove, ini_Model⟩
theorem cV_Model_214 : CV "ShakeHandsModel" 214 y_Model_readLine := ⟨tbl_in 1096 (by decide +kernel) rfl, im_Model_readLine, se_Model_readLine, ini_Model⟩
theorem cV_Model_217 : CV "ShakeHandsModel" 217 y_Model_isHeld := ⟨tbl_in 1136 (by decide +kernel) rfl, im_Model_isHeld, se_Model_isHeld, ini_Model⟩
theorem cV_Model_221 : CV "ShakeHandsModel" 221 y_Model_worn := ⟨tbl_in 1148 (by decide +kernel) rfl, im_Model_worn, se_Model_worn, ini_Model⟩
theorem cV_Model_232 : CV "ShakeHandsModel" 232 y_Model_place := ⟨tbl_in 1220 (by decide +kernel) rfl, im_Model_place, se_Model_place, ini_Model⟩
theorem cV_Model_235 : CV "ShakeHandsModel" 235 y_Model_drops := ⟨tbl_in 1228 (by decide +kernel) rfl, im_Model_drops, se_Model_drops, ini_Model⟩
theorem cV_Model_238 : CV "ShakeHandsModel" 238 y_Model_adds := ⟨tbl_in 1216 (by decide +kernel) rfl, im_Model_adds, se_Model_adds, ini_Model⟩
theorem cV_Model_241 : CV "ShakeHandsModel" 241 y_Model_takes := ⟨tbl_in 1212 (by decide +kernel) rfl, im_Model_takes, se_Model_takes, ini_Model⟩
theorem cV_Model_245 : CV "ShakeHandsModel" 245 y_Model_settles := ⟨tbl_in 1224 (by decide +kernel) rfl, im_Model_settles, se_Model_settles, ini_Model⟩
theorem cV_Model_248 : CV "ShakeHandsModel" 248 y_Model_puts := ⟨tbl_in 1232 (by decide +kernel) rfl, im_Model_puts, se_Model_puts, ini_Model⟩
theorem cV_Model_251 : CV "ShakeHandsModel" 251 y_Model_knowsIn := ⟨tbl_in 1180 (by decide +kernel) rfl, im_Model_knowsIn, se_Model_knowsIn, ini_Model⟩
theorem cV_Model_256 : CV "ShakeHandsModel" 256 y_Model_begins := ⟨tbl_in 1176 (by decide +kernel) rfl, im_Model_begins, se_Model_begins, ini_Model⟩
theorem cV_Model_259 : CV "ShakeHandsModel" 259 y_Model_anyIn := ⟨tbl_in 1272 (by decide +kernel) rfl, im_Model_anyIn, se_Model_anyIn, ini_Model⟩
theorem cV_Model_262 : CV "ShakeHandsModel" 262 y_Model_whoIn := ⟨tbl_in 1200 (by decide +kernel) rfl, im_Model_whoIn, se_Model_whoIn, ini_Model⟩
theorem cV_Model_265 : CV "ShakeHandsModel" 265 y_Model_knowsNow := ⟨tbl_in 1172 (by decide +kernel) rfl, im_Model_knowsNow, se_Model_knowsNow, ini_Model⟩
theorem cV_Model_268 : CV "ShakeHandsModel" 268 y_Model_isOne := ⟨tbl_in 1168 (by decide +kernel) rfl, im_Model_isOne, se_Model_isOne, ini_Model⟩
theorem cV_Model_275 : CV "ShakeHandsModel" 275 y_Model_whoNow := ⟨tbl_in 1196 (by decide +kernel) rfl, im_Model_whoNow, se_Model_whoNow, ini_Model⟩
theorem cV_Model_278 : CV "ShakeHandsModel" 278 y_Model_knowsIt := ⟨tbl_in 1208 (by decide +kernel) rfl, im_Model_knowsIt, se_Model_knowsIt, ini_Model⟩
theorem cV_Model_282 : CV "ShakeHandsModel" 282 y_Model_shakes := ⟨tbl_in 1256 (by decide +kernel) rfl, im_Model_shakes, se_Model_shakes, ini_Model⟩
theorem cV_Model_286 : CV "ShakeHandsModel" 286 y_Model_becomes := ⟨tbl_in 1260 (by decide +kernel) rfl, im_Model_becomes, se_Model_becomes, ini_Model⟩
theorem cV_Model_289 : CV "ShakeHandsModel" 289 y_Model_areTwo := ⟨tbl_in 1248 (by decide +kernel) rfl, im_Model_areTwo, se_Model_areTwo, ini_Model⟩
theorem cV_Model_292 : CV "ShakeHandsModel" 292 y_Model_shakesNow := ⟨tbl_in 1252 (by decide +kernel) rfl, im_Model_shakesNow, se_Model_shakesNow, ini_Model⟩
theorem cV_Model_295 : CV "ShakeHandsModel" 295 y_Model_anyNow := ⟨tbl_in 1268 (by decide +kernel) rfl, im_Model_anyNow, se_Model_anyNow, ini_Model⟩
theorem cV_Model_298 : CV "ShakeHandsModel" 298 y_Model_feasts := ⟨tbl_in 1276 (by decide +kernel) rfl, im_Model_feasts, se_Model_feasts, ini_Model⟩
theorem cV_Model_305 : CV "ShakeHandsModel" 305 y_Model_isFreePair := ⟨tbl_in 1334 (by decide +kernel) rfl, im_Model_isFreePair, se_Model_isFreePair, ini_Model⟩
theorem cV_Model_317 : CV "ShakeHandsModel" 317 y_Model_isSeen := ⟨tbl_in 1322 (by decide +kernel) rfl, im_Model_isSeen, se_Model_isSeen, ini_Model⟩
theorem cV_Model_332 : CV "ShakeHandsModel" 332 y_Model_isStill := ⟨tbl_in 1314 (by decide +kernel) rfl, im_Model_isStill, se_Model_isStill, ini_Model⟩
theorem cV_Model_335 : CV "ShakeHandsModel" 335 y_Model_isGood := ⟨tbl_in 1318 (by decide +kernel) rfl, im_Model_isGood, se_Model_isGood, ini_Model⟩
theorem cV_Model_338 : CV "ShakeHandsModel" 338 y_Model_aRow := ⟨tbl_in 1326 (by decide +kernel) rfl, im_Model_aRow, se_Model_aRow, ini_Model⟩
theorem cV_Model_341 : CV "ShakeHandsModel" 341 y_Model_freeFrom := ⟨tbl_in 1330 (by decide +kernel) rfl, im_Model_freeFrom, se_Model_freeFrom, ini_Model⟩
theorem cV_Model_344 : CV "ShakeHandsModel" 344 y_Model_copies := ⟨tbl_in 1338 (by decide +kernel) rfl, im_Model_copies, se_Model_copies, ini_Model⟩
theorem cV_Model_347 : CV "ShakeHandsModel" 347 y_Model_layRows := ⟨tbl_in 1310 (by decide +kernel) rfl, im_Model_layRows, se_Model_layRows, ini_Model⟩
theorem cV_Model_351 : CV "ShakeHandsModel" 351 y_Model_areOnes := ⟨tbl_in 1296 (by decide +kernel) rfl, im_Model_areOnes, se_Model_areOnes, ini_Model⟩
theorem cV_Model_358 : CV "ShakeHandsModel" 358 y_Model_asks := ⟨tbl_in 1302 (by decide +kernel) rfl, im_Model_asks, se_Model_asks, ini_Model⟩
theorem cV_Model_362 : CV "ShakeHandsModel" 362 y_Model_fewestHands := ⟨tbl_in 1306 (by decide +kernel) rfl, im_Model_fewestHands, se_Model_fewestHands, ini_Model⟩
theorem cV_Model_369 : CV "ShakeHandsModel" 369 y_Model_isRound := ⟨tbl_in 1351 (by decide +kernel) rfl, im_Model_isRound, se_Model_isRound, ini_Model⟩
theorem cV_Model_372 : CV "ShakeHandsModel" 372 y_Model_layRounds := ⟨tbl_in 1346 (by decide +kernel) rfl, im_Model_layRounds, se_Model_layRounds, ini_Model⟩
theorem cV_Model_375 : CV "ShakeHandsModel" 375 y_Model_goesRound := ⟨tbl_in 1355 (by decide +kernel) rfl, im_Model_goesRound, se_Model_goesRound, ini_Model⟩
theorem cV_Model_378 : CV "ShakeHandsModel" 378 y_Model_aDay := ⟨tbl_in 1367 (by decide +kernel) rfl, im_Model_aDay, se_Model_aDay, ini_Model⟩
theorem cV_Model_383 : CV "ShakeHandsModel" 383 y_Model_notes := ⟨tbl_in 1375 (by decide +kernel) rfl, im_Model_notes, se_Model_notes, ini_Model⟩
theorem cV_Model_386 : CV "ShakeHandsModel" 386 y_Model_isAs := ⟨tbl_in 1380 (by decide +kernel) rfl, im_Model_isAs, se_Model_isAs, ini_Model⟩
theorem cV_Model_393 : CV "ShakeHandsModel" 393 y_Model_seen := ⟨tbl_in 1394 (by decide +kernel) rfl, im_Model_seen, se_Model_seen, ini_Model⟩
theorem cV_Model_398 : CV "ShakeHandsModel" 398 y_Model_sits := ⟨tbl_in 1415 (by decide +kernel) rfl, im_Model_sits, se_Model_sits, ini_Model⟩
theorem cS_ShakeHands_125 : CS "ShakeHands" 125 y_Integer_bitCount := ⟨tbl_in 522 (by decide +kernel) rfl, st_Integer_bitCount, ini_Integer⟩
theorem cS_ShakeHands_145 : CS "ShakeHands" 145 y_Row_knownOf := ⟨tbl_in 539 (by decide +kernel) rfl, st_Row_knownOf, ini_Row⟩
theorem cS_ShakeHands_151 : CS "ShakeHands" 151 y_Row_sizeOf := ⟨tbl_in 546 (by decide +kernel) rfl, st_Row_sizeOf, ini_Row⟩
theorem cS_ShakeHands_154 : CS "ShakeHands" 154 y_Row_thingOf := ⟨tbl_in 549 (by decide +kernel) rfl, st_Row_thingOf, ini_Row⟩
theorem cS_ShakeHands_158 : CS "ShakeHands" 158 y_ShakeHands_isThing := ⟨tbl_in 556 (by decide +kernel) rfl, st_ShakeHands_isThing, ini_ShakeHands⟩
theorem cS_ShakeHands_161 : CS "ShakeHands" 161 y_Minds_knowers := ⟨tbl_in 559 (by decide +kernel) rfl, st_Minds_knowers, ini_Minds⟩
theorem cS_ShakeHands_179 : CS "ShakeHands" 179 y_ShakeHands_pairOf := ⟨tbl_in 617 (by decide +kernel) rfl, st_ShakeHands_pairOf, ini_ShakeHands⟩
theorem cS_ShakeHands_190 : CS "ShakeHands" 190 y_Minds_known := ⟨tbl_in 639 (by decide +kernel) rfl, st_Minds_known, ini_Minds⟩
theorem cS_ShakeHands_201 : CS "ShakeHands" 201 y_Row_knowsIt := ⟨tbl_in 570 (by decide +kernel) rfl, st_Row_knowsIt, ini_Row⟩
theorem cS_ShakeHands_264 : CS "ShakeHands" 264 y_ShakeHands_isImage := ⟨tbl_in 813 (by decide +kernel) rfl, st_ShakeHands_isImage, ini_ShakeHands⟩
theorem cS_ShakeHands_270 : CS "ShakeHands" 270 y_ShakeHands_isSheet := ⟨tbl_in 829 (by decide +kernel) rfl, st_ShakeHands_isSheet, ini_ShakeHands⟩
theorem cS_ShakeHands_273 : CS "ShakeHands" 273 y_ShakeHands_isLane := ⟨tbl_in 832 (by decide +kernel) rfl, st_ShakeHands_isLane, ini_ShakeHands⟩
theorem cS_Habit_35 : CS "ShakeHands$Habit" 35 y_Minds_knowers := ⟨tbl_in 738 (by decide +kernel) rfl, st_Minds_knowers, ini_Minds⟩
theorem cS_Row_9 : CS "ShakeHands$Row" 9 y_Integer_bitCount := ⟨tbl_in 474 (by decide +kernel) rfl, st_Integer_bitCount, ini_Integer⟩
theorem cS_Search_68 : CS "ShakeHands$Search" 68 y_Search_reaches := ⟨tbl_in 693 (by decide +kernel) rfl, st_Search_reaches, ini_Search⟩
theorem cS_Search_76 : CS "ShakeHands$Search" 76 y_Search_turns := ⟨tbl_in 722 (by decide +kernel) rfl, st_Search_turns, ini_Search⟩
theorem cS_Search_89 : CS "ShakeHands$Search" 89 y_Search_fit := ⟨tbl_in 777 (by decide +kernel) rfl, st_Search_fit, ini_Search⟩
theorem cS_Search_93 : CS "ShakeHands$Search" 93 y_Search_sit := ⟨tbl_in 797 (by decide +kernel) rfl, st_Search_sit, ini_Search⟩
theorem cS_Search_97 : CS "ShakeHands$Search" 97 y_Minds_knowers := ⟨tbl_in 692 (by decide +kernel) rfl, st_Minds_knowers, ini_Minds⟩
theorem cS_Search_104 : CS "ShakeHands$Search" 104 y_Row_knownOf := ⟨tbl_in 784 (by decide +kernel) rfl, st_Row_knownOf, ini_Row⟩
theorem cS_Search_119 : CS "ShakeHands$Search" 119 y_Integer_bitCount := ⟨tbl_in 708 (by decide +kernel) rfl, st_Integer_bitCount, ini_Integer⟩
theorem cS_Search_132 : CS "ShakeHands$Search" 132 y_Search_bitsOf := ⟨tbl_in 700 (by decide +kernel) rfl, st_Search_bitsOf, ini_Search⟩
theorem cS_Search_135 : CS "ShakeHands$Search" 135 y_Search_canMend := ⟨tbl_in 705 (by decide +kernel) rfl, st_Search_canMend, ini_Search⟩
theorem cS_Teller_187 : CS "ShakeHands$Teller" 187 y_Integer_bitCount := ⟨tbl_in 464 (by decide +kernel) rfl, st_Integer_bitCount, ini_Integer⟩
theorem cS_Model_87 : CS "ShakeHandsModel" 87 y_Model_pairOf := ⟨tbl_in 883 (by decide +kernel) rfl, st_Model_pairOf, ini_Model⟩
theorem cS_Model_134 : CS "ShakeHandsModel" 134 y_Model_flag := ⟨tbl_in 894 (by decide +kernel) rfl, st_Model_flag, ini_Model⟩
theorem cS_Model_143 : CS "ShakeHandsModel" 143 y_Model_in := ⟨tbl_in 1073 (by decide +kernel) rfl, st_Model_in, ini_Model⟩
theorem cS_Model_224 : CS "ShakeHandsModel" 224 y_Model_bitsOf := ⟨tbl_in 1152 (by decide +kernel) rfl, st_Model_bitsOf, ini_Model⟩
theorem cS_Model_272 : CS "ShakeHandsModel" 272 y_Model_isThing := ⟨tbl_in 1192 (by decide +kernel) rfl, st_Model_isThing, ini_Model⟩
theorem cS_Model_403 : CS "ShakeHandsModel" 403 y_Model_isSheet := ⟨tbl_in 1435 (by decide +kernel) rfl, st_Model_isSheet, ini_Model⟩
theorem cSN_Search_146 : CSN "ShakeHands$Search" 146 y_ShakeHands_pairOf := ⟨by decide +kernel, st_ShakeHands_pairOf, ini_ShakeHands⟩
theorem cSN_Teller_206 : CSN "ShakeHands$Teller" 206 y_ShakeHands_pairOf := ⟨by decide +kernel, st_ShakeHands_pairOf, ini_ShakeHands⟩
theorem dn_Circle_beAsAtFirst : Dn y_Circle_beAsAtFirst 0 := ⟨by decide +kernel, by decide +kernel, by decide +kernel⟩
theorem dn_Circle_celebrate : Dn y_Circle_celebrate 3 := ⟨by decide +kernel, by decide +kernel, by decide +kernel⟩
theorem dn_Circle_copy : Dn y_Circle_copy 1 := ⟨by decide +kernel, by decide +kernel, by decide +kernel⟩
theorem dn_Circle_firstJoin : Dn y_Circle_firstJoin 0 := ⟨by decide +kernel, by decide +kernel, by decide +kernel⟩
theorem dn_Circle_liveDay : Dn y_Circle_liveDay 2 := ⟨by decide +kernel, by decide +kernel, by decide +kernel⟩
theorem dn_Circle_meet : Dn y_Circle_meet 3 := ⟨by decide +kernel, by decide +kernel, by decide +kernel⟩
theorem dn_Circle_settle : Dn y_Circle_settle 0 := ⟨by decide +kernel, by decide +kernel, by decide +kernel⟩
theorem dn_Circle_taught : Dn y_Circle_taught 2 := ⟨by decide +kernel, by decide +kernel, by decide +kernel⟩
theorem dn_Circle_without : Dn y_Circle_without 2 := ⟨by decide +kernel, by decide +kernel, by decide +kernel⟩
theorem dn_Habit_comesBack : Dn y_Habit_comesBack 1 := ⟨by decide +kernel, by decide +kernel, by decide +kernel⟩
theorem dn_Habit_lastDay : Dn y_Habit_lastDay 1 := ⟨by decide +kernel, by decide +kernel, by decide +kernel⟩
theorem dn_Habit_sameDay : Dn y_Habit_sameDay 1 := ⟨by decide +kernel, by decide +kernel, by decide +kernel⟩
theorem dn_Integer_bitCount : Dn y_Integer_bitCount 1 := ⟨by decide +kernel, by decide +kernel, by decide +kernel⟩
theorem dn_Minds_copy : Dn y_Minds_copy 1 := ⟨by decide +kernel, by decide +kernel, by decide +kernel⟩
theorem dn_Minds_knowers : Dn y_Minds_knowers 2 := ⟨by decide +kernel, by decide +kernel, by decide +kernel⟩
theorem dn_Minds_known : Dn y_Minds_known 1 := ⟨by decide +kernel, by decide +kernel, by decide +kernel⟩
theorem dn_Model_aDay : Dn y_Model_aDay 1 := ⟨by decide +kernel, by decide +kernel, by decide +kernel⟩
theorem dn_Model_aRow : Dn y_Model_aRow 1 := ⟨by decide +kernel, by decide +kernel, by decide +kernel⟩
theorem dn_Model_adds : Dn y_Model_adds 1 := ⟨by decide +kernel, by decide +kernel, by decide +kernel⟩
theorem dn_Model_anyIn : Dn y_Model_anyIn 1 := ⟨by decide +kernel, by decide +kernel, by decide +kernel⟩
theorem dn_Model_anyNow : Dn y_Model_anyNow 0 := ⟨by decide +kernel, by decide +kernel, by decide +kernel⟩
theorem dn_Model_areOnes : Dn y_Model_areOnes 1 := ⟨by decide +kernel, by decide +kernel, by decide +kernel⟩
theorem dn_Model_areTwo : Dn y_Model_areTwo 2 := ⟨by decide +kernel, by decide +kernel, by decide +kernel⟩
theorem dn_Model_asks : Dn y_Model_asks 4 := ⟨by decide +kernel, by decide +kernel, by decide +kernel⟩
theorem dn_Model_becomes : Dn y_Model_becomes 1 := ⟨by decide +kernel, by decide +kernel, by decide +kernel⟩
theorem dn_Model_begins : Dn y_Model_begins 1 := ⟨by decide +kernel, by decide +kernel, by decide +kernel⟩
theorem dn_Model_bitsOf : Dn y_Model_bitsOf 1 := ⟨by decide +kernel, by decide +kernel, by decide +kernel⟩
theorem dn_Model_copies : Dn y_Model_copies 2 := ⟨by decide +kernel, by decide +kernel, by decide +kernel⟩
theorem dn_Model_drops : Dn y_Model_drops 1 := ⟨by decide +kernel, by decide +kernel, by decide +kernel⟩
theorem dn_Model_feasts : Dn y_Model_feasts 2 := ⟨by decide +kernel, by decide +kernel, by decide +kernel⟩
theorem dn_Model_fewestHands : Dn y_Model_fewestHands 0 := ⟨by decide +kernel, by decide +kernel, by decide +kernel⟩
theorem dn_Model_firstDraft : Dn y_Model_firstDraft 0 := ⟨by decide +kernel, by decide +kernel, by decide +kernel⟩
theorem dn_Model_flag : Dn y_Model_flag 1 := ⟨by decide +kernel, by decide +kernel, by decide +kernel⟩
theorem dn_Model_freeFrom : Dn y_Model_freeFrom 1 := ⟨by decide +kernel, by decide +kernel, by decide +kernel⟩
theorem dn_Model_goesRound : Dn y_Model_goesRound 2 := ⟨by decide +kernel, by decide +kernel, by decide +kernel⟩
theorem dn_Model_in : Dn y_Model_in 3 := ⟨by decide +kernel, by decide +kernel, by decide +kernel⟩
theorem dn_Model_is : Dn y_Model_is 5 := ⟨by decide +kernel, by decide +kernel, by decide +kernel⟩
theorem dn_Model_isAs : Dn y_Model_isAs 2 := ⟨by decide +kernel, by decide +kernel, by decide +kernel⟩
theorem dn_Model_isFreePair : Dn y_Model_isFreePair 1 := ⟨by decide +kernel, by decide +kernel, by decide +kernel⟩
theorem dn_Model_isGood : Dn y_Model_isGood 1 := ⟨by decide +kernel, by decide +kernel, by decide +kernel⟩
theorem dn_Model_isHeld : Dn y_Model_isHeld 0 := ⟨by decide +kernel, by decide +kernel, by decide +kernel⟩
theorem dn_Model_isOne : Dn y_Model_isOne 1 := ⟨by decide +kernel, by decide +kernel, by decide +kernel⟩
theorem dn_Model_isRound : Dn y_Model_isRound 1 := ⟨by decide +kernel, by decide +kernel, by decide +kernel⟩
theorem dn_Model_isSeen : Dn y_Model_isSeen 1 := ⟨by decide +kernel, by decide +kernel, by decide +kernel⟩
theorem dn_Model_isSheet : Dn y_Model_isSheet 2 := ⟨by decide +kernel, by decide +kernel, by decide +kernel⟩
theorem dn_Model_isStill : Dn y_Model_isStill 1 := ⟨by decide +kernel, by decide +kernel, by decide +kernel⟩
theorem dn_Model_isThing : Dn y_Model_isThing 1 := ⟨by decide +kernel, by decide +kernel, by decide +kernel⟩
theorem dn_Model_keepDraft : Dn y_Model_keepDraft 0 := ⟨by decide +kernel, by decide +kernel, by decide +kernel⟩
theorem dn_Model_knowsIn : Dn y_Model_knowsIn 2 := ⟨by decide +kernel, by decide +kernel, by decide +kernel⟩
theorem dn_Model_knowsIt : Dn y_Model_knowsIt 2 := ⟨by decide +kernel, by decide +kernel, by decide +kernel⟩
theorem dn_Model_knowsNow : Dn y_Model_knowsNow 1 := ⟨by decide +kernel, by decide +kernel, by decide +kernel⟩
theorem dn_Model_layRounds : Dn y_Model_layRounds 0 := ⟨by decide +kernel, by decide +kernel, by decide +kernel⟩
theorem dn_Model_layRows : Dn y_Model_layRows 2 := ⟨by decide +kernel, by decide +kernel, by decide +kernel⟩
theorem dn_Model_look : Dn y_Model_look 1 := ⟨by decide +kernel, by decide +kernel, by decide +kernel⟩
theorem dn_Model_looked : Dn y_Model_looked 2 := ⟨by decide +kernel, by decide +kernel, by decide +kernel⟩
theorem dn_Model_nameNow : Dn y_Model_nameNow 0 := ⟨by decide +kernel, by decide +kernel, by decide +kernel⟩
theorem dn_Model_needs : Dn y_Model_needs 2 := ⟨by decide +kernel, by decide +kernel, by decide +kernel⟩
theorem dn_Model_next : Dn y_Model_next 0 := ⟨by decide +kernel, by decide +kernel, by decide +kernel⟩
theorem dn_Model_notes : Dn y_Model_notes 1 := ⟨by decide +kernel, by decide +kernel, by decide +kernel⟩
theorem dn_Model_pairOf : Dn y_Model_pairOf 2 := ⟨by decide +kernel, by decide +kernel, by decide +kernel⟩
theorem dn_Model_place : Dn y_Model_place 1 := ⟨by decide +kernel, by decide +kernel, by decide +kernel⟩
theorem dn_Model_puts : Dn y_Model_puts 2 := ⟨by decide +kernel, by decide +kernel, by decide +kernel⟩
theorem dn_Model_readGlove : Dn y_Model_readGlove 0 := ⟨by decide +kernel, by decide +kernel, by decide +kernel⟩
theorem dn_Model_readHand : Dn y_Model_readHand 0 := ⟨by decide +kernel, by decide +kernel, by decide +kernel⟩
theorem dn_Model_readJoin : Dn y_Model_readJoin 0 := ⟨by decide +kernel, by decide +kernel, by decide +kernel⟩
theorem dn_Model_readKnows : Dn y_Model_readKnows 0 := ⟨by decide +kernel, by decide +kernel, by decide +kernel⟩
theorem dn_Model_readLine : Dn y_Model_readLine 0 := ⟨by decide +kernel, by decide +kernel, by decide +kernel⟩
theorem dn_Model_readNumber : Dn y_Model_readNumber 2 := ⟨by decide +kernel, by decide +kernel, by decide +kernel⟩
theorem dn_Model_seen : Dn y_Model_seen 0 := ⟨by decide +kernel, by decide +kernel, by decide +kernel⟩
theorem dn_Model_settles : Dn y_Model_settles 0 := ⟨by decide +kernel, by decide +kernel, by decide +kernel⟩
theorem dn_Model_shakes : Dn y_Model_shakes 3 := ⟨by decide +kernel, by decide +kernel, by decide +kernel⟩
theorem dn_Model_shakesNow : Dn y_Model_shakesNow 1 := ⟨by decide +kernel, by decide +kernel, by decide +kernel⟩
theorem dn_Model_sits : Dn y_Model_sits 1 := ⟨by decide +kernel, by decide +kernel, by decide +kernel⟩
theorem dn_Model_takes : Dn y_Model_takes 2 := ⟨by decide +kernel, by decide +kernel, by decide +kernel⟩
theorem dn_Model_tells : Dn y_Model_tells 1 := ⟨by decide +kernel, by decide +kernel, by decide +kernel⟩
theorem dn_Model_whoIn : Dn y_Model_whoIn 2 := ⟨by decide +kernel, by decide +kernel, by decide +kernel⟩
theorem dn_Model_whoNow : Dn y_Model_whoNow 1 := ⟨by decide +kernel, by decide +kernel, by decide +kernel⟩
theorem dn_Model_worn : Dn y_Model_worn 0 := ⟨by decide +kernel, by decide +kernel, by decide +kernel⟩
theorem dn_Row_add : Dn y_Row_add 1 := ⟨by decide +kernel, by decide +kernel, by decide +kernel⟩
theorem dn_Row_addAll : Dn y_Row_addAll 1 := ⟨by decide +kernel, by decide +kernel, by decide +kernel⟩
theorem dn_Row_atRest : Dn y_Row_atRest 0 := ⟨by decide +kernel, by decide +kernel, by decide +kernel⟩
theorem dn_Row_drop : Dn y_Row_drop 1 := ⟨by decide +kernel, by decide +kernel, by decide +kernel⟩
theorem dn_Row_knownOf : Dn y_Row_knownOf 1 := ⟨by decide +kernel, by decide +kernel, by decide +kernel⟩
theorem dn_Row_knowsIt : Dn y_Row_knowsIt 2 := ⟨by decide +kernel, by decide +kernel, by decide +kernel⟩
theorem dn_Row_shorten : Dn y_Row_shorten 1 := ⟨by decide +kernel, by decide +kernel, by decide +kernel⟩
theorem dn_Row_sizeOf : Dn y_Row_sizeOf 1 := ⟨by decide +kernel, by decide +kernel, by decide +kernel⟩
theorem dn_Row_take : Dn y_Row_take 1 := ⟨by decide +kernel, by decide +kernel, by decide +kernel⟩
theorem dn_Row_thingOf : Dn y_Row_thingOf 2 := ⟨by decide +kernel, by decide +kernel, by decide +kernel⟩
theorem dn_Search_aim : Dn y_Search_aim 4 := ⟨by decide +kernel, by decide +kernel, by decide +kernel⟩
theorem dn_Search_amiss : Dn y_Search_amiss 1 := ⟨by decide +kernel, by decide +kernel, by decide +kernel⟩
theorem dn_Search_begin : Dn y_Search_begin 0 := ⟨by decide +kernel, by decide +kernel, by decide +kernel⟩
theorem dn_Search_bitsOf : Dn y_Search_bitsOf 1 := ⟨by decide +kernel, by decide +kernel, by decide +kernel⟩
theorem dn_Search_canMend : Dn y_Search_canMend 3 := ⟨by decide +kernel, by decide +kernel, by decide +kernel⟩
theorem dn_Search_countFits : Dn y_Search_countFits 1 := ⟨by decide +kernel, by decide +kernel, by decide +kernel⟩
theorem dn_Search_countSeats : Dn y_Search_countSeats 0 := ⟨by decide +kernel, by decide +kernel, by decide +kernel⟩
theorem dn_Search_fewestHands : Dn y_Search_fewestHands 0 := ⟨by decide +kernel, by decide +kernel, by decide +kernel⟩
theorem dn_Search_fewestRounds : Dn y_Search_fewestRounds 0 := ⟨by decide +kernel, by decide +kernel, by decide +kernel⟩
theorem dn_Search_fit : Dn y_Search_fit 4 := ⟨by decide +kernel, by decide +kernel, by decide +kernel⟩
theorem dn_Search_isBarred : Dn y_Search_isBarred 1 := ⟨by decide +kernel, by decide +kernel, by decide +kernel⟩
theorem dn_Search_reaches : Dn y_Search_reaches 3 := ⟨by decide +kernel, by decide +kernel, by decide +kernel⟩
theorem dn_Search_sit : Dn y_Search_sit 3 := ⟨by decide +kernel, by decide +kernel, by decide +kernel⟩
theorem dn_Search_step : Dn y_Search_step 2 := ⟨by decide +kernel, by decide +kernel, by decide +kernel⟩
theorem dn_Search_turns : Dn y_Search_turns 5 := ⟨by decide +kernel, by decide +kernel, by decide +kernel⟩
theorem dn_Search_unlikeSeen : Dn y_Search_unlikeSeen 1 := ⟨by decide +kernel, by decide +kernel, by decide +kernel⟩
theorem dn_ShakeHands_arePeople : Dn y_ShakeHands_arePeople 1 := ⟨by decide +kernel, by decide +kernel, by decide +kernel⟩
theorem dn_ShakeHands_areTwo : Dn y_ShakeHands_areTwo 2 := ⟨by decide +kernel, by decide +kernel, by decide +kernel⟩
theorem dn_ShakeHands_everybody : Dn y_ShakeHands_everybody 0 := ⟨by decide +kernel, by decide +kernel, by decide +kernel⟩
theorem dn_ShakeHands_fewestGloves : Dn y_ShakeHands_fewestGloves 2 := ⟨by decide +kernel, by decide +kernel, by decide +kernel⟩
theorem dn_ShakeHands_isFeastPart : Dn y_ShakeHands_isFeastPart 1 := ⟨by decide +kernel, by decide +kernel, by decide +kernel⟩
theorem dn_ShakeHands_isImage : Dn y_ShakeHands_isImage 1 := ⟨by decide +kernel, by decide +kernel, by decide +kernel⟩
theorem dn_ShakeHands_isLane : Dn y_ShakeHands_isLane 1 := ⟨by decide +kernel, by decide +kernel, by decide +kernel⟩
theorem dn_ShakeHands_isOne : Dn y_ShakeHands_isOne 1 := ⟨by decide +kernel, by decide +kernel, by decide +kernel⟩
theorem dn_ShakeHands_isSheet : Dn y_ShakeHands_isSheet 1 := ⟨by decide +kernel, by decide +kernel, by decide +kernel⟩
theorem dn_ShakeHands_isThing : Dn y_ShakeHands_isThing 1 := ⟨by decide +kernel, by decide +kernel, by decide +kernel⟩
theorem dn_ShakeHands_knownToAll : Dn y_ShakeHands_knownToAll 0 := ⟨by decide +kernel, by decide +kernel, by decide +kernel⟩
theorem dn_ShakeHands_knowsNow : Dn y_ShakeHands_knowsNow 2 := ⟨by decide +kernel, by decide +kernel, by decide +kernel⟩
theorem dn_ShakeHands_pairOf : Dn y_ShakeHands_pairOf 2 := ⟨by decide +kernel, by decide +kernel, by decide +kernel⟩
theorem dn_ShakeHands_takeTrial : Dn y_ShakeHands_takeTrial 0 := ⟨by decide +kernel, by decide +kernel, by decide +kernel⟩
theorem dn_Sheet_cellAt : Dn y_Sheet_cellAt 1 := ⟨by decide +kernel, by decide +kernel, by decide +kernel⟩
theorem dn_Sheet_faultAt : Dn y_Sheet_faultAt 1 := ⟨by decide +kernel, by decide +kernel, by decide +kernel⟩
theorem dn_Sheet_faultOfTwo : Dn y_Sheet_faultOfTwo 2 := ⟨by decide +kernel, by decide +kernel, by decide +kernel⟩
theorem dn_Sheet_put : Dn y_Sheet_put 2 := ⟨by decide +kernel, by decide +kernel, by decide +kernel⟩
theorem dn_Sheet_renew : Dn y_Sheet_renew 2 := ⟨by decide +kernel, by decide +kernel, by decide +kernel⟩
theorem dn_String_charAt : Dn y_String_charAt 1 := ⟨by decide +kernel, by decide +kernel, by decide +kernel⟩
theorem dn_String_length : Dn y_String_length 0 := ⟨by decide +kernel, by decide +kernel, by decide +kernel⟩
theorem dn_Tape_append : Dn y_Tape_append 1 := ⟨by decide +kernel, by decide +kernel, by decide +kernel⟩
theorem dn_Teller_begin : Dn y_Teller_begin 0 := ⟨by decide +kernel, by decide +kernel, by decide +kernel⟩
theorem dn_Teller_boundedValue : Dn y_Teller_boundedValue 2 := ⟨by decide +kernel, by decide +kernel, by decide +kernel⟩
theorem dn_Teller_isCalled : Dn y_Teller_isCalled 1 := ⟨by decide +kernel, by decide +kernel, by decide +kernel⟩
theorem dn_Teller_isWithin : Dn y_Teller_isWithin 2 := ⟨by decide +kernel, by decide +kernel, by decide +kernel⟩
theorem dn_Teller_lookBack : Dn y_Teller_lookBack 0 := ⟨by decide +kernel, by decide +kernel, by decide +kernel⟩
theorem dn_Teller_readToken : Dn y_Teller_readToken 0 := ⟨by decide +kernel, by decide +kernel, by decide +kernel⟩
theorem dn_Teller_refuse : Dn y_Teller_refuse 1 := ⟨by decide +kernel, by decide +kernel, by decide +kernel⟩
theorem dn_Teller_takeNumber : Dn y_Teller_takeNumber 2 := ⟨by decide +kernel, by decide +kernel, by decide +kernel⟩
theorem dn_Teller_takeSign : Dn y_Teller_takeSign 0 := ⟨by decide +kernel, by decide +kernel, by decide +kernel⟩
theorem dn_Teller_tell : Dn y_Teller_tell 0 := ⟨by decide +kernel, by decide +kernel, by decide +kernel⟩
theorem dn_Teller_tellGlove : Dn y_Teller_tellGlove 0 := ⟨by decide +kernel, by decide +kernel, by decide +kernel⟩
theorem dn_Teller_tellHold : Dn y_Teller_tellHold 0 := ⟨by decide +kernel, by decide +kernel, by decide +kernel⟩
theorem dn_Teller_tellJoin : Dn y_Teller_tellJoin 0 := ⟨by decide +kernel, by decide +kernel, by decide +kernel⟩
theorem dn_Teller_tellLine : Dn y_Teller_tellLine 0 := ⟨by decide +kernel, by decide +kernel, by decide +kernel⟩
theorem dn_Teller_tellPair : Dn y_Teller_tellPair 2 := ⟨by decide +kernel, by decide +kernel, by decide +kernel⟩
theorem dn_Teller_tellPeople : Dn y_Teller_tellPeople 0 := ⟨by decide +kernel, by decide +kernel, by decide +kernel⟩
theorem dn_Teller_tellRow : Dn y_Teller_tellRow 0 := ⟨by decide +kernel, by decide +kernel, by decide +kernel⟩
theorem dn_Teller_tellThing : Dn y_Teller_tellThing 1 := ⟨by decide +kernel, by decide +kernel, by decide +kernel⟩
theorem in_nat {i : Int32} {n : Nat} (h : vp_in i n) : i.toNatClampNeg < n := Nat.not_le.mp fun q => h (Or.inr q)
theorem sh_images {i : Int32} (h : vp_in i 2) : SHx[([20, 23] : List Nat).getD i.toNatClampNeg 0]? = some (2, [([20, 23] : List Nat).getD i.toNatClampNeg 0 + 1 + 2, 0, 0, ([20, 23] : List Nat).getD i.toNatClampNeg 0 + 2 + 2]) ∧ SHx[([20, 23] : List Nat).getD i.toNatClampNeg 0 + 1]? = some (103, [6]) ∧ SHx[([20, 23] : List Nat).getD i.toNatClampNeg 0 + 2]? = some (100, [6]) := by
  have h := in_nat h
  generalize i.toNatClampNeg = j at h ⊢
  match j, h with
  | 0, _ => exact ⟨rfl, rfl, rfl⟩
  | 1, _ => exact ⟨rfl, rfl, rfl⟩
theorem sh_sheets {i : Int32} (h : vp_in i 4) : SHx[([41, 43, 45, 47] : List Nat).getD i.toNatClampNeg 0]? = some (5, [0, 0, 0, ([41, 43, 45, 47] : List Nat).getD i.toNatClampNeg 0 + 1 + 2]) ∧ SHx[([41, 43, 45, 47] : List Nat).getD i.toNatClampNeg 0 + 1]? = some (100, [40]) := by
  have h := in_nat h
  generalize i.toNatClampNeg = j at h ⊢
  match j, h with
  | 0, _ => exact ⟨rfl, rfl⟩
  | 1, _ => exact ⟨rfl, rfl⟩
  | 2, _ => exact ⟨rfl, rfl⟩
  | 3, _ => exact ⟨rfl, rfl⟩
theorem sh_level {i : Int32} (h : vp_in i 7) : SHx[([30, 31, 32, 33, 34, 35, 36] : List Nat).getD i.toNatClampNeg 0]? = some (103, [6]) := by
  have h := in_nat h
  generalize i.toNatClampNeg = j at h ⊢
  match j, h with
  | 0, _ => exact rfl
  | 1, _ => exact rfl
  | 2, _ => exact rfl
  | 3, _ => exact rfl
  | 4, _ => exact rfl
  | 5, _ => exact rfl
  | 6, _ => exact rfl
theorem sw_ne {x v : Int32} (h : ¬ x = v) : ¬ x.toInt = v.toInt := fun e => h (Int32.toInt_inj.mp e)
theorem sw_out5 {x : Int32} (h0 : ¬ x = 0) (h1 : ¬ x = 1) (h2 : ¬ x = 2) (h3 : ¬ x = 3) (h4 : ¬ x = 4) (h5 : ¬ x = 5) : x.toInt < 0 ∨ 5 < x.toInt := by
  have e0 : ¬ x.toInt = 0 := sw_ne h0
  have e1 : ¬ x.toInt = 1 := sw_ne h1
  have e2 : ¬ x.toInt = 2 := sw_ne h2
  have e3 : ¬ x.toInt = 3 := sw_ne h3
  have e4 : ¬ x.toInt = 4 := sw_ne h4
  have e5 : ¬ x.toInt = 5 := sw_ne h5
  omega
theorem sw_out6 {x : Int32} (h0 : ¬ x = 0) (h1 : ¬ x = 1) (h2 : ¬ x = 2) (h3 : ¬ x = 3) (h4 : ¬ x = 4) (h5 : ¬ x = 5) (h6 : ¬ x = 6) : x.toInt < 0 ∨ 6 < x.toInt := by
  have e0 : ¬ x.toInt = 0 := sw_ne h0
  have e1 : ¬ x.toInt = 1 := sw_ne h1
  have e2 : ¬ x.toInt = 2 := sw_ne h2
  have e3 : ¬ x.toInt = 3 := sw_ne h3
  have e4 : ¬ x.toInt = 4 := sw_ne h4
  have e5 : ¬ x.toInt = 5 := sw_ne h5
  have e6 : ¬ x.toInt = 6 := sw_ne h6
  omega
def zr (x : Int32) (M : Mem) : Option (Int32 × Mem) := if x = 0 ∨ x = 1 then some (x, M) else none
theorem j_zr {mt : Mt} {pc : Nat} {lv : List (Nat × Value)} {M : Mem} {x : Int32} (hd : decode mt.2.1 pc = .ok (.ireturn, 1)) (hrt : mt.2.2.2.1 = some .boolean) : J mt wI pc lv [.int x] M (zr x M) := by
  unfold zr
  by_cases h : x = 0 ∨ x = 1
  · rw [if_pos h]
    refine j_zreturn hd hrt ?_
    rcases h with rfl | rfl <;> rfl
  · rw [if_neg h]; exact j_none
theorem j_split {R : Type} {mt : Mt} {wr : R → Option Value} {pc : Nat} {lv : List (Nat × Value)} {st : List Value} {M : Mem} {F G : Option (R × Mem)} {c : Prop} [Decidable c] (K : c → J mt wr pc lv st M F) (L : ¬ c → J mt wr pc lv st M G) : J mt wr pc lv st M (if c then F else G) := by
  by_cases h : c
  · rw [if_pos h]; exact K h
  · rw [if_neg h]; exact L h
theorem j_nmk {R σ : Type} {mt : Mt} {wr : R → Option Value} {pc : Nat} {lv : List (Nat × Value)} {st : List Value} {M : Mem} {e : σ} {f : σ → Option (R × Mem)} (P : σ → Prop) (he : P e) (K : ∀ k : σ, P k → J mt wr pc lv st M (f k)) : J mt wr pc lv st M (nm e f) := K e he
end
section
/-! STRINGS: the constants that isCalled is asked of (ids 210.., their bytes 220..) -/
theorem j_ldcS {R : Type} {mt : Mt} {wr : R → Option Value} {pc : Nat} {lv : List (Nat × Value)} {st : List Value} {M : Mem} {F : Option (R × Mem)} {own : String} {i k : Nat} {tx : String} (hd : decode mt.2.1 pc = .ok (.ldc i, 2)) (ho : mt.1 = "ShakeHands$Teller") (hk : stTxt[k]? = some (i, tx)) (K : J mt wr (pc + 2) lv (.ref (210 + k) :: st) M F) : J mt wr pc lv st M F := by
  intro r M' hF p l e s m args below meth c D ad dA A mc ms hp H locs ls hP hD hS hl
  obtain ⟨hx, hb, hr, hml, hown, hts, hlk, hC⟩ := id hp
  rw [ho] at hown
  exact va_ldcS hx hb hown (hC.2.2.2.2.2.2.1 k (i, tx) hk) hd (K r M' hF p l e s m args below meth c D ad dA A mc ms hp H locs ls hP hD hS hl)
theorem sw_value : Cond.fieldLink "java/lang/String" 9 "java/lang/String" "value" "[B" ∈ tbl := tbl_in 1458 (by decide +kernel) rfl
theorem sw_coder : Cond.fieldLink "java/lang/String" 15 "java/lang/String" "coder" "B" ∈ tbl := tbl_in 1459 (by decide +kernel) rfl
theorem sw_compact : Cond.fieldLink "java/lang/String" 38 "java/lang/String" "COMPACT_STRINGS" "Z" ∈ tbl := tbl_in 386 (by decide +kernel) rfl
theorem sw_form : Cond.fieldLink "java/lang/String" 1053 "jdk/internal/util/Preconditions" "SIOOBE_FORMATTER" "Ljava/util/function/BiFunction;" ∈ tbl := tbl_in 402 (by decide +kernel) rfl
theorem j_strValue {R : Type} {mt : Mt} {wr : R → Option Value} {pc : Nat} {lv : List (Nat × Value)} {st : List Value} {M : Mem} {F : Option (R × Mem)} {k : Nat} (hd : decode mt.2.1 pc = .ok (.getfield 9, 3)) (ho : mt.1 = "java/lang/String") (hk : k < 7) (K : J mt wr (pc + 3) lv (.ref (220 + k) :: st) M F) : J mt wr pc lv (.ref (210 + k) :: st) M F := by
  intro r M' hF p l e s m args below meth c D ad dA A mc ms hp H locs ls hP hD hS hl
  obtain ⟨hx, hb, hr, hml, hown, hts, hlk, hC⟩ := id hp
  rw [ho] at hown
  exact vk_getf hx hb (hC.2.2.2.2.2.1.1 k hk).2.2.1 hS hown (hts _ sw_value) (fun x h => h) hd (K r M' hF p l e s m args below meth c D ad dA A mc ms hp H locs ls hP hD hS hl)
theorem j_strCoder {R : Type} {mt : Mt} {wr : R → Option Value} {pc : Nat} {lv : List (Nat × Value)} {st : List Value} {M : Mem} {F : Option (R × Mem)} {k : Nat} (hd : decode mt.2.1 pc = .ok (.getfield 15, 3)) (ho : mt.1 = "java/lang/String") (hk : k < 7) (K : J mt wr (pc + 3) lv (.int 0 :: st) M F) : J mt wr pc lv (.ref (210 + k) :: st) M F := by
  intro r M' hF p l e s m args below meth c D ad dA A mc ms hp H locs ls hP hD hS hl
  obtain ⟨hx, hb, hr, hml, hown, hts, hlk, hC⟩ := id hp
  rw [ho] at hown
  exact vk_getf hx hb (hC.2.2.2.2.2.1.1 k hk).2.1 hS hown (hts _ sw_coder) (fun x h => h) hd (K r M' hF p l e s m args below meth c D ad dA A mc ms hp H locs ls hP hD hS hl)
theorem j_compact {R : Type} {mt : Mt} {wr : R → Option Value} {pc : Nat} {lv : List (Nat × Value)} {st : List Value} {M : Mem} {F : Option (R × Mem)} (hd : decode mt.2.1 pc = .ok (.getstatic 38, 3)) (ho : mt.1 = "java/lang/String") (K : J mt wr (pc + 3) lv (.int 1 :: st) M F) : J mt wr pc lv st M F := by
  intro r M' hF p l e s m args below meth c D ad dA A mc ms hp H locs ls hP hD hS hl
  obtain ⟨hx, hb, hr, hml, hown, hts, hlk, hC⟩ := id hp
  rw [ho] at hown
  exact va_gets hx hb hC.2.2.2.2.2.2.2.1 hS hown (hts _ sw_compact) (fun x h => h) hd (K r M' hF p l e s m args below meth c D ad dA A mc ms hp H locs ls hP hD hS hl)
theorem j_form {R : Type} {mt : Mt} {wr : R → Option Value} {pc : Nat} {lv : List (Nat × Value)} {st : List Value} {M : Mem} {F : Option (R × Mem)} (hd : decode mt.2.1 pc = .ok (.getstatic 1053, 3)) (ho : mt.1 = "java/lang/String") (K1 : J mt wr (pc + 3) lv (.null :: st) M F) (K2 : J mt wr (pc + 3) lv (.ref 230 :: st) M F) : J mt wr pc lv st M F := by
  intro r M' hF p l e s m args below meth c D ad dA A mc ms hp H locs ls hP hD hS hl
  obtain ⟨hx, hb, hr, hml, hown, hts, hlk, hC⟩ := id hp
  rw [ho] at hown
  rcases hC.2.2.2.2.2.2.2.2.1 with h | h
  · exact va_gets hx hb h hS hown (hts _ sw_form) (fun x h => h) hd (K1 r M' hF p l e s m args below meth c D ad dA A mc ms hp H locs ls hP hD hS hl)
  · exact va_gets hx hb h hS hown (hts _ sw_form) (fun x h => h) hd (K2 r M' hF p l e s m args below meth c D ad dA A mc ms hp H locs ls hP hD hS hl)
theorem j_strLen {R : Type} {mt : Mt} {wr : R → Option Value} {pc : Nat} {lv : List (Nat × Value)} {st : List Value} {M : Mem} {F : Option (R × Mem)} {k : Nat} (hd : decode mt.2.1 pc = .ok (.arraylength, 1)) (hk : k < 7) (K : J mt wr (pc + 1) lv (.int (nI (stLen.getD k 0)) :: st) M F) : J mt wr pc lv (.ref (220 + k) :: st) M F := by
  intro r M' hF p l e s m args below meth c D ad dA A mc ms hp H locs ls hP hD hS hl
  obtain ⟨hx, hb, hr, hml, hown, hts, hlk, hC⟩ := id hp
  exact va_tlen hx hb (hC.2.2.2.2.2.1.1 k hk).2.2.2 hS rfl hd (K r M' hF p l e s m args below meth c D ad dA A mc ms hp H locs ls hP hD hS hl)
theorem j_strByte {R : Type} {mt : Mt} {wr : R → Option Value} {pc : Nat} {lv : List (Nat × Value)} {st : List Value} {M : Mem} {F : Option (R × Mem)} {k : Nat} {i : Int32} (hd : decode mt.2.1 pc = .ok (.baload, 1)) (hk : k < 7) (hin : vp_in i (stLen.getD k 0)) (K : J mt wr (pc + 1) lv (.int ((stByt.getD k []).getD i.toNatClampNeg 0) :: st) M F) : J mt wr pc lv (.int i :: .ref (220 + k) :: st) M F := by
  intro r M' hF p l e s m args below meth c D ad dA A mc ms hp H locs ls hP hD hS hl
  obtain ⟨hx, hb, hr, hml, hown, hts, hlk, hC⟩ := id hp
  exact va_tb hx hb (hC.2.2.2.2.2.1.1 k hk).2.2.2 hS hin rfl hd (K r M' hF p l e s m args below meth c D ad dA A mc ms hp H locs ls hP hD hS hl)
theorem j_callVS {R : Type} {mt : Mt} {wr : R → Option Value} {pc : Nat} {lv : List (Nat × Value)} {st : List Value} {M : Mem} {R2 : Type} {wr2 : R2 → Option Value} {mt2 : Mt} {F2 : Option (R2 × Mem)} {k : R2 → Mem → Option (R × Mem)} {y : MethodName} {idx n : Nat} {as : List Value} {q : Nat} (hd : decode mt.2.1 pc = .ok (.invokevirtual idx, 3)) (hct : Ct y mt2 wr2 (.ref (210 + q) :: as) M F2) (hw : CV mt.1 idx y) (hcd : Cond.code y mt2.2.1 mt2.2.2.1 mt2.2.2.2.1 ∈ tbl) (hdn : Dn y n) (hn : as.length = n) (hsh : mt2.2.2.2.2.2 = mt.2.2.2.2.2) (hdp : mt2.2.2.2.2.1 + 1 ≤ mt.2.2.2.2.1) (hmx : mt2.2.2.1 ≤ 40) (hst : (st.map fun v => v.category).sum ≤ 8) (hnr : nr wr2) (hq : q < 7) (hcl : y.cls = "java/lang/String") (K : ∀ (r : R2) (N : Mem), J mt wr (pc + 3) lv ((wr2 r).toList ++ st) N (k r N)) : J mt wr pc lv (as.reverse ++ .ref (210 + q) :: st) M (bd F2 k) := by
  intro r M' hF p l e s m args below meth c D ad dA A mc ms hp H locs ls hP hD hS hl
  obtain ⟨hx, hb, hr, hml, hown, hts, hlk, hC⟩ := id hp
  obtain ⟨r1, M1, hF1, hF⟩ := bd_some hF
  have hM := hct r1 M1 hF1 l D ad dA A
  have hR : (rmd mt2.2.2.2.2.1).frames + 1 ≤ (rmc mt.2.2.2.2.1 mc ms).frames ∧ 8 + (mt2.2.2.1 + 11) + (rmd mt2.2.2.2.2.1).locals ≤ (rmc mt.2.2.2.2.1 mc ms).locals := by
    refine ⟨hdp, ?_⟩
    show 8 + (mt2.2.2.1 + 11) + 64 * mt2.2.2.2.2.1 ≤ 64 * mt.2.2.2.2.1
    omega
  refine wr_call (wv := wr2 r1) (rest := st.map (rv ad)) (va_runV (As := as.map (rv ad)) (b := ad (210 + q)) (C := y.cls) (Ts := tbl) ⟨hx, hb, hml, hown, hts⟩ hM ⟨callB_of n hts (good_cons hcd) rfl rfl rfl (hts _ hw.2.2.2) (hts _ hw.1) hdn hR, hts _ hw.2.1, hts _ hw.2.2.1⟩ ⟨ct_blind, by rw [hcl]; exact vk_recv (i := q) hC.2.2.2.2.2.1 hq hS, fun U hU hW => ⟨rfl, by rw [hU, hsh]; exact ⟨hP, hD⟩, by rw [hU]; exact hC.next hS hW⟩⟩ rfl (by rw [List.length_map]; exact hn) hl.1 ?_ (lv_room (by rw [rv_cats]; exact hst)) hd ⟨Nat.le_refl _, Nat.le_refl _⟩) hS (fun t H1 locs1 ht hpost hS1 => ?_)
  · show (as.reverse ++ .ref (210 + q) :: st).map (rv ad) = (as.map (rv ad)).reverse ++ .ref (ad (210 + q)) :: st.map (rv ad)
    rw [List.map_append, List.map_reverse]
    rfl
  obtain ⟨hP1, hD1⟩ := hpost
  rw [ht] at hP1
  rw [hsh] at hP1 hD1
  have hk := K r1 M1 r M' hF p l e s m args below meth c D ad dA A mc ms hp H1 locs1 ls hP1 hD1 hS1 hl
  rw [List.map_append, hnr] at hk
  exact hk
theorem j_callVS0 {R : Type} {mt : Mt} {wr : R → Option Value} {pc : Nat} {lv : List (Nat × Value)} {st : List Value} {M : Mem} {R2 : Type} {wr2 : R2 → Option Value} {mt2 : Mt} {F2 : Option (R2 × Mem)} {k : R2 → Mem → Option (R × Mem)} {y : MethodName} {idx : Nat} {q : Nat} (hd : decode mt.2.1 pc = .ok (.invokevirtual idx, 3)) (hct : Ct y mt2 wr2 (.ref (210 + q) :: []) M F2) (hw : CV mt.1 idx y) (hcd : Cond.code y mt2.2.1 mt2.2.2.1 mt2.2.2.2.1 ∈ tbl) (hdn : Dn y 0) (hsh : mt2.2.2.2.2.2 = mt.2.2.2.2.2) (hdp : mt2.2.2.2.2.1 + 1 ≤ mt.2.2.2.2.1) (hmx : mt2.2.2.1 ≤ 40) (hst : (st.map fun v => v.category).sum ≤ 8) (hnr : nr wr2) (hq : q < 7) (hcl : y.cls = "java/lang/String") (K : ∀ (r : R2) (N : Mem), J mt wr (pc + 3) lv ((wr2 r).toList ++ st) N (k r N)) : J mt wr pc lv (.ref (210 + q) :: st) M (bd F2 k) := j_callVS (as := []) hd hct hw hcd hdn rfl hsh hdp hmx hst hnr hq hcl K
theorem j_callVS1 {R : Type} {mt : Mt} {wr : R → Option Value} {pc : Nat} {lv : List (Nat × Value)} {st : List Value} {M : Mem} {R2 : Type} {wr2 : R2 → Option Value} {mt2 : Mt} {F2 : Option (R2 × Mem)} {k : R2 → Mem → Option (R × Mem)} {y : MethodName} {idx : Nat} {v0 : Value} {q : Nat} (hd : decode mt.2.1 pc = .ok (.invokevirtual idx, 3)) (hct : Ct y mt2 wr2 (.ref (210 + q) :: [v0]) M F2) (hw : CV mt.1 idx y) (hcd : Cond.code y mt2.2.1 mt2.2.2.1 mt2.2.2.2.1 ∈ tbl) (hdn : Dn y 1) (hsh : mt2.2.2.2.2.2 = mt.2.2.2.2.2) (hdp : mt2.2.2.2.2.1 + 1 ≤ mt.2.2.2.2.1) (hmx : mt2.2.2.1 ≤ 40) (hst : (st.map fun v => v.category).sum ≤ 8) (hnr : nr wr2) (hq : q < 7) (hcl : y.cls = "java/lang/String") (K : ∀ (r : R2) (N : Mem), J mt wr (pc + 3) lv ((wr2 r).toList ++ st) N (k r N)) : J mt wr pc lv (v0 :: .ref (210 + q) :: st) M (bd F2 k) := j_callVS (as := [v0]) hd hct hw hcd hdn rfl hsh hdp hmx hst hnr hq hcl K
def mt_String_coder : Mt := ("java/lang/String", b_String_coder, 1, some .byte, 2, SHx)
theorem d_String_coder_0 : decode b_String_coder 0 = .ok (.getstatic 38, 3) := by decide +kernel
theorem d_String_coder_3 : decode b_String_coder 3 = .ok (.ifCond .eq 10, 3) := by decide +kernel
theorem d_String_coder_6 : decode b_String_coder 6 = .ok (.aload_n 0, 1) := by decide +kernel
theorem d_String_coder_7 : decode b_String_coder 7 = .ok (.getfield 15, 3) := by decide +kernel
theorem d_String_coder_10 : decode b_String_coder 10 = .ok (.goto 4, 3) := by decide +kernel
theorem d_String_coder_13 : decode b_String_coder 13 = .ok (.iconst 1, 1) := by decide +kernel
theorem d_String_coder_14 : decode b_String_coder 14 = .ok (.ireturn, 1) := by decide +kernel
def mt_String_length : Mt := ("java/lang/String", b_String_length, 1, some .int, 4, SHx)
theorem d_String_length_0 : decode b_String_length 0 = .ok (.aload_n 0, 1) := by decide +kernel
theorem d_String_length_1 : decode b_String_length 1 = .ok (.getfield 9, 3) := by decide +kernel
theorem d_String_length_4 : decode b_String_length 4 = .ok (.arraylength, 1) := by decide +kernel
theorem d_String_length_5 : decode b_String_length 5 = .ok (.aload_n 0, 1) := by decide +kernel
theorem d_String_length_6 : decode b_String_length 6 = .ok (.invokevirtual 335, 3) := by decide +kernel
theorem d_String_length_9 : decode b_String_length 9 = .ok (.ishr, 1) := by decide +kernel
theorem d_String_length_10 : decode b_String_length 10 = .ok (.ireturn, 1) := by decide +kernel
def mt_String_isLatin1 : Mt := ("java/lang/String", b_String_isLatin1, 1, some .boolean, 2, SHx)
theorem d_String_isLatin1_0 : decode b_String_isLatin1 0 = .ok (.getstatic 38, 3) := by decide +kernel
theorem d_String_isLatin1_3 : decode b_String_isLatin1 3 = .ok (.ifCond .eq 14, 3) := by decide +kernel
theorem d_String_isLatin1_6 : decode b_String_isLatin1 6 = .ok (.aload_n 0, 1) := by decide +kernel
theorem d_String_isLatin1_7 : decode b_String_isLatin1 7 = .ok (.getfield 15, 3) := by decide +kernel
theorem d_String_isLatin1_10 : decode b_String_isLatin1 10 = .ok (.ifCond .ne 7, 3) := by decide +kernel
theorem d_String_isLatin1_13 : decode b_String_isLatin1 13 = .ok (.iconst 1, 1) := by decide +kernel
theorem d_String_isLatin1_14 : decode b_String_isLatin1 14 = .ok (.goto 4, 3) := by decide +kernel
theorem d_String_isLatin1_17 : decode b_String_isLatin1 17 = .ok (.iconst 0, 1) := by decide +kernel
theorem d_String_isLatin1_18 : decode b_String_isLatin1 18 = .ok (.ireturn, 1) := by decide +kernel
def mt_Precond_checkIndex : Mt := ("jdk/internal/util/Preconditions", b_Precond_checkIndex, 3, some .int, 2, SHx)
theorem d_Precond_checkIndex_0 : decode b_Precond_checkIndex 0 = .ok (.iload_n 0, 1) := by decide +kernel
theorem d_Precond_checkIndex_1 : decode b_Precond_checkIndex 1 = .ok (.ifCond .lt 8, 3) := by decide +kernel
theorem d_Precond_checkIndex_4 : decode b_Precond_checkIndex 4 = .ok (.iload_n 0, 1) := by decide +kernel
theorem d_Precond_checkIndex_5 : decode b_Precond_checkIndex 5 = .ok (.iload_n 1, 1) := by decide +kernel
theorem d_Precond_checkIndex_6 : decode b_Precond_checkIndex 6 = .ok (.if_icmp .lt 10, 3) := by decide +kernel
theorem d_Precond_checkIndex_9 : decode b_Precond_checkIndex 9 = .ok (.aload_n 2, 1) := by decide +kernel
theorem d_Precond_checkIndex_10 : decode b_Precond_checkIndex 10 = .ok (.iload_n 0, 1) := by decide +kernel
theorem d_Precond_checkIndex_11 : decode b_Precond_checkIndex 11 = .ok (.iload_n 1, 1) := by decide +kernel
theorem d_Precond_checkIndex_12 : decode b_Precond_checkIndex 12 = .ok (.invokestatic 95, 3) := by decide +kernel
theorem d_Precond_checkIndex_15 : decode b_Precond_checkIndex 15 = .ok (.athrow, 1) := by decide +kernel
theorem d_Precond_checkIndex_16 : decode b_Precond_checkIndex 16 = .ok (.iload_n 0, 1) := by decide +kernel
theorem d_Precond_checkIndex_17 : decode b_Precond_checkIndex 17 = .ok (.ireturn, 1) := by decide +kernel
def mt_String_checkIndex : Mt := ("java/lang/String", b_String_checkIndex, 2, none, 4, SHx)
theorem d_String_checkIndex_0 : decode b_String_checkIndex 0 = .ok (.iload_n 0, 1) := by decide +kernel
theorem d_String_checkIndex_1 : decode b_String_checkIndex 1 = .ok (.iload_n 1, 1) := by decide +kernel
theorem d_String_checkIndex_2 : decode b_String_checkIndex 2 = .ok (.getstatic 1053, 3) := by decide +kernel
theorem d_String_checkIndex_5 : decode b_String_checkIndex 5 = .ok (.invokestatic 1059, 3) := by decide +kernel
theorem d_String_checkIndex_8 : decode b_String_checkIndex 8 = .ok (.pop, 1) := by decide +kernel
theorem d_String_checkIndex_9 : decode b_String_checkIndex 9 = .ok (.return_, 1) := by decide +kernel
def mt_StringLatin1_charAt : Mt := ("java/lang/StringLatin1", b_StringLatin1_charAt, 2, some .char, 6, SHx)
theorem d_StringLatin1_charAt_0 : decode b_StringLatin1_charAt 0 = .ok (.iload_n 1, 1) := by decide +kernel
theorem d_StringLatin1_charAt_1 : decode b_StringLatin1_charAt 1 = .ok (.aload_n 0, 1) := by decide +kernel
theorem d_StringLatin1_charAt_2 : decode b_StringLatin1_charAt 2 = .ok (.arraylength, 1) := by decide +kernel
theorem d_StringLatin1_charAt_3 : decode b_StringLatin1_charAt 3 = .ok (.invokestatic 9, 3) := by decide +kernel
theorem d_StringLatin1_charAt_6 : decode b_StringLatin1_charAt 6 = .ok (.aload_n 0, 1) := by decide +kernel
theorem d_StringLatin1_charAt_7 : decode b_StringLatin1_charAt 7 = .ok (.iload_n 1, 1) := by decide +kernel
theorem d_StringLatin1_charAt_8 : decode b_StringLatin1_charAt 8 = .ok (.baload, 1) := by decide +kernel
theorem d_StringLatin1_charAt_9 : decode b_StringLatin1_charAt 9 = .ok (.sipush 255, 3) := by decide +kernel
theorem d_StringLatin1_charAt_12 : decode b_StringLatin1_charAt 12 = .ok (.iand, 1) := by decide +kernel
theorem d_StringLatin1_charAt_13 : decode b_StringLatin1_charAt 13 = .ok (.i2c, 1) := by decide +kernel
theorem d_StringLatin1_charAt_14 : decode b_StringLatin1_charAt 14 = .ok (.ireturn, 1) := by decide +kernel
def mt_String_charAt : Mt := ("java/lang/String", b_String_charAt, 2, some .char, 8, SHx)
theorem d_String_charAt_0 : decode b_String_charAt 0 = .ok (.aload_n 0, 1) := by decide +kernel
theorem d_String_charAt_1 : decode b_String_charAt 1 = .ok (.invokevirtual 492, 3) := by decide +kernel
theorem d_String_charAt_4 : decode b_String_charAt 4 = .ok (.ifCond .eq 12, 3) := by decide +kernel
theorem d_String_charAt_7 : decode b_String_charAt 7 = .ok (.aload_n 0, 1) := by decide +kernel
theorem d_String_charAt_8 : decode b_String_charAt 8 = .ok (.getfield 9, 3) := by decide +kernel
theorem d_String_charAt_11 : decode b_String_charAt 11 = .ok (.iload_n 1, 1) := by decide +kernel
theorem d_String_charAt_12 : decode b_String_charAt 12 = .ok (.invokestatic 495, 3) := by decide +kernel
theorem d_String_charAt_15 : decode b_String_charAt 15 = .ok (.ireturn, 1) := by decide +kernel
theorem d_String_charAt_16 : decode b_String_charAt 16 = .ok (.aload_n 0, 1) := by decide +kernel
theorem d_String_charAt_17 : decode b_String_charAt 17 = .ok (.getfield 9, 3) := by decide +kernel
theorem d_String_charAt_20 : decode b_String_charAt 20 = .ok (.iload_n 1, 1) := by decide +kernel
theorem d_String_charAt_21 : decode b_String_charAt 21 = .ok (.invokestatic 498, 3) := by decide +kernel
theorem d_String_charAt_24 : decode b_String_charAt 24 = .ok (.ireturn, 1) := by decide +kernel
theorem cV_String_335 : CV "java/lang/String" 335 y_String_coder := ⟨tbl_in 382 (by decide +kernel) rfl, im_String_coder, se_String_coder, ini_String⟩
theorem cV_String_492 : CV "java/lang/String" 492 y_String_isLatin1 := ⟨tbl_in 392 (by decide +kernel) rfl, im_String_isLatin1, se_String_isLatin1, ini_String⟩
theorem cS_String_495 : CS "java/lang/String" 495 y_StringLatin1_charAt := ⟨tbl_in 396 (by decide +kernel) rfl, st_StringLatin1_charAt, ini_StringLatin1⟩
theorem cS_StringLatin1_9 : CS "java/lang/StringLatin1" 9 y_String_checkIndex := ⟨tbl_in 399 (by decide +kernel) rfl, st_String_checkIndex, ini_String⟩
theorem cS_String_1059 : CS "java/lang/String" 1059 y_Precond_checkIndex := ⟨tbl_in 404 (by decide +kernel) rfl, st_Precond_checkIndex, ini_Precond⟩
theorem dn_String_coder : Dn y_String_coder 0 := ⟨by decide +kernel, by decide +kernel, by decide +kernel⟩
theorem dn_String_isLatin1 : Dn y_String_isLatin1 0 := ⟨by decide +kernel, by decide +kernel, by decide +kernel⟩
theorem dn_StringLatin1_charAt : Dn y_StringLatin1_charAt 2 := ⟨by decide +kernel, by decide +kernel, by decide +kernel⟩
theorem dn_String_checkIndex : Dn y_String_checkIndex 2 := ⟨by decide +kernel, by decide +kernel, by decide +kernel⟩
theorem dn_Precond_checkIndex : Dn y_Precond_checkIndex 3 := ⟨by decide +kernel, by decide +kernel, by decide +kernel⟩
set_option maxRecDepth 20000 in
theorem C_String_coder (k : Nat) (hk : k < 7) (M : Mem) : Ct y_String_coder mt_String_coder wI [.ref (210 + k)] M (some (0, M)) := by
  refine ct_of (by decide +kernel) rfl (Nat.le_of_ble_eq_true rfl) ?_
  refine j_compact (pc := 0) d_String_coder_0 rfl ?_
  show J _ _ _ _ _ _ (if (1 : Int32) = 0 then none else some (0, M))
  refine j_if_eq (pc := 3) (tgt := 13) d_String_coder_3 (by decide) (fun _ => j_none) (fun _ => ?_)
  refine j_aload_n (pc := 6) (q := 0) d_String_coder_6 rfl rfl ?_
  refine j_strCoder (pc := 7) d_String_coder_7 rfl hk ?_
  refine j_goto (pc := 10) (tgt := 14) d_String_coder_10 (by decide) ?_
  exact j_zreturn (pc := 14) d_String_coder_14 rfl rfl
set_option maxRecDepth 20000 in
theorem C_String_isLatin1 (k : Nat) (hk : k < 7) (M : Mem) : Ct y_String_isLatin1 mt_String_isLatin1 wI [.ref (210 + k)] M (some (1, M)) := by
  refine ct_of (by decide +kernel) rfl (Nat.le_of_ble_eq_true rfl) ?_
  refine j_compact (pc := 0) d_String_isLatin1_0 rfl ?_
  show J _ _ _ _ _ _ (if (1 : Int32) = 0 then none else if (0 : Int32) = 0 then some (1, M) else none)
  refine j_if_eq (pc := 3) (tgt := 17) d_String_isLatin1_3 (by decide) (fun _ => j_none) (fun _ => ?_)
  refine j_aload_n (pc := 6) (q := 0) d_String_isLatin1_6 rfl rfl ?_
  refine j_strCoder (pc := 7) d_String_isLatin1_7 rfl hk ?_
  refine j_if_ne (pc := 10) (tgt := 17) d_String_isLatin1_10 (by decide) (fun _ => j_none) (fun _ => ?_)
  refine j_iconst (pc := 13) d_String_isLatin1_13 k_i_1 ?_
  refine j_goto (pc := 14) (tgt := 18) d_String_isLatin1_14 (by decide) ?_
  exact j_zreturn (pc := 18) d_String_isLatin1_18 rfl rfl
set_option maxRecDepth 20000 in
theorem C_String_length (k : Nat) (hk : k < 7) (M : Mem) : Ct y_String_length mt_String_length wI [.ref (210 + k)] M (some (nI (stLen.getD k 0) >>> ((0 : Int32) &&& 31), M)) := by
  refine ct_of (by decide +kernel) rfl (Nat.le_of_ble_eq_true rfl) ?_
  refine j_aload_n (pc := 0) (q := 0) d_String_length_0 rfl rfl ?_
  refine j_strValue (pc := 1) d_String_length_1 rfl hk ?_
  refine j_strLen (pc := 4) d_String_length_4 hk ?_
  refine j_aload_n (pc := 5) (q := 0) d_String_length_5 rfl rfl ?_
  show J _ _ _ _ _ _ (bd (some ((0 : Int32), M)) (fun r N => some (nI (stLen.getD k 0) >>> (r &&& 31), N)))
  refine j_callVS0 (pc := 6) d_String_length_6 (C_String_coder k hk M) cV_String_335 cd_String_coder dn_String_coder rfl (by decide) (Nat.le_of_ble_eq_true rfl) (Nat.le_of_ble_eq_true rfl) nr_I hk rfl (fun r N => ?_)
  refine j_ishr (pc := 9) d_String_length_9 ?_
  exact j_ireturn (pc := 10) d_String_length_10 rfl
set_option maxRecDepth 20000 in
theorem C_Precond_checkIndex (i : Int32) (n : Nat) (hn : n < 1000) (hin : vp_in i n) (v : Value) (hv : v.category = 1) (M : Mem) : Ct y_Precond_checkIndex mt_Precond_checkIndex wI [.int i, .int (nI n), v] M (some (i, M)) := by
  have hl : lv_args 0 [.int i, .int (nI n), v] = [(0, .int i), (1, .int (nI n)), (2, v)] := rfl
  refine ct_of (by decide +kernel) rfl ?_ ?_
  · have : (lg_sl [.int i, .int (nI n), v]).length = 3 := by simp [lg_sl, hv]; rfl
    rw [this]; exact (Nat.le_of_ble_eq_true rfl)
  rw [hl]
  have h0 : ¬ i < 0 := fun h => hin (Or.inl h)
  have h1 : i < nI n := by
    obtain ⟨j, hj, rfl⟩ := vp_in_of hin (by omega)
    exact nI_lt hj (by omega)
  have e : (some (i, M) : Option (Int32 × Mem)) = (if i < 0 then none else if i < nI n then some (i, M) else none) := by rw [if_neg h0, if_pos h1]
  rw [e]
  refine j_iload_n (pc := 0) (q := 0) d_Precond_checkIndex_0 rfl rfl ?_
  refine j_if_lt (pc := 1) (tgt := 9) d_Precond_checkIndex_1 (by decide) (fun _ => j_none) (fun _ => ?_)
  refine j_iload_n (pc := 4) (q := 0) d_Precond_checkIndex_4 rfl rfl ?_
  refine j_iload_n (pc := 5) (q := 1) d_Precond_checkIndex_5 rfl rfl ?_
  refine j_icmp_lt (pc := 6) (tgt := 16) d_Precond_checkIndex_6 (by decide) (fun _ => ?_) (fun _ => j_none)
  refine j_iload_n (pc := 16) (q := 0) d_Precond_checkIndex_16 rfl rfl ?_
  exact j_ireturn (pc := 17) d_Precond_checkIndex_17 rfl
set_option maxRecDepth 20000 in
theorem C_String_checkIndex (i : Int32) (n : Nat) (hn : n < 1000) (hin : vp_in i n) (M : Mem) : Ct y_String_checkIndex mt_String_checkIndex wU [.int i, .int (nI n)] M (some ((), M)) := by
  refine ct_of (by decide +kernel) rfl (Nat.le_of_ble_eq_true rfl) ?_
  refine j_iload_n (pc := 0) (q := 0) d_String_checkIndex_0 rfl rfl ?_
  refine j_iload_n (pc := 1) (q := 1) d_String_checkIndex_1 rfl rfl ?_
  show J _ _ _ _ _ _ (bd (some (i, M)) (fun _ N => some ((), N)))
  refine j_form (pc := 2) d_String_checkIndex_2 rfl ?_ ?_
  · refine j_callS3 (pc := 5) d_String_checkIndex_5 (C_Precond_checkIndex i n hn hin (.null) rfl M) cS_String_1059 cd_Precond_checkIndex dn_Precond_checkIndex rfl (by decide) (Nat.le_of_ble_eq_true rfl) (Nat.le_of_ble_eq_true rfl) nr_I (fun r N => ?_)
    refine j_pop (pc := 8) d_String_checkIndex_8 rfl ?_
    exact j_return (pc := 9) d_String_checkIndex_9 rfl
  · refine j_callS3 (pc := 5) d_String_checkIndex_5 (C_Precond_checkIndex i n hn hin (.ref 230) rfl M) cS_String_1059 cd_Precond_checkIndex dn_Precond_checkIndex rfl (by decide) (Nat.le_of_ble_eq_true rfl) (Nat.le_of_ble_eq_true rfl) nr_I (fun r N => ?_)
    refine j_pop (pc := 8) d_String_checkIndex_8 rfl ?_
    exact j_return (pc := 9) d_String_checkIndex_9 rfl
theorem k_s_255 : (Int16.ofInt 255).toInt32 = 255 := by decide
set_option maxRecDepth 20000 in
theorem C_StringLatin1_charAt (k : Nat) (hk : k < 7) (i : Int32) (hin : vp_in i (stLen.getD k 0)) (M : Mem) : Ct y_StringLatin1_charAt mt_StringLatin1_charAt wI [.ref (220 + k), .int i] M (some ((((stByt.getD k []).getD i.toNatClampNeg 0 &&& 255).toUInt32 % 65536).toInt32, M)) := by
  have hlen : stLen.getD k 0 < 1000 := by
    match k, hk with
    | 0, _ => decide
    | 1, _ => decide
    | 2, _ => decide
    | 3, _ => decide
    | 4, _ => decide
    | 5, _ => decide
    | 6, _ => decide
  refine ct_of (by decide +kernel) rfl (Nat.le_of_ble_eq_true rfl) ?_
  refine j_iload_n (pc := 0) (q := 1) d_StringLatin1_charAt_0 rfl rfl ?_
  refine j_aload_n (pc := 1) (q := 0) d_StringLatin1_charAt_1 rfl rfl ?_
  refine j_strLen (pc := 2) d_StringLatin1_charAt_2 hk ?_
  show J _ _ _ _ _ _ (bd (some ((), M)) (fun _ N => some ((((stByt.getD k []).getD i.toNatClampNeg 0 &&& 255).toUInt32 % 65536).toInt32, N)))
  refine j_callS2 (pc := 3) d_StringLatin1_charAt_3 (C_String_checkIndex i _ hlen hin M) cS_StringLatin1_9 cd_String_checkIndex dn_String_checkIndex rfl (by decide) (Nat.le_of_ble_eq_true rfl) (Nat.le_of_ble_eq_true rfl) nr_U (fun r N => ?_)
  refine j_aload_n (pc := 6) (q := 0) d_StringLatin1_charAt_6 rfl rfl ?_
  refine j_iload_n (pc := 7) (q := 1) d_StringLatin1_charAt_7 rfl rfl ?_
  refine j_strByte (pc := 8) d_StringLatin1_charAt_8 hk hin ?_
  refine j_sipush (pc := 9) d_StringLatin1_charAt_9 k_s_255 ?_
  refine j_iand (pc := 12) d_StringLatin1_charAt_12 ?_
  refine j_i2c (pc := 13) d_StringLatin1_charAt_13 ?_
  exact j_zreturn (pc := 14) d_StringLatin1_charAt_14 rfl (pk_nc _)
def zc (x : Int32) (M : Mem) : Option (Int32 × Mem) := if x = (x.toUInt32 % 65536).toInt32 then some (x, M) else none
theorem j_zc {mt : Mt} {pc : Nat} {lv : List (Nat × Value)} {M : Mem} {x : Int32} (hd : decode mt.2.1 pc = .ok (.ireturn, 1)) (hrt : mt.2.2.2.1 = some .char) : J mt wI pc lv [.int x] M (zc x M) := by
  unfold zc
  by_cases h : x = (x.toUInt32 % 65536).toInt32
  · rw [if_pos h]
    refine j_zreturn hd hrt ?_
    rw [h]
    exact pk_nc _
  · rw [if_neg h]; exact j_none
def X_charAt (k : Nat) (i : Int32) (M : Mem) : Option (Int32 × Mem) := gd i (stLen.getD k 0) (zc ((((stByt.getD k []).getD i.toNatClampNeg 0 &&& 255).toUInt32 % 65536).toInt32) M)
set_option maxRecDepth 20000 in
theorem C_String_charAt (k : Nat) (hk : k < 7) (i : Int32) (M : Mem) : Ct y_String_charAt mt_String_charAt wI [.ref (210 + k), .int i] M (X_charAt k i M) := by
  unfold X_charAt gd
  by_cases hin : i < 0 ∨ stLen.getD k 0 ≤ i.toNatClampNeg
  · rw [if_pos hin]; intro r M2 h; cases h
  rw [if_neg hin]
  refine ct_of (by decide +kernel) rfl (Nat.le_of_ble_eq_true rfl) ?_
  refine j_aload_n (pc := 0) (q := 0) d_String_charAt_0 rfl rfl ?_
  show J _ _ _ _ _ _ (bd (some ((1 : Int32), M)) (fun r N => if r = 0 then none else bd (some ((((stByt.getD k []).getD i.toNatClampNeg 0 &&& 255).toUInt32 % 65536).toInt32, N)) (fun r N => zc r N)))
  refine j_callVS0 (pc := 1) d_String_charAt_1 (C_String_isLatin1 k hk M) cV_String_492 cd_String_isLatin1 dn_String_isLatin1 rfl (by decide) (Nat.le_of_ble_eq_true rfl) (Nat.le_of_ble_eq_true rfl) nr_I hk rfl (fun r N => ?_)
  refine j_if_eq (pc := 4) (tgt := 16) d_String_charAt_4 (by decide) (fun _ => j_none) (fun _ => ?_)
  refine j_aload_n (pc := 7) (q := 0) d_String_charAt_7 rfl rfl ?_
  refine j_strValue (pc := 8) d_String_charAt_8 rfl hk ?_
  refine j_iload_n (pc := 11) (q := 1) d_String_charAt_11 rfl rfl ?_
  refine j_callS2 (pc := 12) d_String_charAt_12 (C_StringLatin1_charAt k hk i hin N) cS_String_495 cd_StringLatin1_charAt dn_StringLatin1_charAt rfl (by decide) (Nat.le_of_ble_eq_true rfl) (Nat.le_of_ble_eq_true rfl) nr_I (fun r N => ?_)
  exact j_zc (pc := 15) d_String_charAt_15 rfl
end
section
/-! THE CONSTRUCTORS: worlds that grow (ids in the order of making; kinds: 0 int, 1 long, 2 null, r + 3 the object r) -/
abbrev Mc : Type := String × ByteArray × Nat × Nat
def zM : Mem := (fun _ _ => 0, fun _ _ => 0)
def fldC (ad : Nat → Nat) (M : Mem) (a i kd : Nat) : Value := match kd with
  | 0 => .int (M.1 a i)
  | 1 => .long (M.2 a i)
  | 2 => .null
  | r + 3 => .ref (ad r)
def rfC (ad : Nat → Nat) (ds : List Nat) : Nat → Option Nat := fun j => match ds[j]? with
  | some (r + 1) => some (ad r)
  | _ => none
def cellC (ad : Nat → Nat) (dA : Nat → ClassId) (M : Mem) (a : Nat) (q : Nat × List Nat) : va_E :=
  if q.1 < 100 then .inr (q.1, q.2.mapIdx (fun i kd => fldC ad M a i kd))
  else if q.1 < 103 then .inl (dA (q.1 - 100), q.2.headD 0, .inl (M.1 a))
  else if q.1 = 103 then .inl (dA 3, q.2.headD 0, .inr (.inl (M.2 a)))
  else .inl (dA (q.1 - 100), q.2.length, .inr (.inr (.inr (.inr (rfC ad q.2)))))
def layC (ad : Nat → Nat) (dA : Nat → ClassId) (sh : Shp) (M : Mem) : va_W := sh.mapIdx (fun a q => (ad a, cellC ad dA M a q))
def adB (base : Nat) (stt : Nat → Nat) (k : Nat) : Nat := if k < 200 then base + k else stt k
theorem layC_get {ad : Nat → Nat} {dA : Nat → ClassId} {sh : Shp} {M : Mem} {a : Nat} {q : Nat × List Nat} (h : sh[a]? = some q) : (layC ad dA sh M)[a]? = some (ad a, cellC ad dA M a q) := by
  simp [layC, h]
theorem layC_len {ad : Nat → Nat} {dA : Nat → ClassId} {sh : Shp} {M : Mem} : (layC ad dA sh M).length = sh.length := by simp [layC]
theorem layC_app {ad : Nat → Nat} {dA : Nat → ClassId} {sh : Shp} {M : Mem} {q : Nat × List Nat} : layC ad dA (sh ++ [q]) M = layC ad dA sh M ++ [(ad sh.length, cellC ad dA M sh.length q)] := by
  simp [layC, List.mapIdx_append]
theorem layC_D {base : Nat} {stt : Nat → Nat} {dA : Nat → ClassId} {sh : Shp} {M : Mem} (h : sh.length ≤ 200) : va_D (fun q => base ≤ q) (layC (adB base stt) dA sh M) := by
  have key : ∀ (i : Nat) (p : Nat × va_E), (layC (adB base stt) dA sh M)[i]? = some p → i < 200 ∧ p.1 = base + i := by
    intro i p hi
    have hl : i < sh.length := by
      have := (List.getElem?_eq_some_iff.mp hi).1
      rw [layC_len] at this
      exact this
    obtain ⟨q, hq⟩ : ∃ q, sh[i]? = some q := ⟨_, List.getElem?_eq_getElem hl⟩
    rw [layC_get hq] at hi
    cases hi
    refine ⟨by omega, ?_⟩
    show adB base stt i = base + i
    unfold adB
    rw [if_pos (by omega)]
  refine ⟨fun i j p q hi hj he => ?_, fun i p hi => ?_⟩
  · have := key i p hi
    have := key j q hj
    omega
  · have := key i p hi
    show base ≤ p.1
    omega
theorem cellC_off {ad : Nat → Nat} {dA : Nat → ClassId} {M M' : Mem} {a : Nat} {q : Nat × List Nat} (h1 : M'.1 a = M.1 a) (h2 : M'.2 a = M.2 a) : cellC ad dA M' a q = cellC ad dA M a q := by
  have h : q.2.mapIdx (fun i kd => fldC ad M' a i kd) = q.2.mapIdx (fun i kd => fldC ad M a i kd) := by
    congr 1
    funext i kd
    match kd with
    | 0 => simp [fldC, h1]
    | 1 => simp [fldC, h2]
    | 2 => rfl
    | r + 3 => rfl
  unfold cellC
  rw [h, h1, h2]
theorem layC_set {ad : Nat → Nat} {dA : Nat → ClassId} {sh : Shp} {M M' : Mem} {a : Nat} {q : Nat × List Nat} {x : va_E} (hl : a < sh.length) (hx : x = cellC ad dA M' a q) (ho : ∀ j, j ≠ a → M'.1 j = M.1 j ∧ M'.2 j = M.2 j) : (layC ad dA sh M).set a (ad a, x) = layC ad dA (sh.set a q) M' := by
  apply List.ext_getElem?
  intro j
  rw [List.getElem?_set]
  by_cases e : a = j
  · subst e
    rw [if_pos rfl, if_pos (by rw [layC_len]; exact hl), hx, layC_get (by rw [List.getElem?_set, if_pos rfl, if_pos hl])]
  · rw [if_neg e]
    cases hq : sh[j]? with
    | none => simp [layC, hq, List.getElem?_set, e]
    | some q2 => rw [layC_get hq, layC_get (q := q2) (by rw [List.getElem?_set, if_neg e]; exact hq), cellC_off (ho j (fun e2 => e e2.symm)).1 (ho j (fun e2 => e e2.symm)).2]
theorem objC_get {ad : Nat → Nat} {M : Mem} {a k kd : Nat} {ds : List Nat} (h : ds[k]? = some kd) : (ds.mapIdx (fun i kd => fldC ad M a i kd))[k]? = some (fldC ad M a k kd) := by
  simp [h]
theorem objC_set {ad : Nat → Nat} {M M' : Mem} {a k kd : Nat} {ds : List Nat} {v : Value} (hl : k < ds.length) (hv : fldC ad M' a k kd = v) (ho : ∀ j kd2, j ≠ k → fldC ad M' a j kd2 = fldC ad M a j kd2) : (ds.mapIdx (fun i kd => fldC ad M a i kd)).set k v = (ds.set k kd).mapIdx (fun i kd => fldC ad M' a i kd) := by
  apply List.ext_getElem?
  intro j
  rw [List.getElem?_set]
  by_cases e : k = j
  · subst e
    rw [if_pos rfl, if_pos (by rw [List.length_mapIdx]; exact hl), objC_get (kd := kd) (by rw [List.getElem?_set, if_pos rfl, if_pos hl]), hv]
  · rw [if_neg e]
    cases hq : ds[j]? with
    | none => simp [hq, List.getElem?_set, e]
    | some q2 => rw [objC_get hq, objC_get (kd := q2) (by rw [List.getElem?_set, if_neg e]; exact hq), ho j q2 (fun e2 => e e2.symm)]
def nestI : List (String × Nat × MethodName) := [("ShakeHands", 9, y_Tape_init), ("ShakeHands$Teller", 11, y_Circle_init), ("ShakeHands$Circle", 30, y_Row_init), ("ShakeHands$Teller", 24, y_Row_init), ("ShakeHands", 27, y_Circle_init), ("ShakeHands", 34, y_Minds_init), ("ShakeHands", 65, y_Sheet_init)]
theorem idx_b (vm : Vm) (f : Class → Bool) (hf : ∀ x y : Class, x.kind = y.kind → f x = f y) : vm.bare.classes.findIdx? f = vm.classes.findIdx? f := by
  simp only [Vm.bare, Array.findIdx?_map]
  congr 1
  funext x
  exact hf _ _ rfl
def AOA (U : State) : Prop := (Cond.arrayOver (.array .long)).before #[] U = true
theorem AOA.moved {u U : State} (hvm : u.vm.Alike U.vm) (h : AOA u) : AOA U := by
  obtain ⟨comp, c, k, h1, h2, h3, h4, h5⟩ := arrayOverA_spec h
  obtain ⟨k', hk', he⟩ := hvm.2.2 _ _ h3
  have hi := (idx_b u.vm _ (fun x y h => by rw [h])).trans h2
  first | rw [hvm.bare_eq] at hi | rw [← hvm.bare_eq] at hi
  have hi := (idx_b U.vm _ (fun x y h => by rw [h])).symm.trans hi
  have hkind : k'.kind = .array comp (.array .long) := by rw [he]; exact h4
  have f1 : U.vm.findClass (FieldType.array .long).toString = some comp := by rw [hvm.findClass]; exact h1
  have f2 : U.vm.findClass ("[" ++ (FieldType.array .long).toString) = some c := by rw [hvm.findClass]; exact h5
  unfold AOA Cond.before Cond.holds
  simp only [Cond.value]
  rw [f1, Option.bind_some]
  refine (congrArg (fun o : Option Nat => (o.bind (fun c => (U.vm.classes[c]?).map fun (k : Class) => match k.kind with | .array _ ty => decide (ty = FieldType.array .long) && decide (U.vm.findClass ("[" ++ (FieldType.array .long).toString) = some c) | _ => false) == some true)) hi).trans ?_
  simp [hk', hkind, f2]
def KC (D : va_G) (dA : Nat → ClassId) (U : State) : Prop := va_K D cl (tysOf dA) U ∧ (∀ q ∈ nestI, va_Nw (.methodLinkNest q.1 q.2.1 q.2.2 "ShakeHands") U) ∧ va_AO "ShakeHands$Minds" U ∧ va_AO "ShakeHands$Sheet" U ∧ AOA U
theorem KC.next {D : va_G} {dA : Nat → ClassId} {s U : State} (h : KC D dA s) (hW : s.WarmedH U.vm) : KC D dA U := ⟨va_K.moved hW.alike h.1, fun q hq => va_Nw.warmM hW (h.2.1 q hq), va_AO.moved hW.alike h.2.2.1, va_AO.moved hW.alike h.2.2.2.1, AOA.moved hW.alike h.2.2.2.2⟩
theorem KC.blind {D : va_G} {dA : Nat → ClassId} {U : State} {g : JFrame} {mk : MethodId} {a : Array Value} (h : KC D dA U) : KC D dA (U.calling g mk a) := ⟨va_K.moved (u := U) (U := U.calling g mk a) (Vm.Alike.refl U.vm) h.1, fun q hq => va_Nw.same (u := U) rfl rfl (h.2.1 q hq), va_AO.moved (u := U) (Vm.Alike.refl U.vm) h.2.2.1, va_AO.moved (u := U) (Vm.Alike.refl U.vm) h.2.2.2.1, AOA.moved (u := U) (Vm.Alike.refl U.vm) h.2.2.2.2⟩
def HC (mt : Mc) (p : Program) (s : State) (m : MethodId) (args : Array Value) (meth : Method) (c : Code) (D : va_G) (dA : Nat → ClassId) : Prop :=
  p.tables.exec = Jvm.exec ∧ c.code = mt.2.1 ∧ meth.sig.returnType = none ∧ c.maxLocals = mt.2.2.1 ∧ s.vm.findClass mt.1 = some m.cls ∧ (∀ w ∈ tbl, w.before args s = true) ∧ meth.locks = false ∧ meth.name = "<init>" ∧ KC D dA s
def JC (mt : Mc) (pc : Nat) (lv : List (Nat × Value)) (st : List Value) (sh : Shp) (M : Mem) (k n : Nat) (sh9 : Shp) (M9 : Mem) (mc ms : Nat) : Prop :=
  ∀ (p : Program) (l : Launch) (e : Env) (s : State) (m : MethodId) (args : Array Value) (below : List Frame) (meth : Method) (c : Code) (D : va_G) (base : Nat) (stt : Nat → Nat) (dA : Nat → ClassId), HC mt p s m args meth c D dA →
    ∀ (H : Heap) (locs : List Loc) (ls : Array Slot), va_P D cl (layC (adB base stt) dA sh M) H → H.size = base + sh.length → va_S (fun q => base ≤ q) s.heap H locs → base ≤ s.heap.size → lv_has ls mt.2.2.1 (lv.map (rvp (adB base stt))) →
      W p l e (rmc mt.2.2.2 mc ms) s m args below meth c H locs k n (MQ below (Qr none (fun t => va_P D cl (layC (adB base stt) dA sh9 M9) t.heap ∧ t.heap.size = base + sh9.length) (fun q => base ≤ q)) args s mc ms (fun q => base ≤ q)) (F0 m pc ls (st.map (rv (adB base stt))))
def CtC (y : MethodName) (mt : Mc) (as : List Value) (sh : Shp) (M : Mem) (sh9 : Shp) (M9 : Mem) (mc ms : Nat) : Prop :=
  ∀ (l : Launch) (D : va_G) (base : Nat) (stt : Nat → Nat) (dA : Nat → ClassId),
    Met l y (.code y mt.2.1 mt.2.2.1 none :: tbl) (rmc mt.2.2.2 mc ms) (va_Pc (as.map (rv (adB base stt))) (fun U => va_P D cl (layC (adB base stt) dA sh M) U.heap ∧ U.heap.size = base + sh.length ∧ KC D dA U)) (Qr none (fun t => va_P D cl (layC (adB base stt) dA sh9 M9) t.heap ∧ t.heap.size = base + sh9.length) (fun q => base ≤ q)) mc ms (fun q => base ≤ q)
theorem ctc_of {y : MethodName} {mt : Mc} {as : List Value} {sh sh9 : Shp} {M M9 : Mem} {mc ms : Nat} (hy : plainName y.cls = true) (hn : y.cls = mt.1) (hni : y.name = "<init>") (hl : (lg_sl as).length ≤ mt.2.2.1) (hJ : JC mt 0 (lv_args 0 as) [] sh M 0 0 sh9 M9 mc ms) : CtC y mt as sh M sh9 M9 mc ms := by
  intro l D base stt dA
  refine Met.ofW (cc := mt.2.1) (maxL := mt.2.2.1) (ret := none) hy rfl ?_
  intro p e s m args below meth c s₁ B hml hv
  obtain ⟨rfl, hP, hz, hC⟩ := hv
  have hts := atoms_spec (ws := .code y mt.2.1 mt.2.2.1 none :: tbl) B.pre
  have hown : s.vm.findClass y.cls = some m.cls := findClass_of_methodNamed B.named
  have hS : va_S (fun q => base ≤ q) s.heap s.heap [] := va_S.rf
  have hin : meth.name = "<init>" := (name_of_methodNamed B.named B.method).1.trans hni
  have hls := lv_entry (as.map (rv (adB base stt))) (n := mt.2.2.1) (by rw [lvp_sl]; exact hl)
  rw [lg_entry_eq]
  rw [lvp_args] at hls
  exact hJ p l e s m _ below meth c D base stt dA ⟨B.exec, B.bytes, B.returns, hml, by rw [← hn]; exact hown, fun w h => hts w (List.mem_cons_of_mem _ h), B.notSynchronized, hin, hC⟩ s.heap [] _ hP hz hS (by omega) hls
section WCC
variable {p : Program} {l : Launch} {e : Env} {R : Room} {s : State} {m : MethodId} {args : Array Value} {below : List Frame} {meth : Method} {c : Code} {H : Heap} {locs : List Loc} {cells slots mc ms : Nat} {Q : State → Prop} {pc : Nat} {ls : Array Slot} {rest st0 : List Value} {a : Array Value} {A : Nat → Prop}
theorem wr_callC {wv : Option Value} {Post : State → Prop} (hr : va_Run p l e R s m args below meth c H locs cells slots mc ms (F0 m pc ls st0) rest (Qr wv Post A a) A) (hS : va_S A s.heap H locs)
    (kk : ∀ (t : State) (H1 : Heap) (locs1 : List Loc), t.heap = H1 → Post t → va_S A s.heap H1 locs1 → W p l e R s m args below meth c H1 locs1 (cells + mc) (slots + ms) Q (F0 m (pc + 3) ls (wv.toList ++ rest))) : W p l e R s m args below meth c H locs cells slots Q (F0 m pc ls st0) := by
  intro T hT X
  obtain ⟨v, st₀, t, T', L, h0, X', hL, e1, e2, ⟨hv, hp, hz, hk⟩, st⟩ := hr T hT X
  cases hv
  rw [h0] at hz hk
  obtain ⟨t2, a1, b1⟩ := kk t T'.heap (locs ++ L) e1.symm hp
    ⟨Nat.le_trans hS.1 (by rw [e1]; exact hz), fun q h1 h2 => by rw [e1, hk q (Nat.lt_of_lt_of_le h1 hS.1) h2]; exact hS.2.1 q h1 h2, fun q hq => by
      rcases List.mem_append.mp hq with h | h
      · exact hS.2.2 q h
      · exact hL q h⟩ T' rfl X'
  exact ⟨t2, st t2 a1, b1⟩
end WCC
theorem oi_im : Cond.instanceMethod objectInit ∈ tbl := tbl_in 24 (by decide +kernel) rfl
theorem oi_cd : Cond.code objectInit ⟨#[0xb1]⟩ 1 none ∈ tbl := tbl_in 25 (by decide +kernel) rfl
abbrev va_E_inl (c : ClassId) (n : Nat) (f : (Nat → Int32) ⊕ (Nat → Int64) ⊕ (Nat → UInt32) ⊕ (Nat → UInt64) ⊕ (Nat → Option Nat)) : va_E := .inl (c, n, f)
theorem c_dup {mt : Mc} {pc : Nat} {lv : List (Nat × Value)} {st : List Value} {sh sh9 : Shp} {M M9 : Mem} {k n mc ms : Nat} {v : Value} (hd : decode mt.2.1 pc = .ok (.dup, 1)) (hv : v.category = 1) (K : JC mt (pc + 1) lv (v :: v :: st) sh M k n sh9 M9 mc ms) : JC mt pc lv (v :: st) sh M k n sh9 M9 mc ms := by
  intro p l e s m args below meth c D base stt dA hp H locs ls hP hz hS hbs hl
  obtain ⟨hx, hb, hr, hml, hown, hts, hlk, hin, hK, hNi, hOM, hOS, hOL⟩ := id hp
  exact lv_dup hx hb hd ((rv_cat _ v).trans hv) (K p l e s m args below meth c D base stt dA hp H locs ls hP hz hS hbs hl)
theorem c_iconst {mt : Mc} {pc : Nat} {lv : List (Nat × Value)} {st : List Value} {sh sh9 : Shp} {M M9 : Mem} {k n mc ms : Nat} {i : Int} {v : Int32} (hd : decode mt.2.1 pc = .ok (.iconst i, 1)) (hv : Int32.ofInt i = v) (K : JC mt (pc + 1) lv (.int v :: st) sh M k n sh9 M9 mc ms) : JC mt pc lv st sh M k n sh9 M9 mc ms := by
  intro p l e s m args below meth c D base stt dA hp H locs ls hP hz hS hbs hl
  obtain ⟨hx, hb, hr, hml, hown, hts, hlk, hin, hK, hNi, hOM, hOS, hOL⟩ := id hp
  exact lv_iconst hx hb hd hv (K p l e s m args below meth c D base stt dA hp H locs ls hP hz hS hbs hl)
theorem c_bipush {mt : Mc} {pc : Nat} {lv : List (Nat × Value)} {st : List Value} {sh sh9 : Shp} {M M9 : Mem} {k n mc ms : Nat} {i : Int} {v : Int32} (hd : decode mt.2.1 pc = .ok (.bipush i, 2)) (hv : (Int8.ofInt i).toInt32 = v) (K : JC mt (pc + 2) lv (.int v :: st) sh M k n sh9 M9 mc ms) : JC mt pc lv st sh M k n sh9 M9 mc ms := by
  intro p l e s m args below meth c D base stt dA hp H locs ls hP hz hS hbs hl
  obtain ⟨hx, hb, hr, hml, hown, hts, hlk, hin, hK, hNi, hOM, hOS, hOL⟩ := id hp
  exact lv_bipush hx hb hd hv (K p l e s m args below meth c D base stt dA hp H locs ls hP hz hS hbs hl)
theorem c_sipush {mt : Mc} {pc : Nat} {lv : List (Nat × Value)} {st : List Value} {sh sh9 : Shp} {M M9 : Mem} {k n mc ms : Nat} {i : Int} {v : Int32} (hd : decode mt.2.1 pc = .ok (.sipush i, 3)) (hv : (Int16.ofInt i).toInt32 = v) (K : JC mt (pc + 3) lv (.int v :: st) sh M k n sh9 M9 mc ms) : JC mt pc lv st sh M k n sh9 M9 mc ms := by
  intro p l e s m args below meth c D base stt dA hp H locs ls hP hz hS hbs hl
  obtain ⟨hx, hb, hr, hml, hown, hts, hlk, hin, hK, hNi, hOM, hOS, hOL⟩ := id hp
  exact lv_sipush hx hb hd hv (K p l e s m args below meth c D base stt dA hp H locs ls hP hz hS hbs hl)
theorem c_iload_n {mt : Mc} {pc : Nat} {lv : List (Nat × Value)} {st : List Value} {sh sh9 : Shp} {M M9 : Mem} {k n mc ms : Nat} {j : Fin 4} {i q : Nat} {x : Int32} (hd : decode mt.2.1 pc = .ok (.iload_n j, 1)) (hi : (j : Nat) = i) (hq : lv[q]? = some (i, .int x)) (K : JC mt (pc + 1) lv (.int x :: st) sh M k n sh9 M9 mc ms) : JC mt pc lv st sh M k n sh9 M9 mc ms := by
  intro p l e s m args below meth c D base stt dA hp H locs ls hP hz hS hbs hl
  obtain ⟨hx, hb, hr, hml, hown, hts, hlk, hin, hK, hNi, hOM, hOS, hOL⟩ := id hp
  exact lv_iload_n hx hb hd hi (lv_at hl q (lvp_get hq)) (K p l e s m args below meth c D base stt dA hp H locs ls hP hz hS hbs hl)
theorem c_aload_n {mt : Mc} {pc : Nat} {lv : List (Nat × Value)} {st : List Value} {sh sh9 : Shp} {M M9 : Mem} {k n mc ms : Nat} {j : Fin 4} {i q : Nat} {x : Nat} (hd : decode mt.2.1 pc = .ok (.aload_n j, 1)) (hi : (j : Nat) = i) (hq : lv[q]? = some (i, .ref x)) (K : JC mt (pc + 1) lv (.ref x :: st) sh M k n sh9 M9 mc ms) : JC mt pc lv st sh M k n sh9 M9 mc ms := by
  intro p l e s m args below meth c D base stt dA hp H locs ls hP hz hS hbs hl
  obtain ⟨hx, hb, hr, hml, hown, hts, hlk, hin, hK, hNi, hOM, hOS, hOL⟩ := id hp
  exact lv_aload_n hx hb hd hi (lv_at hl q (lvp_get hq)) (K p l e s m args below meth c D base stt dA hp H locs ls hP hz hS hbs hl)
theorem c_istore_n {mt : Mc} {pc : Nat} {lv : List (Nat × Value)} {st : List Value} {sh sh9 : Shp} {M M9 : Mem} {k n mc ms : Nat} {j : Fin 4} {i : Nat} {x : Int32} {lv' : List (Nat × Value)} (hd : decode mt.2.1 pc = .ok (.istore_n j, 1)) (hi : (j : Nat) = i) (hn : i < mt.2.2.1) (h : (i, Value.int x) :: lv.filter (fun q => !(q.1 == i) && !(q.1 + 1 == i && q.2.category == 2)) = lv') (K : JC mt (pc + 1) lv' st sh M k n sh9 M9 mc ms) : JC mt pc lv (.int x :: st) sh M k n sh9 M9 mc ms := by
  intro p l e s m args below meth c D base stt dA hp H locs ls hP hz hS hbs hl
  obtain ⟨hx, hb, hr, hml, hown, hts, hlk, hin, hK, hNi, hOM, hOS, hOL⟩ := id hp
  exact lv_istore_n hx hb hd hi hl hn (lvp_filter h) (fun ls2 hl2 => K p l e s m args below meth c D base stt dA hp H locs ls2 hP hz hS hbs hl2)
theorem c_iinc {mt : Mc} {pc : Nat} {lv : List (Nat × Value)} {st : List Value} {sh sh9 : Shp} {M M9 : Mem} {k n mc ms : Nat} {i q : Nat} {a : Int} {x v : Int32} {lv' : List (Nat × Value)} (hd : decode mt.2.1 pc = .ok (.iinc i a, 3)) (hq : lv[q]? = some (i, .int x)) (hv : x + Int32.ofInt a = v) (hn : i < mt.2.2.1) (h : (i, Value.int v) :: lv.filter (fun q => !(q.1 == i) && !(q.1 + 1 == i && q.2.category == 2)) = lv') (K : JC mt (pc + 3) lv' st sh M k n sh9 M9 mc ms) : JC mt pc lv st sh M k n sh9 M9 mc ms := by
  intro p l e s m args below meth c D base stt dA hp H locs ls hP hz hS hbs hl
  obtain ⟨hx, hb, hr, hml, hown, hts, hlk, hin, hK, hNi, hOM, hOS, hOL⟩ := id hp
  exact lv_iinc hx hb hd hl (lvp_get hq) hv hn (lvp_filter h) (fun ls2 hl2 => K p l e s m args below meth c D base stt dA hp H locs ls2 hP hz hS hbs hl2)
theorem c_goto {mt : Mc} {pc : Nat} {lv : List (Nat × Value)} {st : List Value} {sh sh9 : Shp} {M M9 : Mem} {k n mc ms : Nat} {off : Int} {tgt : Nat} (hd : decode mt.2.1 pc = .ok (.goto off, 3)) (ht : (pc : Int) + off = (tgt : Int)) (K : JC mt tgt lv st sh M k n sh9 M9 mc ms) : JC mt pc lv st sh M k n sh9 M9 mc ms := by
  intro p l e s m args below meth c D base stt dA hp H locs ls hP hz hS hbs hl
  obtain ⟨hx, hb, hr, hml, hown, hts, hlk, hin, hK, hNi, hOM, hOS, hOL⟩ := id hp
  exact lv_goto hx hb hd ht (K p l e s m args below meth c D base stt dA hp H locs ls hP hz hS hbs hl)
theorem c_ge_t {mt : Mc} {pc : Nat} {lv : List (Nat × Value)} {st : List Value} {sh sh9 : Shp} {M M9 : Mem} {k n mc ms : Nat} {x y : Int32} {off : Int} {tgt : Nat} (hd : decode mt.2.1 pc = .ok (.if_icmp .ge off, 3)) (ht : (pc : Int) + off = (tgt : Int)) (hc : y ≤ x) (K : JC mt tgt lv st sh M k n sh9 M9 mc ms) : JC mt pc lv (.int y :: .int x :: st) sh M k n sh9 M9 mc ms := by
  intro p l e s m args below meth c D base stt dA hp H locs ls hP hz hS hbs hl
  obtain ⟨hx, hb, hr, hml, hown, hts, hlk, hin, hK, hNi, hOM, hOS, hOL⟩ := id hp
  exact lv_icmp_ge hx hb hd ht (fun _ => (K p l e s m args below meth c D base stt dA hp H locs ls hP hz hS hbs hl)) (fun h => absurd hc h)
theorem c_ge_f {mt : Mc} {pc : Nat} {lv : List (Nat × Value)} {st : List Value} {sh sh9 : Shp} {M M9 : Mem} {k n mc ms : Nat} {x y : Int32} {off : Int} {tgt : Nat} (hd : decode mt.2.1 pc = .ok (.if_icmp .ge off, 3)) (ht : (pc : Int) + off = (tgt : Int)) (hc : ¬ y ≤ x) (K : JC mt (pc + 3) lv st sh M k n sh9 M9 mc ms) : JC mt pc lv (.int y :: .int x :: st) sh M k n sh9 M9 mc ms := by
  intro p l e s m args below meth c D base stt dA hp H locs ls hP hz hS hbs hl
  obtain ⟨hx, hb, hr, hml, hown, hts, hlk, hin, hK, hNi, hOM, hOS, hOL⟩ := id hp
  exact lv_icmp_ge hx hb hd ht (fun h => absurd h hc) (fun _ => (K p l e s m args below meth c D base stt dA hp H locs ls hP hz hS hbs hl))
theorem c_objInit {mt : Mc} {pc : Nat} {lv : List (Nat × Value)} {st : List Value} {sh sh9 : Shp} {M M9 : Mem} {k n mc ms : Nat} {a i : Nat} (hd : decode mt.2.1 pc = .ok (.invokespecial i, 3)) (hw : Cond.methodLink mt.1 i objectInit ∈ tbl) (hdp : 1 ≤ mt.2.2.2) (hst : (st.map fun v => v.category).sum ≤ 8) (K : JC mt (pc + 3) lv st sh M k n sh9 M9 mc ms) : JC mt pc lv (.ref a :: st) sh M k n sh9 M9 mc ms := by
  intro p l e s m args below meth c D base stt dA hp H locs ls hP hz hS hbs hl
  obtain ⟨hx, hb, hr, hml, hown, hts, hlk, hin, hK, hNi, hOM, hOS, hOL⟩ := id hp
  refine W.objInit hx hb hown (hts _ hw) (hts _ oi_im) (hts _ oi_cd) rfl (hl.1.trans hml.symm) rfl hd hdp ?_ (K p l e s m args below meth c D base stt dA hp H locs ls hP hz hS hbs hl)
  have : ((st.map (rv (adB base stt))).map fun v => v.category).sum ≤ 8 := by rw [rv_cats]; exact hst
  show 2 * 0 + _ + 12 ≤ 64 * mt.2.2.2
  omega
theorem c_getA {mt : Mc} {pc : Nat} {lv : List (Nat × Value)} {st : List Value} {sh sh9 : Shp} {M M9 : Mem} {k n mc ms : Nat} {a b ci f idx : Nat} {ds : List Nat} {ty : FieldType} {fin : Bool} (hd : decode mt.2.1 pc = .ok (.getfield idx, 3)) (hf : Fl mt.1 idx ci f ty fin) (hs : sh[a]? = some (ci, ds)) (hc : ci < 100) (hk : ds[f]? = some (b + 3)) (K : JC mt (pc + 3) lv (.ref b :: st) sh M k n sh9 M9 mc ms) : JC mt pc lv (.ref a :: st) sh M k n sh9 M9 mc ms := by
  intro p l e s m args below meth c D base stt dA hp H locs ls hP hz hS hbs hl
  obtain ⟨hx, hb, hr, hml, hown, hts, hlk, hin, hK, hNi, hOM, hOS, hOL⟩ := id hp
  obtain ⟨C, T, N, ty0, e1, e2, e3, e4, e5, e6, e7, e8, e9⟩ := hf
  have he : (layC (adB base stt) dA sh M)[a]? = some (adB base stt a, .inr (ci, ds.mapIdx (fun i kd => fldC (adB base stt) M a i kd))) := by rw [layC_get hs]; simp [cellC, hc]
  exact va_get (D := (D.1, D.2)) hx hb hts e3 hown hK hP a he e1 f e2 (hts _ e4) (fun x h => by rw [e5] at h; exact h) (objC_get hk) hd (K p l e s m args below meth c D base stt dA hp H locs ls hP hz hS hbs hl)
theorem c_putR {mt : Mc} {pc : Nat} {lv : List (Nat × Value)} {st : List Value} {sh sh9 : Shp} {M M9 : Mem} {k n mc ms : Nat} {a b ci f idx : Nat} {ds : List Nat} {ty : FieldType} (hd : decode mt.2.1 pc = .ok (.putfield idx, 3)) (hf : Fl mt.1 idx ci f ty true) (hnf : ty.isReference = true) (hs : sh[a]? = some (ci, ds)) (hc : ci < 100) (hkl : f < ds.length) (h200 : sh.length ≤ 200) (hcn : ∀ (C : String) (T : u_T) (N : Nat), cl[ci]? = some (C, T, N) → (T f).1 = mt.1) {sh8 : Shp} (hs8 : sh.set a (ci, ds.set f (b + 3)) = sh8) (K : JC mt (pc + 3) lv st sh8 M k n sh9 M9 mc ms) : JC mt pc lv (.ref b :: .ref a :: st) sh M k n sh9 M9 mc ms := by
  subst hs8
  intro p l e s m args below meth c D base stt dA hp H locs ls hP hz hS hbs hl
  obtain ⟨hx, hb, hr, hml, hown, hts, hlk, hin, hK, hNi, hOM, hOS, hOL⟩ := id hp
  obtain ⟨C, T, N, ty0, e1, e2, e3, e4, e5, e6, e7, e8, e9⟩ := hf
  have he : (layC (adB base stt) dA sh M)[a]? = some (adB base stt a, .inr (ci, ds.mapIdx (fun i kd => fldC (adB base stt) M a i kd))) := by rw [layC_get hs]; simp [cellC, hc]
  have hD := layC_D (base := base) (stt := stt) (dA := dA) (sh := sh) (M := M) h200
  have hl9 : a < sh.length := (List.getElem?_eq_some_iff.mp hs).1
  have hset : (layC (adB base stt) dA sh M).set a (adB base stt a, .inr (ci, (ds.mapIdx (fun i kd => fldC (adB base stt) M a i kd)).set f (.ref (adB base stt b)))) = layC (adB base stt) dA (sh.set a (ci, ds.set f (b + 3))) M := by
    refine layC_set hl9 ?_ (fun j hj => ⟨rfl, rfl⟩)
    rw [objC_set (M' := M) (v := .ref (adB base stt b)) (kd := b + 3) hkl rfl (fun j kd2 hj => rfl)]
    simp [cellC, hc]
  have hap := va_apart (own := mt.1) hts e3 ty0 e6 e7 hK e1
  obtain ⟨r, g1, cell, q1, q2, q3, q4⟩ := hP a _ he
  have hr9 : r = (C, T, N) := Option.some.inj (g1.symm.trans e1)
  subst hr9
  obtain ⟨hSl, hfc, kC, hkC, hkind⟩ := hK.1 ci _ e1
  obtain ⟨cf, kf, fi, fd, hi, hsl⟩ := hSl f e2
  have hlay := hts _ (e3 _ (u_in_lay e2))
  unfold u_lay at hlay
  rw [if_pos e9] at hlay
  have hst := (u_facts hfc hkC (u_lays hts e3 e2) hi).1
  have hcf : m.cls = cf := by
    obtain ⟨_, _, c', _, _, _, -, -, hf', -, -, -, hown2, -⟩ := Cond.laysFinal_spec hlay
    have z1 : c' = cf := by have := hi.symm.trans hf'; simp at this; exact this.1.symm
    rw [hcn _ _ _ e1] at hown2
    rw [← z1]; exact Option.some.inj (hown.symm.trans hown2)
  have hn9 : narrow ty (.ref (adB base stt b)) = .ref (adB base stt b) := by cases ty <;> rfl
  have hf9 : fits ty (.ref (adB base stt b)) = true := by cases ty <;> first | rfl | (simp [FieldType.isReference] at hnf)
  have h6 := u_fits hfc hkC hkind (Or.inr hlay) hi e8 hn9 hf9
  have hsame : s.fieldFound? C (T f).2.1 (T f).2.2.1 = some (cf, kf, fi, fd) := by rw [e5] at hi; exact hi
  refine W.putFinK hx hb hown (hts _ e4) hsame hst hcf hin (by rw [q2]; exact h6) q1 q3 (by rw [hsl]; exact k2_hasslot (q4 f e2)) rfl rfl hd fun H' x1 x2 x3 => ?_
  rw [hsl] at x1 ⊢
  have hP1 : va_P D cl ((layC (adB base stt) dA sh M).set a (adB base stt a, .inr (ci, (ds.mapIdx (fun i kd => fldC (adB base stt) M a i kd)).set f (.ref (adB base stt b))))) H' := hP.set hD he ⟨_, e1, t_OB.to (V := updV (vp_V _) f (.ref (adB base stt b))) ⟨_, x1, q2, q3, t_set q4 hap e2 (.ref (adB base stt b))⟩ (fun j _ => vp_updV_set (by rw [List.length_mapIdx]; exact hkl) (.ref (adB base stt b)) j)⟩ x3
  rw [hset] at hP1
  exact K p l e s m args below meth c D base stt dA hp H' _ ls hP1 (by rw [x2, hz, List.length_set]) (hS.put x2 x3 (hD.2 a _ he)) hbs hl
theorem c_putI {mt : Mc} {pc : Nat} {lv : List (Nat × Value)} {st : List Value} {sh sh9 : Shp} {M M9 : Mem} {k n mc ms : Nat} {a ci f idx : Nat} {ds : List Nat} {v : Int32} (hd : decode mt.2.1 pc = .ok (.putfield idx, 3)) (hf : Fl mt.1 idx ci f .int false) (hs : sh[a]? = some (ci, ds)) (hc : ci < 100) (hkl : f < ds.length) (hk0 : ds[f]? = some 0) (h200 : sh.length ≤ 200) (K : JC mt (pc + 3) lv st sh (si M a f v) k n sh9 M9 mc ms) : JC mt pc lv (.int v :: .ref a :: st) sh M k n sh9 M9 mc ms := by
  intro p l e s m args below meth c D base stt dA hp H locs ls hP hz hS hbs hl
  obtain ⟨hx, hb, hr, hml, hown, hts, hlk, hin, hK, hNi, hOM, hOS, hOL⟩ := id hp
  obtain ⟨C, T, N, ty0, e1, e2, e3, e4, e5, e6, e7, e8, e9⟩ := hf
  have he : (layC (adB base stt) dA sh M)[a]? = some (adB base stt a, .inr (ci, ds.mapIdx (fun i kd => fldC (adB base stt) M a i kd))) := by rw [layC_get hs]; simp [cellC, hc]
  have hD := layC_D (base := base) (stt := stt) (dA := dA) (sh := sh) (M := M) h200
  have hl9 : a < sh.length := (List.getElem?_eq_some_iff.mp hs).1
  have hset : (layC (adB base stt) dA sh M).set a (adB base stt a, .inr (ci, (ds.mapIdx (fun i kd => fldC (adB base stt) M a i kd)).set f (.int v))) = layC (adB base stt) dA sh (si M a f v) := by
    have e0 : sh.set a (ci, ds.set f 0) = sh := by
      apply List.ext_getElem?
      intro j
      rw [List.getElem?_set]
      by_cases e : a = j
      · subst e
        rw [if_pos rfl, if_pos hl9, hs]
        congr 2
        apply List.ext_getElem?
        intro i
        rw [List.getElem?_set]
        by_cases e : f = i
        · subst e
          rw [if_pos rfl, if_pos hkl, hk0]
        · rw [if_neg e]
      · rw [if_neg e]
    have h := layC_set (ad := adB base stt) (dA := dA) (sh := sh) (M := M) (M' := si M a f v) (q := (ci, ds.set f 0)) hl9 (x := .inr (ci, (ds.mapIdx (fun i kd => fldC (adB base stt) M a i kd)).set f (.int v))) ?_ (fun j hj => si_off hj)
    · rw [e0] at h
      exact h
    rw [objC_set (M' := si M a f v) (kd := 0) hkl (by simp [fldC, si]) (fun j kd2 hj => by
      match kd2 with
      | 0 => simp [fldC, si, hj]
      | 1 => simp [fldC, si]
      | 2 => rfl
      | r + 3 => rfl)]
    simp [cellC, hc]
  have hap := va_apart (own := mt.1) hts e3 ty0 e6 e7 hK e1
  obtain ⟨r, g1, cell, q1, q2, q3, q4⟩ := hP a _ he
  have hr9 : r = (C, T, N) := Option.some.inj (g1.symm.trans e1)
  subst hr9
  obtain ⟨hSl, hfc, kC, hkC, hkind⟩ := hK.1 ci _ e1
  obtain ⟨cf, kf, fi, fd, hi, hsl⟩ := hSl f e2
  have hlay := hts _ (e3 _ (u_in_lay e2))
  unfold u_lay at hlay
  rw [if_neg (by rw [e9]; decide)] at hlay
  have hst := (u_facts hfc hkC (u_lays hts e3 e2) hi).1
  have h6 := u_store hfc hkC hkind hlay hi e8 (show narrow .int (.int v) = .int v from rfl) rfl
  have hsame : s.fieldFound? C (T f).2.1 (T f).2.2.1 = some (cf, kf, fi, fd) := by rw [e5] at hi; exact hi
  refine W.putK hx hb (f := fd) ⟨hown, hts _ e4, ⟨_, _, _, hsame⟩, hst⟩ (by rw [q2]; exact h6) q1 q3 (by rw [hsl]; exact k2_hasslot (q4 f e2)) rfl rfl hd fun H' x1 x2 x3 => ?_
  rw [hsl] at x1 ⊢
  have hP1 : va_P D cl ((layC (adB base stt) dA sh M).set a (adB base stt a, .inr (ci, (ds.mapIdx (fun i kd => fldC (adB base stt) M a i kd)).set f (.int v)))) H' := hP.set hD he ⟨_, e1, t_OB.to (V := updV (vp_V _) f (.int v)) ⟨_, x1, q2, q3, t_set q4 hap e2 (.int v)⟩ (fun j _ => vp_updV_set (by rw [List.length_mapIdx]; exact hkl) (.int v) j)⟩ x3
  rw [hset] at hP1
  exact K p l e s m args below meth c D base stt dA hp H' _ ls hP1 (by rw [x2, hz]) (hS.put x2 x3 (hD.2 a _ he)) hbs hl
theorem c_new {mt : Mc} {pc : Nat} {lv : List (Nat × Value)} {st : List Value} {sh sh9 : Shp} {M M9 : Mem} {k n mc ms : Nat} {ci i N : Nat} {C : String} {T : u_T} {ty : Nat → FieldType} {ds : List Nat} (hd : decode mt.2.1 pc = .ok (.new i, 3)) (hcl : cl[ci]? = some (C, T, N)) (hc : ci < 100) (hin9 : ∀ w ∈ u_ws C T N, w ∈ tbl) (hty : ∀ k, k < N → parseFieldDescriptor (T k).2.2.1 = some (ty k)) (hwl : Cond.classLink mt.1 i C ∈ tbl) (hwi : Cond.instantiable C N ∈ tbl) (hwn : Cond.initialized C ∈ tbl) (hds : ∀ ad : Nat → Nat, ∀ j, j < N → defaultValue (ty j) = vp_V (ds.mapIdx (fun i kd => fldC ad zM 0 i kd)) j) (hM : M.1 sh.length = (fun _ => 0) ∧ M.2 sh.length = (fun _ => 0)) (hk : k + 1 ≤ mc) (hn : n + N ≤ ms) (h2 : sh.length < 200) {a9 : Nat} {sh8 : Shp} (ha9 : sh.length = a9) (hs8 : sh ++ [(ci, ds)] = sh8) (K : JC mt (pc + 3) lv (.ref a9 :: st) sh8 M (k + 1) (n + N) sh9 M9 mc ms) : JC mt pc lv st sh M k n sh9 M9 mc ms := by
  subst ha9
  subst hs8
  intro p l e s m args below meth c D base stt dA hp H locs ls hP hz hS hbs hl
  obtain ⟨hx, hb, hr, hml, hown, hts, hlk, hin, hK, hNi, hOM, hOS, hOL⟩ := id hp
  have hKn := hK.1 ci _ hcl
  refine W.newcK hx hb hown (hts _ hwl) (hts _ hwi) (hts _ hwn) rfl hd hk hn hKn.2.1 rfl fun H1 kC hkC e1 z1 o1 => ?_
  have ea : adB base stt sh.length = H.size := by unfold adB; rw [if_pos h2, hz]
  have hk9 : ∀ (k : Nat) (x : Nat × va_E), (layC (adB base stt) dA sh M)[k]? = some x → H1[x.1]? = H[x.1]? := fun k x hx => o1 x.1 ((hP k x hx).lt)
  have hP1 : va_P D cl (layC (adB base stt) dA (sh ++ [(ci, ds)]) M) H1 := by
    rw [layC_app]
    refine (hP.kept hk9).app (fun k x hx => ?_)
    have hz : k < 1 := (List.getElem?_eq_some_iff.mp hx).1
    rw [show k = 0 by omega] at hx
    cases hx
    have ec : cellC (adB base stt) dA M sh.length (ci, ds) = .inr (ci, ds.mapIdx (fun i kd => fldC (adB base stt) zM 0 i kd)) := by
      rw [cellC_off (M := zM) hM.1 hM.2]
      simp only [cellC, hc, if_true]
      congr 2
    rw [ec, ea]
    exact ⟨_, hcl, (u_born ty hts hin9 hKn hkC e1 hty).to (hds _)⟩
  have hk2 := K p l e s m args below meth c D base stt dA hp H1 locs ls hP1 (by rw [z1, hz, List.length_append]; rfl) ⟨Nat.le_trans hS.1 (by omega), fun x h1 h2 => (o1 x (Nat.lt_of_lt_of_le h1 hS.1)).trans (hS.2.1 x h1 h2), hS.2.2⟩ hbs hl
  rw [← ea]
  exact hk2
theorem c_newaI {mt : Mc} {pc : Nat} {lv : List (Nat × Value)} {st : List Value} {sh sh9 : Shp} {M M9 : Mem} {k n mc ms : Nat} {i : Int32} {N : Nat} (hd : decode mt.2.1 pc = .ok (.newarray .int, 2)) (hi : ¬ i < 0) (hN : i.toNatClampNeg = N) (hw : Cond.arrayClass .int ∈ tbl) (hby : N ≤ 60000000) (hM : M.1 sh.length = (fun _ => 0) ∧ M.2 sh.length = (fun _ => 0)) (hk : k + 1 ≤ mc) (hn : n + N ≤ ms) (h2 : sh.length < 200) {a9 : Nat} {sh8 : Shp} (ha9 : sh.length = a9) (hs8 : sh ++ [(100, [N])] = sh8) (K : JC mt (pc + 2) lv (.ref a9 :: st) sh8 M (k + 1) (n + N) sh9 M9 mc ms) : JC mt pc lv (.int i :: st) sh M k n sh9 M9 mc ms := by
  subst ha9
  subst hs8
  intro p l e s m args below meth c D base stt dA hp H locs ls hP hz hS hbs hl
  obtain ⟨hx, hb, hr, hml, hown, hts, hlk, hin, hK, hNi, hOM, hOS, hOL⟩ := id hp
  refine va_newaK (atype := .int) hx hb (hts _ hw) rfl hd rfl hi hN (by show N * 4 ≤ 536870912; omega) hk hn rfl fun H1 cA e1 z1 o1 hAr hNm => ?_
  have ea : adB base stt sh.length = H.size := by unfold adB; rw [if_pos h2, hz]
  have hk9 : ∀ (k : Nat) (x : Nat × va_E), (layC (adB base stt) dA sh M)[k]? = some x → H1[x.1]? = H[x.1]? := fun k x hx => o1 x.1 ((hP k x hx).lt)
  have ecA : cA = dA 0 := Option.some.inj (hNm.symm.trans (hK.2 0 _ rfl).2)
  have hP1 : va_P D cl (layC (adB base stt) dA (sh ++ [(100, [N])]) M) H1 := by
    rw [layC_app]
    refine (hP.kept hk9).app (fun k x hx => ?_)
    have hz : k < 1 := (List.getElem?_eq_some_iff.mp hx).1
    rw [show k = 0 by omega] at hx
    cases hx
    rw [ea]
    show H1[H.size]? = some (vp_cell _ _)
    rw [e1, ecA]
    show _ = some (arrV (dA 0) N (fun j => .int (M.1 sh.length j)))
    rw [hM.1]
    rfl
  have hk2 := K p l e s m args below meth c D base stt dA hp H1 locs ls hP1 (by rw [z1, hz, List.length_append]; rfl) ⟨Nat.le_trans hS.1 (by omega), fun x h1 h2 => (o1 x (Nat.lt_of_lt_of_le h1 hS.1)).trans (hS.2.1 x h1 h2), hS.2.2⟩ hbs hl
  rw [← ea]
  exact hk2
theorem c_newaB {mt : Mc} {pc : Nat} {lv : List (Nat × Value)} {st : List Value} {sh sh9 : Shp} {M M9 : Mem} {k n mc ms : Nat} {i : Int32} {N : Nat} (hd : decode mt.2.1 pc = .ok (.newarray .byte, 2)) (hi : ¬ i < 0) (hN : i.toNatClampNeg = N) (hw : Cond.arrayClass .byte ∈ tbl) (hby : N ≤ 60000000) (hM : M.1 sh.length = (fun _ => 0) ∧ M.2 sh.length = (fun _ => 0)) (hk : k + 1 ≤ mc) (hn : n + N ≤ ms) (h2 : sh.length < 200) {a9 : Nat} {sh8 : Shp} (ha9 : sh.length = a9) (hs8 : sh ++ [(101, [N])] = sh8) (K : JC mt (pc + 2) lv (.ref a9 :: st) sh8 M (k + 1) (n + N) sh9 M9 mc ms) : JC mt pc lv (.int i :: st) sh M k n sh9 M9 mc ms := by
  subst ha9
  subst hs8
  intro p l e s m args below meth c D base stt dA hp H locs ls hP hz hS hbs hl
  obtain ⟨hx, hb, hr, hml, hown, hts, hlk, hin, hK, hNi, hOM, hOS, hOL⟩ := id hp
  refine va_newaK (atype := .byte) hx hb (hts _ hw) rfl hd rfl hi hN (by show N * 1 ≤ 536870912; omega) hk hn rfl fun H1 cA e1 z1 o1 hAr hNm => ?_
  have ea : adB base stt sh.length = H.size := by unfold adB; rw [if_pos h2, hz]
  have hk9 : ∀ (k : Nat) (x : Nat × va_E), (layC (adB base stt) dA sh M)[k]? = some x → H1[x.1]? = H[x.1]? := fun k x hx => o1 x.1 ((hP k x hx).lt)
  have ecA : cA = dA 1 := Option.some.inj (hNm.symm.trans (hK.2 1 _ rfl).2)
  have hP1 : va_P D cl (layC (adB base stt) dA (sh ++ [(101, [N])]) M) H1 := by
    rw [layC_app]
    refine (hP.kept hk9).app (fun k x hx => ?_)
    have hz : k < 1 := (List.getElem?_eq_some_iff.mp hx).1
    rw [show k = 0 by omega] at hx
    cases hx
    rw [ea]
    show H1[H.size]? = some (vp_cell _ _)
    rw [e1, ecA]
    show _ = some (arrV (dA 1) N (fun j => .int (M.1 sh.length j)))
    rw [hM.1]
    rfl
  have hk2 := K p l e s m args below meth c D base stt dA hp H1 locs ls hP1 (by rw [z1, hz, List.length_append]; rfl) ⟨Nat.le_trans hS.1 (by omega), fun x h1 h2 => (o1 x (Nat.lt_of_lt_of_le h1 hS.1)).trans (hS.2.1 x h1 h2), hS.2.2⟩ hbs hl
  rw [← ea]
  exact hk2
theorem c_newaZ {mt : Mc} {pc : Nat} {lv : List (Nat × Value)} {st : List Value} {sh sh9 : Shp} {M M9 : Mem} {k n mc ms : Nat} {i : Int32} {N : Nat} (hd : decode mt.2.1 pc = .ok (.newarray .boolean, 2)) (hi : ¬ i < 0) (hN : i.toNatClampNeg = N) (hw : Cond.arrayClass .boolean ∈ tbl) (hby : N ≤ 60000000) (hM : M.1 sh.length = (fun _ => 0) ∧ M.2 sh.length = (fun _ => 0)) (hk : k + 1 ≤ mc) (hn : n + N ≤ ms) (h2 : sh.length < 200) {a9 : Nat} {sh8 : Shp} (ha9 : sh.length = a9) (hs8 : sh ++ [(102, [N])] = sh8) (K : JC mt (pc + 2) lv (.ref a9 :: st) sh8 M (k + 1) (n + N) sh9 M9 mc ms) : JC mt pc lv (.int i :: st) sh M k n sh9 M9 mc ms := by
  subst ha9
  subst hs8
  intro p l e s m args below meth c D base stt dA hp H locs ls hP hz hS hbs hl
  obtain ⟨hx, hb, hr, hml, hown, hts, hlk, hin, hK, hNi, hOM, hOS, hOL⟩ := id hp
  refine va_newaK (atype := .boolean) hx hb (hts _ hw) rfl hd rfl hi hN (by show N * 1 ≤ 536870912; omega) hk hn rfl fun H1 cA e1 z1 o1 hAr hNm => ?_
  have ea : adB base stt sh.length = H.size := by unfold adB; rw [if_pos h2, hz]
  have hk9 : ∀ (k : Nat) (x : Nat × va_E), (layC (adB base stt) dA sh M)[k]? = some x → H1[x.1]? = H[x.1]? := fun k x hx => o1 x.1 ((hP k x hx).lt)
  have ecA : cA = dA 2 := Option.some.inj (hNm.symm.trans (hK.2 2 _ rfl).2)
  have hP1 : va_P D cl (layC (adB base stt) dA (sh ++ [(102, [N])]) M) H1 := by
    rw [layC_app]
    refine (hP.kept hk9).app (fun k x hx => ?_)
    have hz : k < 1 := (List.getElem?_eq_some_iff.mp hx).1
    rw [show k = 0 by omega] at hx
    cases hx
    rw [ea]
    show H1[H.size]? = some (vp_cell _ _)
    rw [e1, ecA]
    show _ = some (arrV (dA 2) N (fun j => .int (M.1 sh.length j)))
    rw [hM.1]
    rfl
  have hk2 := K p l e s m args below meth c D base stt dA hp H1 locs ls hP1 (by rw [z1, hz, List.length_append]; rfl) ⟨Nat.le_trans hS.1 (by omega), fun x h1 h2 => (o1 x (Nat.lt_of_lt_of_le h1 hS.1)).trans (hS.2.1 x h1 h2), hS.2.2⟩ hbs hl
  rw [← ea]
  exact hk2
theorem c_newaL {mt : Mc} {pc : Nat} {lv : List (Nat × Value)} {st : List Value} {sh sh9 : Shp} {M M9 : Mem} {k n mc ms : Nat} {i : Int32} {N : Nat} (hd : decode mt.2.1 pc = .ok (.newarray .long, 2)) (hi : ¬ i < 0) (hN : i.toNatClampNeg = N) (hw : Cond.arrayClass .long ∈ tbl) (hby : N ≤ 60000000) (hM : M.1 sh.length = (fun _ => 0) ∧ M.2 sh.length = (fun _ => 0)) (hk : k + 1 ≤ mc) (hn : n + N ≤ ms) (h2 : sh.length < 200) {a9 : Nat} {sh8 : Shp} (ha9 : sh.length = a9) (hs8 : sh ++ [(103, [N])] = sh8) (K : JC mt (pc + 2) lv (.ref a9 :: st) sh8 M (k + 1) (n + N) sh9 M9 mc ms) : JC mt pc lv (.int i :: st) sh M k n sh9 M9 mc ms := by
  subst ha9
  subst hs8
  intro p l e s m args below meth c D base stt dA hp H locs ls hP hz hS hbs hl
  obtain ⟨hx, hb, hr, hml, hown, hts, hlk, hin, hK, hNi, hOM, hOS, hOL⟩ := id hp
  refine va_newaK (atype := .long) hx hb (hts _ hw) rfl hd rfl hi hN (by show N * 8 ≤ 536870912; omega) hk hn rfl fun H1 cA e1 z1 o1 hAr hNm => ?_
  have ea : adB base stt sh.length = H.size := by unfold adB; rw [if_pos h2, hz]
  have hk9 : ∀ (k : Nat) (x : Nat × va_E), (layC (adB base stt) dA sh M)[k]? = some x → H1[x.1]? = H[x.1]? := fun k x hx => o1 x.1 ((hP k x hx).lt)
  have ecA : cA = dA 3 := Option.some.inj (hNm.symm.trans (hK.2 3 _ rfl).2)
  have hP1 : va_P D cl (layC (adB base stt) dA (sh ++ [(103, [N])]) M) H1 := by
    rw [layC_app]
    refine (hP.kept hk9).app (fun k x hx => ?_)
    have hz : k < 1 := (List.getElem?_eq_some_iff.mp hx).1
    rw [show k = 0 by omega] at hx
    cases hx
    rw [ea]
    show H1[H.size]? = some (vp_cell _ _)
    rw [e1, ecA]
    show _ = some (arrV (dA 3) N (fun j => .long (M.2 sh.length j)))
    rw [hM.2]
    rfl
  have hk2 := K p l e s m args below meth c D base stt dA hp H1 locs ls hP1 (by rw [z1, hz, List.length_append]; rfl) ⟨Nat.le_trans hS.1 (by omega), fun x h1 h2 => (o1 x (Nat.lt_of_lt_of_le h1 hS.1)).trans (hS.2.1 x h1 h2), hS.2.2⟩ hbs hl
  rw [← ea]
  exact hk2
theorem c_anewM {mt : Mc} {pc : Nat} {lv : List (Nat × Value)} {st : List Value} {sh sh9 : Shp} {M M9 : Mem} {k n mc ms : Nat} {i : Int32} {N idx : Nat} (hd : decode mt.2.1 pc = .ok (.anewarray idx, 3)) (hi : ¬ i < 0) (hN : i.toNatClampNeg = N) (hw : Cond.classLink mt.1 idx "ShakeHands$Minds" ∈ tbl) (hby : N ≤ 60000000) (hk : k + 1 ≤ mc) (hn : n + N ≤ ms) (h2 : sh.length < 200) {a9 : Nat} {sh8 : Shp} (ha9 : sh.length = a9) (hs8 : sh ++ [(104, List.replicate N 0)] = sh8) (K : JC mt (pc + 3) lv (.ref a9 :: st) sh8 M (k + 1) (n + N) sh9 M9 mc ms) : JC mt pc lv (.int i :: st) sh M k n sh9 M9 mc ms := by
  subst ha9
  subst hs8
  intro p l e s m args below meth c D base stt dA hp H locs ls hP hz hS hbs hl
  obtain ⟨hx, hb, hr, hml, hown, hts, hlk, hin, hK, hNi, hOM, hOS, hOL⟩ := id hp
  subst hN
  refine W.anew hx hb hown (hts _ hw) (va_AO.use hOM) rfl hd rfl hi (by omega) hk hn fun cA kA comp f1 f2 f3 f4 => ?_
  generalize hH1 : H.push ({ cls := cA, slots := Array.replicate i.toNatClampNeg .null, vm := .none } : Cell) = H1
  have z1 : H1.size = H.size + 1 := by rw [← hH1, Array.size_push]
  have e1 : H1[H.size]? = some (arrV cA i.toNatClampNeg (fun _ => .null)) := by rw [← hH1, Array.getElem?_push_size, ← arrV_new]
  have o1 : ∀ q : Nat, q < H.size → H1[q]? = H[q]? := fun q hq => by rw [← hH1, Array.getElem?_push, if_neg (Nat.ne_of_lt hq)]
  have ea : adB base stt sh.length = H.size := by unfold adB; rw [if_pos h2, hz]
  have hk9 : ∀ (k : Nat) (x : Nat × va_E), (layC (adB base stt) dA sh M)[k]? = some x → H1[x.1]? = H[x.1]? := fun k x hx => o1 x.1 ((hP k x hx).lt)
  have ecA : cA = dA 4 := by
    obtain ⟨kB, cB, g1, g2, g3, g4⟩ := (hK.2 4 _ rfl).2
    exact Option.some.inj (f1.symm.trans g4)
  have hP1 : va_P D cl (layC (adB base stt) dA (sh ++ [(104, List.replicate i.toNatClampNeg 0)]) M) H1 := by
    rw [layC_app]
    refine (hP.kept hk9).app (fun k x hx => ?_)
    have hz : k < 1 := (List.getElem?_eq_some_iff.mp hx).1
    rw [show k = 0 by omega] at hx
    cases hx
    rw [ea]
    show H1[H.size]? = some (vp_cell (dA 4) ((List.replicate i.toNatClampNeg 0).length, .inr (.inr (.inr (.inr (rfC (adB base stt) (List.replicate i.toNatClampNeg 0)))))))
    rw [vp_cell_q, e1, ecA, List.length_replicate]
    congr 2
    funext j
    have : rfC (adB base stt) (List.replicate i.toNatClampNeg 0) j = none := by
      unfold rfC
      by_cases h : j < i.toNatClampNeg
      · simp [h]
      · simp [h]
    rw [this]
    rfl
  have hk2 := K p l e s m args below meth c D base stt dA hp H1 locs ls hP1 (by rw [z1, hz, List.length_append]; rfl) ⟨Nat.le_trans hS.1 (by omega), fun x h1 h2 => (o1 x (Nat.lt_of_lt_of_le h1 hS.1)).trans (hS.2.1 x h1 h2), hS.2.2⟩ hbs hl
  rw [← ea]
  exact hk2
theorem c_aastM {mt : Mc} {pc : Nat} {lv : List (Nat × Value)} {st : List Value} {sh sh9 : Shp} {M M9 : Mem} {k n mc ms : Nat} {i : Int32} {a b ci : Nat} {ids vs : List Nat} {T : u_T} {N : Nat} (hd : decode mt.2.1 pc = .ok (.aastore, 1)) (hs : sh[a]? = some (104, ids)) (hb9 : sh[b]? = some (ci, vs)) (hc : ci < 100) (hcl : cl[ci]? = some ("ShakeHands$Minds", T, N)) (hi : vp_in i ids.length) (h200 : sh.length ≤ 200) {sh8 : Shp} (hs8 : sh.set a (104, ids.set i.toNatClampNeg (b + 1)) = sh8) (K : JC mt (pc + 1) lv st sh8 M k n sh9 M9 mc ms) : JC mt pc lv (.ref b :: .int i :: .ref a :: st) sh M k n sh9 M9 mc ms := by
  subst hs8
  intro p l e s m args below meth c D base stt dA hp H locs ls hP hz hS hbs hl
  obtain ⟨hx, hb, hr, hml, hown, hts, hlk, hin, hK, hNi, hOM, hOS, hOL⟩ := id hp
  have hlt : i.toNatClampNeg < ids.length := Nat.not_le.mp fun q => hi (Or.inr q)
  have h0 : ¬ i < 0 := fun q => hi (Or.inl q)
  have hD := layC_D (base := base) (stt := stt) (dA := dA) (sh := sh) (M := M) h200
  have hl9 : a < sh.length := (List.getElem?_eq_some_iff.mp hs).1
  have ha : (layC (adB base stt) dA sh M)[a]? = some (adB base stt a, .inl (dA 4, ids.length, .inr (.inr (.inr (.inr (rfC (adB base stt) ids)))))) := layC_get hs
  have hv : (layC (adB base stt) dA sh M)[b]? = some (adB base stt b, .inr (ci, vs.mapIdx (fun i kd => fldC (adB base stt) M b i kd))) := by rw [layC_get hb9]; simp [cellC, hc]
  obtain ⟨r', hr', cellV, g1, g2, g3, -⟩ := hP b _ hv
  have hcls := (hK.1 ci _ hcl).2
  obtain ⟨kA, comp, k1, k2, k3, -⟩ := (hK.2 4 _ rfl).2
  have hcomp : comp = D.1 ci := Option.some.inj (k3.symm.trans hcls.1)
  subst hcomp
  obtain ⟨kC, hkC, -⟩ := hcls.2
  have hset : (layC (adB base stt) dA sh M).set a (adB base stt a, .inl (dA 4, ids.length, .inr (.inr (.inr (.inr (rfC (adB base stt) (ids.set i.toNatClampNeg (b + 1)))))))) = layC (adB base stt) dA (sh.set a (104, ids.set i.toNatClampNeg (b + 1))) M := by
    refine layC_set hl9 ?_ (fun j hj => ⟨rfl, rfl⟩)
    have e : (ids.set i.toNatClampNeg (b + 1)).length = ids.length := List.length_set
    show _ = va_E_inl (dA 4) (ids.set i.toNatClampNeg (b + 1)).length _
    rw [e]
  refine W.aast hx hb (hP a _ ha) (fun q h => by cases h) (fun h => by cases h) k1 k2 rfl hkC ⟨h0, by show _ < (arrV _ _ _).slots.size; rw [arrV_size]; exact hlt⟩ g1 (fun q h => by rw [g3] at h; cases h) (by rw [g2]; exact hkC) (by rw [g2]; exact va_assign hcls) rfl rfl hd fun H1 he9 z oq => ?_
  have hP1 : va_P D cl ((layC (adB base stt) dA sh M).set a (adB base stt a, .inl (dA 4, ids.length, .inr (.inr (.inr (.inr (rfC (adB base stt) (ids.set i.toNatClampNeg (b + 1))))))))) H1 := by
    refine hP.set hD ha ?_ oq
    show H1[adB base stt a]? = some (vp_cell _ _)
    rw [he9]
    rw [vp_cell_q, vp_cell_q, arrV_store]
    congr 2
    funext q
    by_cases hq : q = i.toNatClampNeg
    · subst hq
      simp [updV, va_rf, rfC, List.getElem?_set, hlt]
    · have hq2 : ¬ i.toNatClampNeg = q := fun h => hq h.symm
      simp [updV, va_rf, rfC, List.getElem?_set, hq, hq2]
  rw [hset] at hP1
  exact K p l e s m args below meth c D base stt dA hp H1 _ ls hP1 (by rw [z, hz, List.length_set]) (hS.put z oq (hD.2 a _ ha)) hbs hl
theorem c_anewS {mt : Mc} {pc : Nat} {lv : List (Nat × Value)} {st : List Value} {sh sh9 : Shp} {M M9 : Mem} {k n mc ms : Nat} {i : Int32} {N idx : Nat} (hd : decode mt.2.1 pc = .ok (.anewarray idx, 3)) (hi : ¬ i < 0) (hN : i.toNatClampNeg = N) (hw : Cond.classLink mt.1 idx "ShakeHands$Sheet" ∈ tbl) (hby : N ≤ 60000000) (hk : k + 1 ≤ mc) (hn : n + N ≤ ms) (h2 : sh.length < 200) {a9 : Nat} {sh8 : Shp} (ha9 : sh.length = a9) (hs8 : sh ++ [(105, List.replicate N 0)] = sh8) (K : JC mt (pc + 3) lv (.ref a9 :: st) sh8 M (k + 1) (n + N) sh9 M9 mc ms) : JC mt pc lv (.int i :: st) sh M k n sh9 M9 mc ms := by
  subst ha9
  subst hs8
  intro p l e s m args below meth c D base stt dA hp H locs ls hP hz hS hbs hl
  obtain ⟨hx, hb, hr, hml, hown, hts, hlk, hin, hK, hNi, hOM, hOS, hOL⟩ := id hp
  subst hN
  refine W.anew hx hb hown (hts _ hw) (va_AO.use hOS) rfl hd rfl hi (by omega) hk hn fun cA kA comp f1 f2 f3 f4 => ?_
  generalize hH1 : H.push ({ cls := cA, slots := Array.replicate i.toNatClampNeg .null, vm := .none } : Cell) = H1
  have z1 : H1.size = H.size + 1 := by rw [← hH1, Array.size_push]
  have e1 : H1[H.size]? = some (arrV cA i.toNatClampNeg (fun _ => .null)) := by rw [← hH1, Array.getElem?_push_size, ← arrV_new]
  have o1 : ∀ q : Nat, q < H.size → H1[q]? = H[q]? := fun q hq => by rw [← hH1, Array.getElem?_push, if_neg (Nat.ne_of_lt hq)]
  have ea : adB base stt sh.length = H.size := by unfold adB; rw [if_pos h2, hz]
  have hk9 : ∀ (k : Nat) (x : Nat × va_E), (layC (adB base stt) dA sh M)[k]? = some x → H1[x.1]? = H[x.1]? := fun k x hx => o1 x.1 ((hP k x hx).lt)
  have ecA : cA = dA 5 := by
    obtain ⟨kB, cB, g1, g2, g3, g4⟩ := (hK.2 5 _ rfl).2
    exact Option.some.inj (f1.symm.trans g4)
  have hP1 : va_P D cl (layC (adB base stt) dA (sh ++ [(105, List.replicate i.toNatClampNeg 0)]) M) H1 := by
    rw [layC_app]
    refine (hP.kept hk9).app (fun k x hx => ?_)
    have hz : k < 1 := (List.getElem?_eq_some_iff.mp hx).1
    rw [show k = 0 by omega] at hx
    cases hx
    rw [ea]
    show H1[H.size]? = some (vp_cell (dA 5) ((List.replicate i.toNatClampNeg 0).length, .inr (.inr (.inr (.inr (rfC (adB base stt) (List.replicate i.toNatClampNeg 0)))))))
    rw [vp_cell_q, e1, ecA, List.length_replicate]
    congr 2
    funext j
    have : rfC (adB base stt) (List.replicate i.toNatClampNeg 0) j = none := by
      unfold rfC
      by_cases h : j < i.toNatClampNeg
      · simp [h]
      · simp [h]
    rw [this]
    rfl
  have hk2 := K p l e s m args below meth c D base stt dA hp H1 locs ls hP1 (by rw [z1, hz, List.length_append]; rfl) ⟨Nat.le_trans hS.1 (by omega), fun x h1 h2 => (o1 x (Nat.lt_of_lt_of_le h1 hS.1)).trans (hS.2.1 x h1 h2), hS.2.2⟩ hbs hl
  rw [← ea]
  exact hk2
theorem c_aastS {mt : Mc} {pc : Nat} {lv : List (Nat × Value)} {st : List Value} {sh sh9 : Shp} {M M9 : Mem} {k n mc ms : Nat} {i : Int32} {a b ci : Nat} {ids vs : List Nat} {T : u_T} {N : Nat} (hd : decode mt.2.1 pc = .ok (.aastore, 1)) (hs : sh[a]? = some (105, ids)) (hb9 : sh[b]? = some (ci, vs)) (hc : ci < 100) (hcl : cl[ci]? = some ("ShakeHands$Sheet", T, N)) (hi : vp_in i ids.length) (h200 : sh.length ≤ 200) {sh8 : Shp} (hs8 : sh.set a (105, ids.set i.toNatClampNeg (b + 1)) = sh8) (K : JC mt (pc + 1) lv st sh8 M k n sh9 M9 mc ms) : JC mt pc lv (.ref b :: .int i :: .ref a :: st) sh M k n sh9 M9 mc ms := by
  subst hs8
  intro p l e s m args below meth c D base stt dA hp H locs ls hP hz hS hbs hl
  obtain ⟨hx, hb, hr, hml, hown, hts, hlk, hin, hK, hNi, hOM, hOS, hOL⟩ := id hp
  have hlt : i.toNatClampNeg < ids.length := Nat.not_le.mp fun q => hi (Or.inr q)
  have h0 : ¬ i < 0 := fun q => hi (Or.inl q)
  have hD := layC_D (base := base) (stt := stt) (dA := dA) (sh := sh) (M := M) h200
  have hl9 : a < sh.length := (List.getElem?_eq_some_iff.mp hs).1
  have ha : (layC (adB base stt) dA sh M)[a]? = some (adB base stt a, .inl (dA 5, ids.length, .inr (.inr (.inr (.inr (rfC (adB base stt) ids)))))) := layC_get hs
  have hv : (layC (adB base stt) dA sh M)[b]? = some (adB base stt b, .inr (ci, vs.mapIdx (fun i kd => fldC (adB base stt) M b i kd))) := by rw [layC_get hb9]; simp [cellC, hc]
  obtain ⟨r', hr', cellV, g1, g2, g3, -⟩ := hP b _ hv
  have hcls := (hK.1 ci _ hcl).2
  obtain ⟨kA, comp, k1, k2, k3, -⟩ := (hK.2 5 _ rfl).2
  have hcomp : comp = D.1 ci := Option.some.inj (k3.symm.trans hcls.1)
  subst hcomp
  obtain ⟨kC, hkC, -⟩ := hcls.2
  have hset : (layC (adB base stt) dA sh M).set a (adB base stt a, .inl (dA 5, ids.length, .inr (.inr (.inr (.inr (rfC (adB base stt) (ids.set i.toNatClampNeg (b + 1)))))))) = layC (adB base stt) dA (sh.set a (105, ids.set i.toNatClampNeg (b + 1))) M := by
    refine layC_set hl9 ?_ (fun j hj => ⟨rfl, rfl⟩)
    have e : (ids.set i.toNatClampNeg (b + 1)).length = ids.length := List.length_set
    show _ = va_E_inl (dA 5) (ids.set i.toNatClampNeg (b + 1)).length _
    rw [e]
  refine W.aast hx hb (hP a _ ha) (fun q h => by cases h) (fun h => by cases h) k1 k2 rfl hkC ⟨h0, by show _ < (arrV _ _ _).slots.size; rw [arrV_size]; exact hlt⟩ g1 (fun q h => by rw [g3] at h; cases h) (by rw [g2]; exact hkC) (by rw [g2]; exact va_assign hcls) rfl rfl hd fun H1 he9 z oq => ?_
  have hP1 : va_P D cl ((layC (adB base stt) dA sh M).set a (adB base stt a, .inl (dA 5, ids.length, .inr (.inr (.inr (.inr (rfC (adB base stt) (ids.set i.toNatClampNeg (b + 1))))))))) H1 := by
    refine hP.set hD ha ?_ oq
    show H1[adB base stt a]? = some (vp_cell _ _)
    rw [he9]
    rw [vp_cell_q, vp_cell_q, arrV_store]
    congr 2
    funext q
    by_cases hq : q = i.toNatClampNeg
    · subst hq
      simp [updV, va_rf, rfC, List.getElem?_set, hlt]
    · have hq2 : ¬ i.toNatClampNeg = q := fun h => hq h.symm
      simp [updV, va_rf, rfC, List.getElem?_set, hq, hq2]
  rw [hset] at hP1
  exact K p l e s m args below meth c D base stt dA hp H1 _ ls hP1 (by rw [z, hz, List.length_set]) (hS.put z oq (hD.2 a _ ha)) hbs hl
theorem c_initN {mt : Mc} {pc : Nat} {lv : List (Nat × Value)} {st : List Value} {sh sh9 : Shp} {M M9 : Mem} {k n mc ms : Nat} {mt2 : Mc} {y : MethodName} {idx q a mc2 ms2 : Nat} {as : List Value} {sh2 : Shp} {M2 : Mem} (hd : decode mt.2.1 pc = .ok (.invokespecial idx, 3)) (hct : CtC y mt2 (.ref a :: as) sh M sh2 M2 mc2 ms2) (hw : (mt.1, idx, y) ∈ nestI) (hcd : Cond.code y mt2.2.1 mt2.2.2.1 none ∈ tbl) (hni : y.name = "<init>") (him : Cond.instanceMethod y ∈ tbl) (hini : Cond.initialized y.cls ∈ tbl) (hdn : Dn y q) (hq : as.length = q) (hdp : mt2.2.2.2 + 1 ≤ mt.2.2.2) (hmx : mt2.2.2.1 ≤ 40) (hst : (st.map fun v => v.category).sum ≤ 8) (hk : k + mc2 ≤ mc) (hn : n + ms2 ≤ ms) (K : JC mt (pc + 3) lv st sh2 M2 (k + mc2) (n + ms2) sh9 M9 mc ms) : JC mt pc lv (as.reverse ++ .ref a :: st) sh M k n sh9 M9 mc ms := by
  intro p l e s m args below meth c D base stt dA hp H locs ls hP hz hS hbs hl
  obtain ⟨hx, hb, hr, hml, hown, hts, hlk, hin, hK, hNi, hOM, hOS, hOL⟩ := id hp
  have hR : (rmc mt2.2.2.2 mc2 ms2).frames + 1 ≤ (rmc mt.2.2.2 mc ms).frames ∧ 8 + (mt2.2.2.1 + 11) + (rmc mt2.2.2.2 mc2 ms2).locals ≤ (rmc mt.2.2.2 mc ms).locals := by
    refine ⟨hdp, ?_⟩
    show 8 + (mt2.2.2.1 + 11) + 64 * mt2.2.2.2 ≤ 64 * mt.2.2.2
    omega
  have hM := hct l D base stt dA
  refine wr_callC (rest := st.map (rv (adB base stt))) (va_runIN (As := as.map (rv (adB base stt))) (b := adB base stt a) (Ts := tbl) ⟨hx, hb, hml, hown, hts⟩ hM ⟨va_cnB q hts (good_cons hcd) rfl rfl rfl (hNi _ hw) (hts _ hini) hdn hR, hni, hts _ him⟩ ⟨fun a U g mk q => ⟨q.1, q.2.1, q.2.2.1, q.2.2.2.blind⟩, fun U hU hW => ⟨rfl, by rw [hU]; exact hP, by rw [hU]; exact hz, KC.next ⟨hK, hNi, hOM, hOS, hOL⟩ hW⟩⟩ rfl (by rw [List.length_map]; exact hq) hl.1 ?_ (lv_room (by rw [rv_cats]; exact hst)) hd ⟨hk, hn⟩) hS (fun t H1 locs1 ht hpost hS1 => ?_)
  · show (as.reverse ++ .ref a :: st).map (rv (adB base stt)) = (as.map (rv (adB base stt))).reverse ++ .ref (adB base stt a) :: st.map (rv (adB base stt))
    rw [List.map_append, List.map_reverse]
    rfl
  obtain ⟨hP1, hz1⟩ := hpost
  rw [ht] at hP1 hz1
  exact K p l e s m args below meth c D base stt dA hp H1 locs1 ls hP1 hz1 hS1 hbs hl
theorem c_init {mt : Mc} {pc : Nat} {lv : List (Nat × Value)} {st : List Value} {sh sh9 : Shp} {M M9 : Mem} {k n mc ms : Nat} {mt2 : Mc} {y : MethodName} {idx q a mc2 ms2 : Nat} {as : List Value} {sh2 : Shp} {M2 : Mem} (hd : decode mt.2.1 pc = .ok (.invokespecial idx, 3)) (hct : CtC y mt2 (.ref a :: as) sh M sh2 M2 mc2 ms2) (hw : Cond.methodLink mt.1 idx y ∈ tbl) (hcd : Cond.code y mt2.2.1 mt2.2.2.1 none ∈ tbl) (hni : y.name = "<init>") (him : Cond.instanceMethod y ∈ tbl) (hini : Cond.initialized y.cls ∈ tbl) (hdn : Dn y q) (hq : as.length = q) (hdp : mt2.2.2.2 + 1 ≤ mt.2.2.2) (hmx : mt2.2.2.1 ≤ 40) (hst : (st.map fun v => v.category).sum ≤ 8) (hk : k + mc2 ≤ mc) (hn : n + ms2 ≤ ms) (K : JC mt (pc + 3) lv st sh2 M2 (k + mc2) (n + ms2) sh9 M9 mc ms) : JC mt pc lv (as.reverse ++ .ref a :: st) sh M k n sh9 M9 mc ms := by
  intro p l e s m args below meth c D base stt dA hp H locs ls hP hz hS hbs hl
  obtain ⟨hx, hb, hr, hml, hown, hts, hlk, hin, hK, hNi, hOM, hOS, hOL⟩ := id hp
  have hR : (rmc mt2.2.2.2 mc2 ms2).frames + 1 ≤ (rmc mt.2.2.2 mc ms).frames ∧ 8 + (mt2.2.2.1 + 11) + (rmc mt2.2.2.2 mc2 ms2).locals ≤ (rmc mt.2.2.2 mc ms).locals := by
    refine ⟨hdp, ?_⟩
    show 8 + (mt2.2.2.1 + 11) + 64 * mt2.2.2.2 ≤ 64 * mt.2.2.2
    omega
  have hM := hct l D base stt dA
  refine wr_callC (rest := st.map (rv (adB base stt))) (va_runI (As := as.map (rv (adB base stt))) (b := adB base stt a) (Ts := tbl) ⟨hx, hb, hml, hown, hts⟩ hM (cwI q hts (good_cons hcd) rfl rfl rfl (hts _ hini) (hts _ hw) (hts _ him) hni hdn hR) ⟨fun a U g mk q => ⟨q.1, q.2.1, q.2.2.1, q.2.2.2.blind⟩, fun U hU hW => ⟨rfl, by rw [hU]; exact hP, by rw [hU]; exact hz, KC.next ⟨hK, hNi, hOM, hOS, hOL⟩ hW⟩⟩ rfl (by rw [List.length_map]; exact hq) hl.1 ?_ (lv_room (by rw [rv_cats]; exact hst)) hd ⟨hk, hn⟩) hS (fun t H1 locs1 ht hpost hS1 => ?_)
  · show (as.reverse ++ .ref a :: st).map (rv (adB base stt)) = (as.map (rv (adB base stt))).reverse ++ .ref (adB base stt a) :: st.map (rv (adB base stt))
    rw [List.map_append, List.map_reverse]
    rfl
  obtain ⟨hP1, hz1⟩ := hpost
  rw [ht] at hP1 hz1
  exact K p l e s m args below meth c D base stt dA hp H1 locs1 ls hP1 hz1 hS1 hbs hl
theorem c_return {mt : Mc} {pc : Nat} {lv : List (Nat × Value)} {st : List Value} {sh sh9 : Shp} {M M9 : Mem} {k n mc ms : Nat} (hd : decode mt.2.1 pc = .ok (.return_, 1)) (hk : k ≤ mc) (hn : n ≤ ms) (hsh : sh = sh9) (hMM : M = M9) : JC mt pc lv [] sh M k n sh9 M9 mc ms := by
  intro p l e s m args below meth c D base stt dA hp H locs ls hP hz hS hbs hl
  obtain ⟨hx, hb, hr, hml, hown, hts, hlk, hin, hK, hNi, hOM, hOS, hOL⟩ := id hp
  subst hsh
  subst hMM
  refine W.widen hk hn ?_
  exact W.vret hx hb hr (fun t ht hW => ⟨rfl, by show va_P _ _ _ t.heap ∧ t.heap.size = _; rw [ht]; exact ⟨hP, hz⟩, hS.F ht⟩) hS.2.2 hd
theorem c_sh {mt : Mc} {pc : Nat} {lv : List (Nat × Value)} {st : List Value} {sh sh9 : Shp} {M M9 : Mem} {k n mc ms : Nat} {sh2 : Shp} {M2 : Mem} (h : sh = sh2) (h2 : M = M2) (K : JC mt pc lv st sh2 M2 k n sh9 M9 mc ms) : JC mt pc lv st sh M k n sh9 M9 mc ms := by
  intro p l e s m args below meth c D base stt dA hp H locs ls hP hz hS hbs hl
  obtain ⟨hx, hb, hr, hml, hown, hts, hlk, hin, hK, hNi, hOM, hOS, hOL⟩ := id hp
  subst h; subst h2
  exact (K p l e s m args below meth c D base stt dA hp H locs ls hP hz hS hbs hl)
end
section
/-! new long[n][k]: the outer array and its rows -/
theorem c_mna {mt : Mc} {pc : Nat} {lv : List (Nat × Value)} {st : List Value} {sh sh9 : Shp} {M M9 : Mem} {k n mc ms : Nat} {i j : Int32} {idx : Nat} (hd : decode mt.2.1 pc = .ok (.multianewarray idx 2, 4)) (hw : Cond.classLink mt.1 idx "[[J" ∈ tbl) (hwl : Cond.arrayClass .long ∈ tbl) (hij : i = 7 ∧ j = 6) (hk : k + 8 ≤ mc) (hn : n + 49 ≤ ms) (h2 : sh.length + 8 ≤ 200) {a9 : Nat} {sh8 : Shp} (ha9 : sh.length = a9) (hs8 : sh ++ ((106, [a9 + 2, a9 + 3, a9 + 4, a9 + 5, a9 + 6, a9 + 7, a9 + 8]) :: List.replicate 7 (103, [6])) = sh8) (K : JC mt (pc + 4) lv (.ref a9 :: st) sh8 M (k + 8) (n + 49) sh9 M9 mc ms) : JC mt pc lv (.int j :: .int i :: st) sh M k n sh9 M9 mc ms := sorry
end
section
/-! THE CLASS IS MADE: each constructor's run (written by wip/gen/ctorgen.py) -/
theorem k_s_1206 : (Int16.ofInt 1206).toInt32 = 1206 := by decide
def mtC_ShakeHands : Mc := ("ShakeHands", b_ShakeHands_init, 2, 8)
theorem d_ShakeHands_init_0 : decode b_ShakeHands_init 0 = .ok (.aload_n 0, 1) := by decide +kernel
theorem d_ShakeHands_init_1 : decode b_ShakeHands_init 1 = .ok (.invokespecial 1, 3) := by decide +kernel
theorem d_ShakeHands_init_4 : decode b_ShakeHands_init 4 = .ok (.aload_n 0, 1) := by decide +kernel
theorem d_ShakeHands_init_5 : decode b_ShakeHands_init 5 = .ok (.new 7, 3) := by decide +kernel
theorem d_ShakeHands_init_8 : decode b_ShakeHands_init 8 = .ok (.dup, 1) := by decide +kernel
theorem d_ShakeHands_init_9 : decode b_ShakeHands_init 9 = .ok (.invokespecial 9, 3) := by decide +kernel
theorem d_ShakeHands_init_12 : decode b_ShakeHands_init 12 = .ok (.putfield 10, 3) := by decide +kernel
theorem d_ShakeHands_init_15 : decode b_ShakeHands_init 15 = .ok (.aload_n 0, 1) := by decide +kernel
theorem d_ShakeHands_init_16 : decode b_ShakeHands_init 16 = .ok (.new 16, 3) := by decide +kernel
theorem d_ShakeHands_init_19 : decode b_ShakeHands_init 19 = .ok (.dup, 1) := by decide +kernel
theorem d_ShakeHands_init_20 : decode b_ShakeHands_init 20 = .ok (.aload_n 0, 1) := by decide +kernel
theorem d_ShakeHands_init_21 : decode b_ShakeHands_init 21 = .ok (.getfield 10, 3) := by decide +kernel
theorem d_ShakeHands_init_24 : decode b_ShakeHands_init 24 = .ok (.invokespecial 18, 3) := by decide +kernel
theorem d_ShakeHands_init_27 : decode b_ShakeHands_init 27 = .ok (.putfield 21, 3) := by decide +kernel
theorem d_ShakeHands_init_30 : decode b_ShakeHands_init 30 = .ok (.aload_n 0, 1) := by decide +kernel
theorem d_ShakeHands_init_31 : decode b_ShakeHands_init 31 = .ok (.new 25, 3) := by decide +kernel
theorem d_ShakeHands_init_34 : decode b_ShakeHands_init 34 = .ok (.dup, 1) := by decide +kernel
theorem d_ShakeHands_init_35 : decode b_ShakeHands_init 35 = .ok (.invokespecial 27, 3) := by decide +kernel
theorem d_ShakeHands_init_38 : decode b_ShakeHands_init 38 = .ok (.putfield 28, 3) := by decide +kernel
theorem d_ShakeHands_init_41 : decode b_ShakeHands_init 41 = .ok (.aload_n 0, 1) := by decide +kernel
theorem d_ShakeHands_init_42 : decode b_ShakeHands_init 42 = .ok (.new 32, 3) := by decide +kernel
theorem d_ShakeHands_init_45 : decode b_ShakeHands_init 45 = .ok (.dup, 1) := by decide +kernel
theorem d_ShakeHands_init_46 : decode b_ShakeHands_init 46 = .ok (.invokespecial 34, 3) := by decide +kernel
theorem d_ShakeHands_init_49 : decode b_ShakeHands_init 49 = .ok (.putfield 35, 3) := by decide +kernel
theorem d_ShakeHands_init_52 : decode b_ShakeHands_init 52 = .ok (.aload_n 0, 1) := by decide +kernel
theorem d_ShakeHands_init_53 : decode b_ShakeHands_init 53 = .ok (.iconst 2, 1) := by decide +kernel
theorem d_ShakeHands_init_54 : decode b_ShakeHands_init 54 = .ok (.anewarray 32, 3) := by decide +kernel
theorem d_ShakeHands_init_57 : decode b_ShakeHands_init 57 = .ok (.putfield 39, 3) := by decide +kernel
theorem d_ShakeHands_init_60 : decode b_ShakeHands_init 60 = .ok (.iconst 0, 1) := by decide +kernel
theorem d_ShakeHands_init_61 : decode b_ShakeHands_init 61 = .ok (.istore_n 1, 1) := by decide +kernel
theorem d_ShakeHands_init_62 : decode b_ShakeHands_init 62 = .ok (.iload_n 1, 1) := by decide +kernel
theorem d_ShakeHands_init_63 : decode b_ShakeHands_init 63 = .ok (.iconst 2, 1) := by decide +kernel
theorem d_ShakeHands_init_64 : decode b_ShakeHands_init 64 = .ok (.if_icmp .ge 22, 3) := by decide +kernel
theorem d_ShakeHands_init_67 : decode b_ShakeHands_init 67 = .ok (.aload_n 0, 1) := by decide +kernel
theorem d_ShakeHands_init_68 : decode b_ShakeHands_init 68 = .ok (.getfield 39, 3) := by decide +kernel
theorem d_ShakeHands_init_71 : decode b_ShakeHands_init 71 = .ok (.iload_n 1, 1) := by decide +kernel
theorem d_ShakeHands_init_72 : decode b_ShakeHands_init 72 = .ok (.new 32, 3) := by decide +kernel
theorem d_ShakeHands_init_75 : decode b_ShakeHands_init 75 = .ok (.dup, 1) := by decide +kernel
theorem d_ShakeHands_init_76 : decode b_ShakeHands_init 76 = .ok (.invokespecial 34, 3) := by decide +kernel
theorem d_ShakeHands_init_79 : decode b_ShakeHands_init 79 = .ok (.aastore, 1) := by decide +kernel
theorem d_ShakeHands_init_80 : decode b_ShakeHands_init 80 = .ok (.iinc 1 1, 3) := by decide +kernel
theorem d_ShakeHands_init_83 : decode b_ShakeHands_init 83 = .ok (.goto (-21), 3) := by decide +kernel
theorem d_ShakeHands_init_86 : decode b_ShakeHands_init 86 = .ok (.aload_n 0, 1) := by decide +kernel
theorem d_ShakeHands_init_87 : decode b_ShakeHands_init 87 = .ok (.new 43, 3) := by decide +kernel
theorem d_ShakeHands_init_90 : decode b_ShakeHands_init 90 = .ok (.dup, 1) := by decide +kernel
theorem d_ShakeHands_init_91 : decode b_ShakeHands_init 91 = .ok (.aload_n 0, 1) := by decide +kernel
theorem d_ShakeHands_init_92 : decode b_ShakeHands_init 92 = .ok (.getfield 28, 3) := by decide +kernel
theorem d_ShakeHands_init_95 : decode b_ShakeHands_init 95 = .ok (.aload_n 0, 1) := by decide +kernel
theorem d_ShakeHands_init_96 : decode b_ShakeHands_init 96 = .ok (.getfield 35, 3) := by decide +kernel
theorem d_ShakeHands_init_99 : decode b_ShakeHands_init 99 = .ok (.invokespecial 45, 3) := by decide +kernel
theorem d_ShakeHands_init_102 : decode b_ShakeHands_init 102 = .ok (.putfield 48, 3) := by decide +kernel
theorem d_ShakeHands_init_105 : decode b_ShakeHands_init 105 = .ok (.aload_n 0, 1) := by decide +kernel
theorem d_ShakeHands_init_106 : decode b_ShakeHands_init 106 = .ok (.new 52, 3) := by decide +kernel
theorem d_ShakeHands_init_109 : decode b_ShakeHands_init 109 = .ok (.dup, 1) := by decide +kernel
theorem d_ShakeHands_init_110 : decode b_ShakeHands_init 110 = .ok (.aload_n 0, 1) := by decide +kernel
theorem d_ShakeHands_init_111 : decode b_ShakeHands_init 111 = .ok (.getfield 28, 3) := by decide +kernel
theorem d_ShakeHands_init_114 : decode b_ShakeHands_init 114 = .ok (.aload_n 0, 1) := by decide +kernel
theorem d_ShakeHands_init_115 : decode b_ShakeHands_init 115 = .ok (.getfield 35, 3) := by decide +kernel
theorem d_ShakeHands_init_118 : decode b_ShakeHands_init 118 = .ok (.invokespecial 54, 3) := by decide +kernel
theorem d_ShakeHands_init_121 : decode b_ShakeHands_init 121 = .ok (.putfield 55, 3) := by decide +kernel
theorem d_ShakeHands_init_124 : decode b_ShakeHands_init 124 = .ok (.aload_n 0, 1) := by decide +kernel
theorem d_ShakeHands_init_125 : decode b_ShakeHands_init 125 = .ok (.iconst 4, 1) := by decide +kernel
theorem d_ShakeHands_init_126 : decode b_ShakeHands_init 126 = .ok (.anewarray 59, 3) := by decide +kernel
theorem d_ShakeHands_init_129 : decode b_ShakeHands_init 129 = .ok (.putfield 61, 3) := by decide +kernel
theorem d_ShakeHands_init_132 : decode b_ShakeHands_init 132 = .ok (.iconst 0, 1) := by decide +kernel
theorem d_ShakeHands_init_133 : decode b_ShakeHands_init 133 = .ok (.istore_n 1, 1) := by decide +kernel
theorem d_ShakeHands_init_134 : decode b_ShakeHands_init 134 = .ok (.iload_n 1, 1) := by decide +kernel
theorem d_ShakeHands_init_135 : decode b_ShakeHands_init 135 = .ok (.iconst 4, 1) := by decide +kernel
theorem d_ShakeHands_init_136 : decode b_ShakeHands_init 136 = .ok (.if_icmp .ge 22, 3) := by decide +kernel
theorem d_ShakeHands_init_139 : decode b_ShakeHands_init 139 = .ok (.aload_n 0, 1) := by decide +kernel
theorem d_ShakeHands_init_140 : decode b_ShakeHands_init 140 = .ok (.getfield 61, 3) := by decide +kernel
theorem d_ShakeHands_init_143 : decode b_ShakeHands_init 143 = .ok (.iload_n 1, 1) := by decide +kernel
theorem d_ShakeHands_init_144 : decode b_ShakeHands_init 144 = .ok (.new 59, 3) := by decide +kernel
theorem d_ShakeHands_init_147 : decode b_ShakeHands_init 147 = .ok (.dup, 1) := by decide +kernel
theorem d_ShakeHands_init_148 : decode b_ShakeHands_init 148 = .ok (.invokespecial 65, 3) := by decide +kernel
theorem d_ShakeHands_init_151 : decode b_ShakeHands_init 151 = .ok (.aastore, 1) := by decide +kernel
theorem d_ShakeHands_init_152 : decode b_ShakeHands_init 152 = .ok (.iinc 1 1, 3) := by decide +kernel
theorem d_ShakeHands_init_155 : decode b_ShakeHands_init 155 = .ok (.goto (-21), 3) := by decide +kernel
theorem d_ShakeHands_init_158 : decode b_ShakeHands_init 158 = .ok (.aload_n 0, 1) := by decide +kernel
theorem d_ShakeHands_init_159 : decode b_ShakeHands_init 159 = .ok (.bipush 6, 2) := by decide +kernel
theorem d_ShakeHands_init_161 : decode b_ShakeHands_init 161 = .ok (.newarray .long, 2) := by decide +kernel
theorem d_ShakeHands_init_163 : decode b_ShakeHands_init 163 = .ok (.putfield 66, 3) := by decide +kernel
theorem d_ShakeHands_init_166 : decode b_ShakeHands_init 166 = .ok (.return_, 1) := by decide +kernel
theorem nu_ShakeHands (ad : Nat → Nat) : ∀ j, j < 11 → defaultValue (t_ShakeHands j) = vp_V (([2, 2, 2, 2, 2, 2, 2, 2, 2, 0, 0] : List Nat).mapIdx (fun i kd => fldC ad zM 0 i kd)) j := by
  intro j hj
  match j, hj with
  | 0, _ => rfl
  | 1, _ => rfl
  | 2, _ => rfl
  | 3, _ => rfl
  | 4, _ => rfl
  | 5, _ => rfl
  | 6, _ => rfl
  | 7, _ => rfl
  | 8, _ => rfl
  | 9, _ => rfl
  | 10, _ => rfl
  | j + 11, h => exact absurd h (by omega)
def mtC_Tape : Mc := ("ShakeHands$Tape", b_Tape_init, 1, 2)
theorem d_Tape_init_0 : decode b_Tape_init 0 = .ok (.aload_n 0, 1) := by decide +kernel
theorem d_Tape_init_1 : decode b_Tape_init 1 = .ok (.invokespecial 1, 3) := by decide +kernel
theorem d_Tape_init_4 : decode b_Tape_init 4 = .ok (.aload_n 0, 1) := by decide +kernel
theorem d_Tape_init_5 : decode b_Tape_init 5 = .ok (.sipush 320, 3) := by decide +kernel
theorem d_Tape_init_8 : decode b_Tape_init 8 = .ok (.newarray .byte, 2) := by decide +kernel
theorem d_Tape_init_10 : decode b_Tape_init 10 = .ok (.putfield 9, 3) := by decide +kernel
theorem d_Tape_init_13 : decode b_Tape_init 13 = .ok (.return_, 1) := by decide +kernel
theorem nu_Tape (ad : Nat → Nat) : ∀ j, j < 2 → defaultValue (t_Tape j) = vp_V (([2, 0] : List Nat).mapIdx (fun i kd => fldC ad zM 0 i kd)) j := by
  intro j hj
  match j, hj with
  | 0, _ => rfl
  | 1, _ => rfl
  | j + 2, h => exact absurd h (by omega)
def mtC_Teller : Mc := ("ShakeHands$Teller", b_Teller_init, 2, 6)
theorem d_Teller_init_0 : decode b_Teller_init 0 = .ok (.aload_n 0, 1) := by decide +kernel
theorem d_Teller_init_1 : decode b_Teller_init 1 = .ok (.invokespecial 3, 3) := by decide +kernel
theorem d_Teller_init_4 : decode b_Teller_init 4 = .ok (.aload_n 0, 1) := by decide +kernel
theorem d_Teller_init_5 : decode b_Teller_init 5 = .ok (.new 9, 3) := by decide +kernel
theorem d_Teller_init_8 : decode b_Teller_init 8 = .ok (.dup, 1) := by decide +kernel
theorem d_Teller_init_9 : decode b_Teller_init 9 = .ok (.invokespecial 11, 3) := by decide +kernel
theorem d_Teller_init_12 : decode b_Teller_init 12 = .ok (.putfield 12, 3) := by decide +kernel
theorem d_Teller_init_15 : decode b_Teller_init 15 = .ok (.aload_n 0, 1) := by decide +kernel
theorem d_Teller_init_16 : decode b_Teller_init 16 = .ok (.bipush 6, 2) := by decide +kernel
theorem d_Teller_init_18 : decode b_Teller_init 18 = .ok (.newarray .long, 2) := by decide +kernel
theorem d_Teller_init_20 : decode b_Teller_init 20 = .ok (.putfield 18, 3) := by decide +kernel
theorem d_Teller_init_23 : decode b_Teller_init 23 = .ok (.aload_n 0, 1) := by decide +kernel
theorem d_Teller_init_24 : decode b_Teller_init 24 = .ok (.new 22, 3) := by decide +kernel
theorem d_Teller_init_27 : decode b_Teller_init 27 = .ok (.dup, 1) := by decide +kernel
theorem d_Teller_init_28 : decode b_Teller_init 28 = .ok (.invokespecial 24, 3) := by decide +kernel
theorem d_Teller_init_31 : decode b_Teller_init 31 = .ok (.putfield 25, 3) := by decide +kernel
theorem d_Teller_init_34 : decode b_Teller_init 34 = .ok (.aload_n 0, 1) := by decide +kernel
theorem d_Teller_init_35 : decode b_Teller_init 35 = .ok (.aload_n 1, 1) := by decide +kernel
theorem d_Teller_init_36 : decode b_Teller_init 36 = .ok (.putfield 29, 3) := by decide +kernel
theorem d_Teller_init_39 : decode b_Teller_init 39 = .ok (.return_, 1) := by decide +kernel
theorem nu_Teller (ad : Nat → Nat) : ∀ j, j < 15 → defaultValue (t_Teller j) = vp_V (([2, 2, 0, 0, 2, 2, 0, 0, 0, 0, 0, 0, 0, 0, 0] : List Nat).mapIdx (fun i kd => fldC ad zM 0 i kd)) j := by
  intro j hj
  match j, hj with
  | 0, _ => rfl
  | 1, _ => rfl
  | 2, _ => rfl
  | 3, _ => rfl
  | 4, _ => rfl
  | 5, _ => rfl
  | 6, _ => rfl
  | 7, _ => rfl
  | 8, _ => rfl
  | 9, _ => rfl
  | 10, _ => rfl
  | 11, _ => rfl
  | 12, _ => rfl
  | 13, _ => rfl
  | 14, _ => rfl
  | j + 15, h => exact absurd h (by omega)
def mtC_Circle : Mc := ("ShakeHands$Circle", b_Circle_init, 1, 4)
theorem d_Circle_init_0 : decode b_Circle_init 0 = .ok (.aload_n 0, 1) := by decide +kernel
theorem d_Circle_init_1 : decode b_Circle_init 1 = .ok (.invokespecial 5, 3) := by decide +kernel
theorem d_Circle_init_4 : decode b_Circle_init 4 = .ok (.aload_n 0, 1) := by decide +kernel
theorem d_Circle_init_5 : decode b_Circle_init 5 = .ok (.iconst 3, 1) := by decide +kernel
theorem d_Circle_init_6 : decode b_Circle_init 6 = .ok (.putfield 13, 3) := by decide +kernel
theorem d_Circle_init_9 : decode b_Circle_init 9 = .ok (.aload_n 0, 1) := by decide +kernel
theorem d_Circle_init_10 : decode b_Circle_init 10 = .ok (.bipush 9, 2) := by decide +kernel
theorem d_Circle_init_12 : decode b_Circle_init 12 = .ok (.putfield 17, 3) := by decide +kernel
theorem d_Circle_init_15 : decode b_Circle_init 15 = .ok (.aload_n 0, 1) := by decide +kernel
theorem d_Circle_init_16 : decode b_Circle_init 16 = .ok (.bipush 12, 2) := by decide +kernel
theorem d_Circle_init_18 : decode b_Circle_init 18 = .ok (.newarray .int, 2) := by decide +kernel
theorem d_Circle_init_20 : decode b_Circle_init 20 = .ok (.putfield 20, 3) := by decide +kernel
theorem d_Circle_init_23 : decode b_Circle_init 23 = .ok (.aload_n 0, 1) := by decide +kernel
theorem d_Circle_init_24 : decode b_Circle_init 24 = .ok (.bipush 16, 2) := by decide +kernel
theorem d_Circle_init_26 : decode b_Circle_init 26 = .ok (.newarray .int, 2) := by decide +kernel
theorem d_Circle_init_28 : decode b_Circle_init 28 = .ok (.putfield 24, 3) := by decide +kernel
theorem d_Circle_init_31 : decode b_Circle_init 31 = .ok (.aload_n 0, 1) := by decide +kernel
theorem d_Circle_init_32 : decode b_Circle_init 32 = .ok (.bipush 8, 2) := by decide +kernel
theorem d_Circle_init_34 : decode b_Circle_init 34 = .ok (.newarray .int, 2) := by decide +kernel
theorem d_Circle_init_36 : decode b_Circle_init 36 = .ok (.putfield 27, 3) := by decide +kernel
theorem d_Circle_init_39 : decode b_Circle_init 39 = .ok (.aload_n 0, 1) := by decide +kernel
theorem d_Circle_init_40 : decode b_Circle_init 40 = .ok (.new 1, 3) := by decide +kernel
theorem d_Circle_init_43 : decode b_Circle_init 43 = .ok (.dup, 1) := by decide +kernel
theorem d_Circle_init_44 : decode b_Circle_init 44 = .ok (.invokespecial 30, 3) := by decide +kernel
theorem d_Circle_init_47 : decode b_Circle_init 47 = .ok (.putfield 31, 3) := by decide +kernel
theorem d_Circle_init_50 : decode b_Circle_init 50 = .ok (.return_, 1) := by decide +kernel
theorem nu_Circle (ad : Nat → Nat) : ∀ j, j < 9 → defaultValue (t_Circle j) = vp_V (([0, 0, 2, 0, 2, 0, 2, 0, 2] : List Nat).mapIdx (fun i kd => fldC ad zM 0 i kd)) j := by
  intro j hj
  match j, hj with
  | 0, _ => rfl
  | 1, _ => rfl
  | 2, _ => rfl
  | 3, _ => rfl
  | 4, _ => rfl
  | 5, _ => rfl
  | 6, _ => rfl
  | 7, _ => rfl
  | 8, _ => rfl
  | j + 9, h => exact absurd h (by omega)
def mtC_Row : Mc := ("ShakeHands$Row", b_Row_init, 1, 2)
theorem d_Row_init_0 : decode b_Row_init 0 = .ok (.aload_n 0, 1) := by decide +kernel
theorem d_Row_init_1 : decode b_Row_init 1 = .ok (.invokespecial 3, 3) := by decide +kernel
theorem d_Row_init_4 : decode b_Row_init 4 = .ok (.return_, 1) := by decide +kernel
theorem nu_Row (ad : Nat → Nat) : ∀ j, j < 2 → defaultValue (t_Row j) = vp_V (([1, 0] : List Nat).mapIdx (fun i kd => fldC ad zM 0 i kd)) j := by
  intro j hj
  match j, hj with
  | 0, _ => rfl
  | 1, _ => rfl
  | j + 2, h => exact absurd h (by omega)
def mtC_Minds : Mc := ("ShakeHands$Minds", b_Minds_init, 1, 2)
theorem d_Minds_init_0 : decode b_Minds_init 0 = .ok (.aload_n 0, 1) := by decide +kernel
theorem d_Minds_init_1 : decode b_Minds_init 1 = .ok (.invokespecial 3, 3) := by decide +kernel
theorem d_Minds_init_4 : decode b_Minds_init 4 = .ok (.aload_n 0, 1) := by decide +kernel
theorem d_Minds_init_5 : decode b_Minds_init 5 = .ok (.bipush 6, 2) := by decide +kernel
theorem d_Minds_init_7 : decode b_Minds_init 7 = .ok (.newarray .long, 2) := by decide +kernel
theorem d_Minds_init_9 : decode b_Minds_init 9 = .ok (.putfield 9, 3) := by decide +kernel
theorem d_Minds_init_12 : decode b_Minds_init 12 = .ok (.aload_n 0, 1) := by decide +kernel
theorem d_Minds_init_13 : decode b_Minds_init 13 = .ok (.bipush 6, 2) := by decide +kernel
theorem d_Minds_init_15 : decode b_Minds_init 15 = .ok (.newarray .int, 2) := by decide +kernel
theorem d_Minds_init_17 : decode b_Minds_init 17 = .ok (.putfield 15, 3) := by decide +kernel
theorem d_Minds_init_20 : decode b_Minds_init 20 = .ok (.return_, 1) := by decide +kernel
theorem nu_Minds (ad : Nat → Nat) : ∀ j, j < 4 → defaultValue (t_Minds j) = vp_V (([2, 0, 0, 2] : List Nat).mapIdx (fun i kd => fldC ad zM 0 i kd)) j := by
  intro j hj
  match j, hj with
  | 0, _ => rfl
  | 1, _ => rfl
  | 2, _ => rfl
  | 3, _ => rfl
  | j + 4, h => exact absurd h (by omega)
def mtC_Search : Mc := ("ShakeHands$Search", b_Search_init, 3, 2)
theorem d_Search_init_0 : decode b_Search_init 0 = .ok (.aload_n 0, 1) := by decide +kernel
theorem d_Search_init_1 : decode b_Search_init 1 = .ok (.invokespecial 3, 3) := by decide +kernel
theorem d_Search_init_4 : decode b_Search_init 4 = .ok (.aload_n 0, 1) := by decide +kernel
theorem d_Search_init_5 : decode b_Search_init 5 = .ok (.bipush 6, 2) := by decide +kernel
theorem d_Search_init_7 : decode b_Search_init 7 = .ok (.newarray .int, 2) := by decide +kernel
theorem d_Search_init_9 : decode b_Search_init 9 = .ok (.putfield 11, 3) := by decide +kernel
theorem d_Search_init_12 : decode b_Search_init 12 = .ok (.aload_n 0, 1) := by decide +kernel
theorem d_Search_init_13 : decode b_Search_init 13 = .ok (.bipush 6, 2) := by decide +kernel
theorem d_Search_init_15 : decode b_Search_init 15 = .ok (.newarray .int, 2) := by decide +kernel
theorem d_Search_init_17 : decode b_Search_init 17 = .ok (.putfield 15, 3) := by decide +kernel
theorem d_Search_init_20 : decode b_Search_init 20 = .ok (.aload_n 0, 1) := by decide +kernel
theorem d_Search_init_21 : decode b_Search_init 21 = .ok (.bipush 7, 2) := by decide +kernel
theorem d_Search_init_23 : decode b_Search_init 23 = .ok (.bipush 6, 2) := by decide +kernel
theorem d_Search_init_25 : decode b_Search_init 25 = .ok (.multianewarray 18 2, 4) := by decide +kernel
theorem d_Search_init_29 : decode b_Search_init 29 = .ok (.putfield 20, 3) := by decide +kernel
theorem d_Search_init_32 : decode b_Search_init 32 = .ok (.aload_n 0, 1) := by decide +kernel
theorem d_Search_init_33 : decode b_Search_init 33 = .ok (.aload_n 1, 1) := by decide +kernel
theorem d_Search_init_34 : decode b_Search_init 34 = .ok (.putfield 23, 3) := by decide +kernel
theorem d_Search_init_37 : decode b_Search_init 37 = .ok (.aload_n 0, 1) := by decide +kernel
theorem d_Search_init_38 : decode b_Search_init 38 = .ok (.aload_n 2, 1) := by decide +kernel
theorem d_Search_init_39 : decode b_Search_init 39 = .ok (.putfield 27, 3) := by decide +kernel
theorem d_Search_init_42 : decode b_Search_init 42 = .ok (.return_, 1) := by decide +kernel
theorem nu_Search (ad : Nat → Nat) : ∀ j, j < 13 → defaultValue (t_Search j) = vp_V (([2, 2, 0, 0, 0, 2, 2, 2, 0, 0, 0, 0, 0] : List Nat).mapIdx (fun i kd => fldC ad zM 0 i kd)) j := by
  intro j hj
  match j, hj with
  | 0, _ => rfl
  | 1, _ => rfl
  | 2, _ => rfl
  | 3, _ => rfl
  | 4, _ => rfl
  | 5, _ => rfl
  | 6, _ => rfl
  | 7, _ => rfl
  | 8, _ => rfl
  | 9, _ => rfl
  | 10, _ => rfl
  | 11, _ => rfl
  | 12, _ => rfl
  | j + 13, h => exact absurd h (by omega)
def mtC_Habit : Mc := ("ShakeHands$Habit", b_Habit_init, 3, 2)
theorem d_Habit_init_0 : decode b_Habit_init 0 = .ok (.aload_n 0, 1) := by decide +kernel
theorem d_Habit_init_1 : decode b_Habit_init 1 = .ok (.invokespecial 3, 3) := by decide +kernel
theorem d_Habit_init_4 : decode b_Habit_init 4 = .ok (.aload_n 0, 1) := by decide +kernel
theorem d_Habit_init_5 : decode b_Habit_init 5 = .ok (.sipush 1206, 3) := by decide +kernel
theorem d_Habit_init_8 : decode b_Habit_init 8 = .ok (.newarray .long, 2) := by decide +kernel
theorem d_Habit_init_10 : decode b_Habit_init 10 = .ok (.putfield 11, 3) := by decide +kernel
theorem d_Habit_init_13 : decode b_Habit_init 13 = .ok (.aload_n 0, 1) := by decide +kernel
theorem d_Habit_init_14 : decode b_Habit_init 14 = .ok (.bipush 6, 2) := by decide +kernel
theorem d_Habit_init_16 : decode b_Habit_init 16 = .ok (.newarray .long, 2) := by decide +kernel
theorem d_Habit_init_18 : decode b_Habit_init 18 = .ok (.putfield 15, 3) := by decide +kernel
theorem d_Habit_init_21 : decode b_Habit_init 21 = .ok (.aload_n 0, 1) := by decide +kernel
theorem d_Habit_init_22 : decode b_Habit_init 22 = .ok (.aload_n 1, 1) := by decide +kernel
theorem d_Habit_init_23 : decode b_Habit_init 23 = .ok (.putfield 18, 3) := by decide +kernel
theorem d_Habit_init_26 : decode b_Habit_init 26 = .ok (.aload_n 0, 1) := by decide +kernel
theorem d_Habit_init_27 : decode b_Habit_init 27 = .ok (.aload_n 2, 1) := by decide +kernel
theorem d_Habit_init_28 : decode b_Habit_init 28 = .ok (.putfield 22, 3) := by decide +kernel
theorem d_Habit_init_31 : decode b_Habit_init 31 = .ok (.return_, 1) := by decide +kernel
theorem nu_Habit (ad : Nat → Nat) : ∀ j, j < 4 → defaultValue (t_Habit j) = vp_V (([2, 2, 2, 2] : List Nat).mapIdx (fun i kd => fldC ad zM 0 i kd)) j := by
  intro j hj
  match j, hj with
  | 0, _ => rfl
  | 1, _ => rfl
  | 2, _ => rfl
  | 3, _ => rfl
  | j + 4, h => exact absurd h (by omega)
def mtC_Sheet : Mc := ("ShakeHands$Sheet", b_Sheet_init, 1, 2)
theorem d_Sheet_init_0 : decode b_Sheet_init 0 = .ok (.aload_n 0, 1) := by decide +kernel
theorem d_Sheet_init_1 : decode b_Sheet_init 1 = .ok (.invokespecial 1, 3) := by decide +kernel
theorem d_Sheet_init_4 : decode b_Sheet_init 4 = .ok (.aload_n 0, 1) := by decide +kernel
theorem d_Sheet_init_5 : decode b_Sheet_init 5 = .ok (.bipush 40, 2) := by decide +kernel
theorem d_Sheet_init_7 : decode b_Sheet_init 7 = .ok (.newarray .int, 2) := by decide +kernel
theorem d_Sheet_init_9 : decode b_Sheet_init 9 = .ok (.putfield 9, 3) := by decide +kernel
theorem d_Sheet_init_12 : decode b_Sheet_init 12 = .ok (.return_, 1) := by decide +kernel
theorem nu_Sheet (ad : Nat → Nat) : ∀ j, j < 4 → defaultValue (t_Sheet j) = vp_V (([0, 0, 0, 2] : List Nat).mapIdx (fun i kd => fldC ad zM 0 i kd)) j := by
  intro j hj
  match j, hj with
  | 0, _ => rfl
  | 1, _ => rfl
  | 2, _ => rfl
  | 3, _ => rfl
  | j + 4, h => exact absurd h (by omega)
theorem oi_ShakeHands_1 : Cond.methodLink "ShakeHands" 1 objectInit ∈ tbl := tbl_in 23 (by decide +kernel) rfl
theorem oi_Circle_5 : Cond.methodLink "ShakeHands$Circle" 5 objectInit ∈ tbl := tbl_in 54 (by decide +kernel) rfl
theorem oi_Habit_3 : Cond.methodLink "ShakeHands$Habit" 3 objectInit ∈ tbl := tbl_in 259 (by decide +kernel) rfl
theorem oi_Minds_3 : Cond.methodLink "ShakeHands$Minds" 3 objectInit ∈ tbl := tbl_in 176 (by decide +kernel) rfl
theorem oi_Row_3 : Cond.methodLink "ShakeHands$Row" 3 objectInit ∈ tbl := tbl_in 60 (by decide +kernel) rfl
theorem oi_Search_3 : Cond.methodLink "ShakeHands$Search" 3 objectInit ∈ tbl := tbl_in 206 (by decide +kernel) rfl
theorem oi_Sheet_1 : Cond.methodLink "ShakeHands$Sheet" 1 objectInit ∈ tbl := tbl_in 279 (by decide +kernel) rfl
theorem oi_Tape_1 : Cond.methodLink "ShakeHands$Tape" 1 objectInit ∈ tbl := tbl_in 31 (by decide +kernel) rfl
theorem oi_Teller_3 : Cond.methodLink "ShakeHands$Teller" 3 objectInit ∈ tbl := tbl_in 48 (by decide +kernel) rfl
theorem cwl_ShakeHands_7 : Cond.classLink "ShakeHands" 7 "ShakeHands$Tape" ∈ tbl := tbl_in 26 (by decide +kernel) rfl
theorem cwl_ShakeHands_16 : Cond.classLink "ShakeHands" 16 "ShakeHands$Teller" ∈ tbl := tbl_in 43 (by decide +kernel) rfl
theorem cwl_ShakeHands_25 : Cond.classLink "ShakeHands" 25 "ShakeHands$Circle" ∈ tbl := tbl_in 169 (by decide +kernel) rfl
theorem cwl_ShakeHands_32 : Cond.classLink "ShakeHands" 32 "ShakeHands$Minds" ∈ tbl := tbl_in 171 (by decide +kernel) rfl
theorem cwl_ShakeHands_43 : Cond.classLink "ShakeHands" 43 "ShakeHands$Search" ∈ tbl := tbl_in 201 (by decide +kernel) rfl
theorem cwl_ShakeHands_52 : Cond.classLink "ShakeHands" 52 "ShakeHands$Habit" ∈ tbl := tbl_in 254 (by decide +kernel) rfl
theorem cwl_ShakeHands_59 : Cond.classLink "ShakeHands" 59 "ShakeHands$Sheet" ∈ tbl := tbl_in 273 (by decide +kernel) rfl
theorem cwl_Circle_1 : Cond.classLink "ShakeHands$Circle" 1 "ShakeHands$Row" ∈ tbl := tbl_in 55 (by decide +kernel) rfl
theorem cwl_Search_18 : Cond.classLink "ShakeHands$Search" 18 "[[J" ∈ tbl := tbl_in 207 (by decide +kernel) rfl
theorem cwl_Teller_9 : Cond.classLink "ShakeHands$Teller" 9 "ShakeHands$Circle" ∈ tbl := tbl_in 49 (by decide +kernel) rfl
theorem cwl_Teller_22 : Cond.classLink "ShakeHands$Teller" 22 "ShakeHands$Row" ∈ tbl := tbl_in 116 (by decide +kernel) rfl
theorem ac_byte : Cond.arrayClass .byte ∈ tbl := tbl_in 42 (by decide +kernel) rfl
theorem ac_int : Cond.arrayClass .int ∈ tbl := tbl_in 70 (by decide +kernel) rfl
theorem ac_long : Cond.arrayClass .long ∈ tbl := tbl_in 168 (by decide +kernel) rfl
theorem cN_ShakeHands_9 : ("ShakeHands", 9, y_Tape_init) ∈ nestI := by decide +kernel
theorem cI_ShakeHands_18 : Cond.methodLink "ShakeHands" 18 y_Teller_init ∈ tbl := tbl_in 45 (by decide +kernel) rfl
theorem cN_ShakeHands_27 : ("ShakeHands", 27, y_Circle_init) ∈ nestI := by decide +kernel
theorem cN_ShakeHands_34 : ("ShakeHands", 34, y_Minds_init) ∈ nestI := by decide +kernel
theorem cI_ShakeHands_45 : Cond.methodLink "ShakeHands" 45 y_Search_init ∈ tbl := tbl_in 203 (by decide +kernel) rfl
theorem cI_ShakeHands_54 : Cond.methodLink "ShakeHands" 54 y_Habit_init ∈ tbl := tbl_in 256 (by decide +kernel) rfl
theorem cN_ShakeHands_65 : ("ShakeHands", 65, y_Sheet_init) ∈ nestI := by decide +kernel
theorem cN_Circle_30 : ("ShakeHands$Circle", 30, y_Row_init) ∈ nestI := by decide +kernel
theorem cN_Teller_11 : ("ShakeHands$Teller", 11, y_Circle_init) ∈ nestI := by decide +kernel
theorem cN_Teller_24 : ("ShakeHands$Teller", 24, y_Row_init) ∈ nestI := by decide +kernel
theorem dn_Circle_init : Dn y_Circle_init 0 := ⟨by decide +kernel, by decide +kernel, by decide +kernel⟩
theorem dn_Habit_init : Dn y_Habit_init 2 := ⟨by decide +kernel, by decide +kernel, by decide +kernel⟩
theorem dn_Minds_init : Dn y_Minds_init 0 := ⟨by decide +kernel, by decide +kernel, by decide +kernel⟩
theorem dn_Row_init : Dn y_Row_init 0 := ⟨by decide +kernel, by decide +kernel, by decide +kernel⟩
theorem dn_Search_init : Dn y_Search_init 2 := ⟨by decide +kernel, by decide +kernel, by decide +kernel⟩
theorem dn_Sheet_init : Dn y_Sheet_init 0 := ⟨by decide +kernel, by decide +kernel, by decide +kernel⟩
theorem dn_Tape_init : Dn y_Tape_init 0 := ⟨by decide +kernel, by decide +kernel, by decide +kernel⟩
theorem dn_Teller_init : Dn y_Teller_init 1 := ⟨by decide +kernel, by decide +kernel, by decide +kernel⟩
set_option maxRecDepth 20000 in
set_option maxHeartbeats 4000000 in
theorem CC_1 : CtC y_Tape_init mtC_Tape [Value.ref 1] [(8, [2, 2, 2, 2, 2, 2, 2, 2, 2, 0, 0]), (6, [2, 0])] (zM) [(8, [2, 2, 2, 2, 2, 2, 2, 2, 2, 0, 0]), (6, [5, 0]), (101, [320])] (zM) 1 320 := by
  refine ctc_of (by decide +kernel) rfl rfl (Nat.le_of_ble_eq_true rfl) ?_
  refine c_aload_n (pc := 0) (q := 0) d_Tape_init_0 rfl rfl ?_
  refine c_objInit (pc := 1) d_Tape_init_1 oi_Tape_1 (Nat.le_of_ble_eq_true rfl) (Nat.le_of_ble_eq_true rfl) ?_
  refine c_aload_n (pc := 4) (q := 0) d_Tape_init_4 rfl rfl ?_
  refine c_sipush (pc := 5) d_Tape_init_5 k_s_320 ?_
  refine c_newaB (pc := 8) (N := 320) (sh8 := [(8, [2, 2, 2, 2, 2, 2, 2, 2, 2, 0, 0]), (6, [2, 0]), (101, [320])]) (a9 := 2) d_Tape_init_8 (by decide) (by decide) ac_byte (Nat.le_of_ble_eq_true rfl) ⟨by funext y; simp [si, zM], by funext y; simp [si, zM]⟩ (Nat.le_of_ble_eq_true rfl) (Nat.le_of_ble_eq_true rfl) (Nat.le_of_ble_eq_true rfl) rfl rfl ?_
  refine c_putR (pc := 10) (sh8 := [(8, [2, 2, 2, 2, 2, 2, 2, 2, 2, 0, 0]), (6, [5, 0]), (101, [320])]) d_Tape_init_10 fl_Tape_9 rfl rfl (by decide) (by decide) (Nat.le_of_ble_eq_true rfl) (fun C T N h => by cases h; rfl) rfl ?_
  exact c_return (pc := 13) (st := []) d_Tape_init_13 (Nat.le_of_ble_eq_true rfl) (Nat.le_of_ble_eq_true rfl) rfl rfl
set_option maxRecDepth 20000 in
set_option maxHeartbeats 4000000 in
theorem CC_2 : CtC y_Row_init mtC_Row [Value.ref 8] [(8, [4, 2, 2, 2, 2, 2, 2, 2, 2, 0, 0]), (6, [5, 0]), (101, [320]), (7, [2, 2, 0, 0, 2, 2, 0, 0, 0, 0, 0, 0, 0, 0, 0]), (0, [0, 0, 8, 0, 9, 0, 10, 0, 2]), (100, [12]), (100, [16]), (100, [8]), (3, [1, 0])] (si (si zM 4 0 3) 4 1 9) [(8, [4, 2, 2, 2, 2, 2, 2, 2, 2, 0, 0]), (6, [5, 0]), (101, [320]), (7, [2, 2, 0, 0, 2, 2, 0, 0, 0, 0, 0, 0, 0, 0, 0]), (0, [0, 0, 8, 0, 9, 0, 10, 0, 2]), (100, [12]), (100, [16]), (100, [8]), (3, [1, 0])] (si (si zM 4 0 3) 4 1 9) 0 0 := by
  refine ctc_of (by decide +kernel) rfl rfl (Nat.le_of_ble_eq_true rfl) ?_
  refine c_aload_n (pc := 0) (q := 0) d_Row_init_0 rfl rfl ?_
  refine c_objInit (pc := 1) d_Row_init_1 oi_Row_3 (Nat.le_of_ble_eq_true rfl) (Nat.le_of_ble_eq_true rfl) ?_
  exact c_return (pc := 4) (st := []) d_Row_init_4 (Nat.le_of_ble_eq_true rfl) (Nat.le_of_ble_eq_true rfl) rfl rfl
set_option maxRecDepth 20000 in
set_option maxHeartbeats 4000000 in
theorem CC_3 : CtC y_Circle_init mtC_Circle [Value.ref 4] [(8, [4, 2, 2, 2, 2, 2, 2, 2, 2, 0, 0]), (6, [5, 0]), (101, [320]), (7, [2, 2, 0, 0, 2, 2, 0, 0, 0, 0, 0, 0, 0, 0, 0]), (0, [0, 0, 2, 0, 2, 0, 2, 0, 2])] (zM) [(8, [4, 2, 2, 2, 2, 2, 2, 2, 2, 0, 0]), (6, [5, 0]), (101, [320]), (7, [2, 2, 0, 0, 2, 2, 0, 0, 0, 0, 0, 0, 0, 0, 0]), (0, [0, 0, 8, 0, 9, 0, 10, 0, 11]), (100, [12]), (100, [16]), (100, [8]), (3, [1, 0])] (si (si zM 4 0 3) 4 1 9) 4 38 := by
  refine ctc_of (by decide +kernel) rfl rfl (Nat.le_of_ble_eq_true rfl) ?_
  refine c_aload_n (pc := 0) (q := 0) d_Circle_init_0 rfl rfl ?_
  refine c_objInit (pc := 1) d_Circle_init_1 oi_Circle_5 (Nat.le_of_ble_eq_true rfl) (Nat.le_of_ble_eq_true rfl) ?_
  refine c_aload_n (pc := 4) (q := 0) d_Circle_init_4 rfl rfl ?_
  refine c_iconst (pc := 5) d_Circle_init_5 k_i_3 ?_
  refine c_putI (pc := 6) d_Circle_init_6 fl_Circle_13 rfl (by decide) (by decide) rfl (Nat.le_of_ble_eq_true rfl) ?_
  refine c_aload_n (pc := 9) (q := 0) d_Circle_init_9 rfl rfl ?_
  refine c_bipush (pc := 10) d_Circle_init_10 k_b_9 ?_
  refine c_putI (pc := 12) d_Circle_init_12 fl_Circle_17 rfl (by decide) (by decide) rfl (Nat.le_of_ble_eq_true rfl) ?_
  refine c_aload_n (pc := 15) (q := 0) d_Circle_init_15 rfl rfl ?_
  refine c_bipush (pc := 16) d_Circle_init_16 k_b_12 ?_
  refine c_newaI (pc := 18) (N := 12) (sh8 := [(8, [4, 2, 2, 2, 2, 2, 2, 2, 2, 0, 0]), (6, [5, 0]), (101, [320]), (7, [2, 2, 0, 0, 2, 2, 0, 0, 0, 0, 0, 0, 0, 0, 0]), (0, [0, 0, 2, 0, 2, 0, 2, 0, 2]), (100, [12])]) (a9 := 5) d_Circle_init_18 (by decide) (by decide) ac_int (Nat.le_of_ble_eq_true rfl) ⟨by funext y; simp [si, zM], by funext y; simp [si, zM]⟩ (Nat.le_of_ble_eq_true rfl) (Nat.le_of_ble_eq_true rfl) (Nat.le_of_ble_eq_true rfl) rfl rfl ?_
  refine c_putR (pc := 20) (sh8 := [(8, [4, 2, 2, 2, 2, 2, 2, 2, 2, 0, 0]), (6, [5, 0]), (101, [320]), (7, [2, 2, 0, 0, 2, 2, 0, 0, 0, 0, 0, 0, 0, 0, 0]), (0, [0, 0, 8, 0, 2, 0, 2, 0, 2]), (100, [12])]) d_Circle_init_20 fl_Circle_20 rfl rfl (by decide) (by decide) (Nat.le_of_ble_eq_true rfl) (fun C T N h => by cases h; rfl) rfl ?_
  refine c_aload_n (pc := 23) (q := 0) d_Circle_init_23 rfl rfl ?_
  refine c_bipush (pc := 24) d_Circle_init_24 k_b_16 ?_
  refine c_newaI (pc := 26) (N := 16) (sh8 := [(8, [4, 2, 2, 2, 2, 2, 2, 2, 2, 0, 0]), (6, [5, 0]), (101, [320]), (7, [2, 2, 0, 0, 2, 2, 0, 0, 0, 0, 0, 0, 0, 0, 0]), (0, [0, 0, 8, 0, 2, 0, 2, 0, 2]), (100, [12]), (100, [16])]) (a9 := 6) d_Circle_init_26 (by decide) (by decide) ac_int (Nat.le_of_ble_eq_true rfl) ⟨by funext y; simp [si, zM], by funext y; simp [si, zM]⟩ (Nat.le_of_ble_eq_true rfl) (Nat.le_of_ble_eq_true rfl) (Nat.le_of_ble_eq_true rfl) rfl rfl ?_
  refine c_putR (pc := 28) (sh8 := [(8, [4, 2, 2, 2, 2, 2, 2, 2, 2, 0, 0]), (6, [5, 0]), (101, [320]), (7, [2, 2, 0, 0, 2, 2, 0, 0, 0, 0, 0, 0, 0, 0, 0]), (0, [0, 0, 8, 0, 9, 0, 2, 0, 2]), (100, [12]), (100, [16])]) d_Circle_init_28 fl_Circle_24 rfl rfl (by decide) (by decide) (Nat.le_of_ble_eq_true rfl) (fun C T N h => by cases h; rfl) rfl ?_
  refine c_aload_n (pc := 31) (q := 0) d_Circle_init_31 rfl rfl ?_
  refine c_bipush (pc := 32) d_Circle_init_32 k_b_8 ?_
  refine c_newaI (pc := 34) (N := 8) (sh8 := [(8, [4, 2, 2, 2, 2, 2, 2, 2, 2, 0, 0]), (6, [5, 0]), (101, [320]), (7, [2, 2, 0, 0, 2, 2, 0, 0, 0, 0, 0, 0, 0, 0, 0]), (0, [0, 0, 8, 0, 9, 0, 2, 0, 2]), (100, [12]), (100, [16]), (100, [8])]) (a9 := 7) d_Circle_init_34 (by decide) (by decide) ac_int (Nat.le_of_ble_eq_true rfl) ⟨by funext y; simp [si, zM], by funext y; simp [si, zM]⟩ (Nat.le_of_ble_eq_true rfl) (Nat.le_of_ble_eq_true rfl) (Nat.le_of_ble_eq_true rfl) rfl rfl ?_
  refine c_putR (pc := 36) (sh8 := [(8, [4, 2, 2, 2, 2, 2, 2, 2, 2, 0, 0]), (6, [5, 0]), (101, [320]), (7, [2, 2, 0, 0, 2, 2, 0, 0, 0, 0, 0, 0, 0, 0, 0]), (0, [0, 0, 8, 0, 9, 0, 10, 0, 2]), (100, [12]), (100, [16]), (100, [8])]) d_Circle_init_36 fl_Circle_27 rfl rfl (by decide) (by decide) (Nat.le_of_ble_eq_true rfl) (fun C T N h => by cases h; rfl) rfl ?_
  refine c_aload_n (pc := 39) (q := 0) d_Circle_init_39 rfl rfl ?_
  refine c_new (pc := 40) (ci := 3) (T := F_Row) (N := 2) (ds := [1, 0]) (sh8 := [(8, [4, 2, 2, 2, 2, 2, 2, 2, 2, 0, 0]), (6, [5, 0]), (101, [320]), (7, [2, 2, 0, 0, 2, 2, 0, 0, 0, 0, 0, 0, 0, 0, 0]), (0, [0, 0, 8, 0, 9, 0, 10, 0, 2]), (100, [12]), (100, [16]), (100, [8]), (3, [1, 0])]) (a9 := 8) d_Circle_init_40 rfl (by decide) i_Row t_Row_ok cwl_Circle_1 in_Row ini_Row (fun ad j hj => nu_Row ad j hj) ⟨by funext y; simp [si, zM], by funext y; simp [si, zM]⟩ (Nat.le_of_ble_eq_true rfl) (Nat.le_of_ble_eq_true rfl) (Nat.le_of_ble_eq_true rfl) rfl rfl ?_
  refine c_dup (pc := 43) d_Circle_init_43 rfl ?_
  refine c_initN (pc := 44) (as := []) (a := 8) d_Circle_init_44 CC_2 cN_Circle_30 cd_Row_init rfl im_Row_init ini_Row dn_Row_init rfl (by decide) (by decide) (Nat.le_of_ble_eq_true rfl) (Nat.le_of_ble_eq_true rfl) (Nat.le_of_ble_eq_true rfl) ?_
  refine c_putR (pc := 47) (sh8 := [(8, [4, 2, 2, 2, 2, 2, 2, 2, 2, 0, 0]), (6, [5, 0]), (101, [320]), (7, [2, 2, 0, 0, 2, 2, 0, 0, 0, 0, 0, 0, 0, 0, 0]), (0, [0, 0, 8, 0, 9, 0, 10, 0, 11]), (100, [12]), (100, [16]), (100, [8]), (3, [1, 0])]) d_Circle_init_47 fl_Circle_31 rfl rfl (by decide) (by decide) (Nat.le_of_ble_eq_true rfl) (fun C T N h => by cases h; rfl) rfl ?_
  exact c_return (pc := 50) (st := []) d_Circle_init_50 (Nat.le_of_ble_eq_true rfl) (Nat.le_of_ble_eq_true rfl) rfl rfl
set_option maxRecDepth 20000 in
set_option maxHeartbeats 4000000 in
theorem CC_4 : CtC y_Row_init mtC_Row [Value.ref 10] [(8, [4, 2, 2, 2, 2, 2, 2, 2, 2, 0, 0]), (6, [5, 0]), (101, [320]), (7, [7, 12, 0, 0, 2, 2, 0, 0, 0, 0, 0, 0, 0, 0, 0]), (0, [0, 0, 8, 0, 9, 0, 10, 0, 11]), (100, [12]), (100, [16]), (100, [8]), (3, [1, 0]), (103, [6]), (3, [1, 0])] (si (si zM 4 0 3) 4 1 9) [(8, [4, 2, 2, 2, 2, 2, 2, 2, 2, 0, 0]), (6, [5, 0]), (101, [320]), (7, [7, 12, 0, 0, 2, 2, 0, 0, 0, 0, 0, 0, 0, 0, 0]), (0, [0, 0, 8, 0, 9, 0, 10, 0, 11]), (100, [12]), (100, [16]), (100, [8]), (3, [1, 0]), (103, [6]), (3, [1, 0])] (si (si zM 4 0 3) 4 1 9) 0 0 := by
  refine ctc_of (by decide +kernel) rfl rfl (Nat.le_of_ble_eq_true rfl) ?_
  refine c_aload_n (pc := 0) (q := 0) d_Row_init_0 rfl rfl ?_
  refine c_objInit (pc := 1) d_Row_init_1 oi_Row_3 (Nat.le_of_ble_eq_true rfl) (Nat.le_of_ble_eq_true rfl) ?_
  exact c_return (pc := 4) (st := []) d_Row_init_4 (Nat.le_of_ble_eq_true rfl) (Nat.le_of_ble_eq_true rfl) rfl rfl
set_option maxRecDepth 20000 in
set_option maxHeartbeats 4000000 in
theorem CC_5 : CtC y_Teller_init mtC_Teller [Value.ref 3, Value.ref 1] [(8, [4, 2, 2, 2, 2, 2, 2, 2, 2, 0, 0]), (6, [5, 0]), (101, [320]), (7, [2, 2, 0, 0, 2, 2, 0, 0, 0, 0, 0, 0, 0, 0, 0])] (zM) [(8, [4, 2, 2, 2, 2, 2, 2, 2, 2, 0, 0]), (6, [5, 0]), (101, [320]), (7, [7, 12, 0, 0, 4, 13, 0, 0, 0, 0, 0, 0, 0, 0, 0]), (0, [0, 0, 8, 0, 9, 0, 10, 0, 11]), (100, [12]), (100, [16]), (100, [8]), (3, [1, 0]), (103, [6]), (3, [1, 0])] (si (si zM 4 0 3) 4 1 9) 7 55 := by
  refine ctc_of (by decide +kernel) rfl rfl (Nat.le_of_ble_eq_true rfl) ?_
  refine c_aload_n (pc := 0) (q := 0) d_Teller_init_0 rfl rfl ?_
  refine c_objInit (pc := 1) d_Teller_init_1 oi_Teller_3 (Nat.le_of_ble_eq_true rfl) (Nat.le_of_ble_eq_true rfl) ?_
  refine c_aload_n (pc := 4) (q := 0) d_Teller_init_4 rfl rfl ?_
  refine c_new (pc := 5) (ci := 0) (T := F_Circle) (N := 9) (ds := [0, 0, 2, 0, 2, 0, 2, 0, 2]) (sh8 := [(8, [4, 2, 2, 2, 2, 2, 2, 2, 2, 0, 0]), (6, [5, 0]), (101, [320]), (7, [2, 2, 0, 0, 2, 2, 0, 0, 0, 0, 0, 0, 0, 0, 0]), (0, [0, 0, 2, 0, 2, 0, 2, 0, 2])]) (a9 := 4) d_Teller_init_5 rfl (by decide) i_Circle t_Circle_ok cwl_Teller_9 in_Circle ini_Circle (fun ad j hj => nu_Circle ad j hj) ⟨by funext y; simp [si, zM], by funext y; simp [si, zM]⟩ (Nat.le_of_ble_eq_true rfl) (Nat.le_of_ble_eq_true rfl) (Nat.le_of_ble_eq_true rfl) rfl rfl ?_
  refine c_dup (pc := 8) d_Teller_init_8 rfl ?_
  refine c_initN (pc := 9) (as := []) (a := 4) d_Teller_init_9 CC_3 cN_Teller_11 cd_Circle_init rfl im_Circle_init ini_Circle dn_Circle_init rfl (by decide) (by decide) (Nat.le_of_ble_eq_true rfl) (Nat.le_of_ble_eq_true rfl) (Nat.le_of_ble_eq_true rfl) ?_
  refine c_putR (pc := 12) (sh8 := [(8, [4, 2, 2, 2, 2, 2, 2, 2, 2, 0, 0]), (6, [5, 0]), (101, [320]), (7, [7, 2, 0, 0, 2, 2, 0, 0, 0, 0, 0, 0, 0, 0, 0]), (0, [0, 0, 8, 0, 9, 0, 10, 0, 11]), (100, [12]), (100, [16]), (100, [8]), (3, [1, 0])]) d_Teller_init_12 fl_Teller_12 rfl rfl (by decide) (by decide) (Nat.le_of_ble_eq_true rfl) (fun C T N h => by cases h; rfl) rfl ?_
  refine c_aload_n (pc := 15) (q := 0) d_Teller_init_15 rfl rfl ?_
  refine c_bipush (pc := 16) d_Teller_init_16 k_b_6 ?_
  refine c_newaL (pc := 18) (N := 6) (sh8 := [(8, [4, 2, 2, 2, 2, 2, 2, 2, 2, 0, 0]), (6, [5, 0]), (101, [320]), (7, [7, 2, 0, 0, 2, 2, 0, 0, 0, 0, 0, 0, 0, 0, 0]), (0, [0, 0, 8, 0, 9, 0, 10, 0, 11]), (100, [12]), (100, [16]), (100, [8]), (3, [1, 0]), (103, [6])]) (a9 := 9) d_Teller_init_18 (by decide) (by decide) ac_long (Nat.le_of_ble_eq_true rfl) ⟨by funext y; simp [si, zM], by funext y; simp [si, zM]⟩ (Nat.le_of_ble_eq_true rfl) (Nat.le_of_ble_eq_true rfl) (Nat.le_of_ble_eq_true rfl) rfl rfl ?_
  refine c_putR (pc := 20) (sh8 := [(8, [4, 2, 2, 2, 2, 2, 2, 2, 2, 0, 0]), (6, [5, 0]), (101, [320]), (7, [7, 12, 0, 0, 2, 2, 0, 0, 0, 0, 0, 0, 0, 0, 0]), (0, [0, 0, 8, 0, 9, 0, 10, 0, 11]), (100, [12]), (100, [16]), (100, [8]), (3, [1, 0]), (103, [6])]) d_Teller_init_20 fl_Teller_18 rfl rfl (by decide) (by decide) (Nat.le_of_ble_eq_true rfl) (fun C T N h => by cases h; rfl) rfl ?_
  refine c_aload_n (pc := 23) (q := 0) d_Teller_init_23 rfl rfl ?_
  refine c_new (pc := 24) (ci := 3) (T := F_Row) (N := 2) (ds := [1, 0]) (sh8 := [(8, [4, 2, 2, 2, 2, 2, 2, 2, 2, 0, 0]), (6, [5, 0]), (101, [320]), (7, [7, 12, 0, 0, 2, 2, 0, 0, 0, 0, 0, 0, 0, 0, 0]), (0, [0, 0, 8, 0, 9, 0, 10, 0, 11]), (100, [12]), (100, [16]), (100, [8]), (3, [1, 0]), (103, [6]), (3, [1, 0])]) (a9 := 10) d_Teller_init_24 rfl (by decide) i_Row t_Row_ok cwl_Teller_22 in_Row ini_Row (fun ad j hj => nu_Row ad j hj) ⟨by funext y; simp [si, zM], by funext y; simp [si, zM]⟩ (Nat.le_of_ble_eq_true rfl) (Nat.le_of_ble_eq_true rfl) (Nat.le_of_ble_eq_true rfl) rfl rfl ?_
  refine c_dup (pc := 27) d_Teller_init_27 rfl ?_
  refine c_initN (pc := 28) (as := []) (a := 10) d_Teller_init_28 CC_4 cN_Teller_24 cd_Row_init rfl im_Row_init ini_Row dn_Row_init rfl (by decide) (by decide) (Nat.le_of_ble_eq_true rfl) (Nat.le_of_ble_eq_true rfl) (Nat.le_of_ble_eq_true rfl) ?_
  refine c_putR (pc := 31) (sh8 := [(8, [4, 2, 2, 2, 2, 2, 2, 2, 2, 0, 0]), (6, [5, 0]), (101, [320]), (7, [7, 12, 0, 0, 2, 13, 0, 0, 0, 0, 0, 0, 0, 0, 0]), (0, [0, 0, 8, 0, 9, 0, 10, 0, 11]), (100, [12]), (100, [16]), (100, [8]), (3, [1, 0]), (103, [6]), (3, [1, 0])]) d_Teller_init_31 fl_Teller_25 rfl rfl (by decide) (by decide) (Nat.le_of_ble_eq_true rfl) (fun C T N h => by cases h; rfl) rfl ?_
  refine c_aload_n (pc := 34) (q := 0) d_Teller_init_34 rfl rfl ?_
  refine c_aload_n (pc := 35) (q := 1) d_Teller_init_35 rfl rfl ?_
  refine c_putR (pc := 36) (sh8 := [(8, [4, 2, 2, 2, 2, 2, 2, 2, 2, 0, 0]), (6, [5, 0]), (101, [320]), (7, [7, 12, 0, 0, 4, 13, 0, 0, 0, 0, 0, 0, 0, 0, 0]), (0, [0, 0, 8, 0, 9, 0, 10, 0, 11]), (100, [12]), (100, [16]), (100, [8]), (3, [1, 0]), (103, [6]), (3, [1, 0])]) d_Teller_init_36 fl_Teller_29 rfl rfl (by decide) (by decide) (Nat.le_of_ble_eq_true rfl) (fun C T N h => by cases h; rfl) rfl ?_
  exact c_return (pc := 39) (st := []) d_Teller_init_39 (Nat.le_of_ble_eq_true rfl) (Nat.le_of_ble_eq_true rfl) rfl rfl
set_option maxRecDepth 20000 in
set_option maxHeartbeats 4000000 in
theorem CC_6 : CtC y_Row_init mtC_Row [Value.ref 15] [(8, [4, 6, 2, 2, 2, 2, 2, 2, 2, 0, 0]), (6, [5, 0]), (101, [320]), (7, [7, 12, 0, 0, 4, 13, 0, 0, 0, 0, 0, 0, 0, 0, 0]), (0, [0, 0, 8, 0, 9, 0, 10, 0, 11]), (100, [12]), (100, [16]), (100, [8]), (3, [1, 0]), (103, [6]), (3, [1, 0]), (0, [0, 0, 15, 0, 16, 0, 17, 0, 2]), (100, [12]), (100, [16]), (100, [8]), (3, [1, 0])] (si (si (si (si zM 4 0 3) 4 1 9) 11 0 3) 11 1 9) [(8, [4, 6, 2, 2, 2, 2, 2, 2, 2, 0, 0]), (6, [5, 0]), (101, [320]), (7, [7, 12, 0, 0, 4, 13, 0, 0, 0, 0, 0, 0, 0, 0, 0]), (0, [0, 0, 8, 0, 9, 0, 10, 0, 11]), (100, [12]), (100, [16]), (100, [8]), (3, [1, 0]), (103, [6]), (3, [1, 0]), (0, [0, 0, 15, 0, 16, 0, 17, 0, 2]), (100, [12]), (100, [16]), (100, [8]), (3, [1, 0])] (si (si (si (si zM 4 0 3) 4 1 9) 11 0 3) 11 1 9) 0 0 := by
  refine ctc_of (by decide +kernel) rfl rfl (Nat.le_of_ble_eq_true rfl) ?_
  refine c_aload_n (pc := 0) (q := 0) d_Row_init_0 rfl rfl ?_
  refine c_objInit (pc := 1) d_Row_init_1 oi_Row_3 (Nat.le_of_ble_eq_true rfl) (Nat.le_of_ble_eq_true rfl) ?_
  exact c_return (pc := 4) (st := []) d_Row_init_4 (Nat.le_of_ble_eq_true rfl) (Nat.le_of_ble_eq_true rfl) rfl rfl
set_option maxRecDepth 20000 in
set_option maxHeartbeats 4000000 in
theorem CC_7 : CtC y_Circle_init mtC_Circle [Value.ref 11] [(8, [4, 6, 2, 2, 2, 2, 2, 2, 2, 0, 0]), (6, [5, 0]), (101, [320]), (7, [7, 12, 0, 0, 4, 13, 0, 0, 0, 0, 0, 0, 0, 0, 0]), (0, [0, 0, 8, 0, 9, 0, 10, 0, 11]), (100, [12]), (100, [16]), (100, [8]), (3, [1, 0]), (103, [6]), (3, [1, 0]), (0, [0, 0, 2, 0, 2, 0, 2, 0, 2])] (si (si zM 4 0 3) 4 1 9) [(8, [4, 6, 2, 2, 2, 2, 2, 2, 2, 0, 0]), (6, [5, 0]), (101, [320]), (7, [7, 12, 0, 0, 4, 13, 0, 0, 0, 0, 0, 0, 0, 0, 0]), (0, [0, 0, 8, 0, 9, 0, 10, 0, 11]), (100, [12]), (100, [16]), (100, [8]), (3, [1, 0]), (103, [6]), (3, [1, 0]), (0, [0, 0, 15, 0, 16, 0, 17, 0, 18]), (100, [12]), (100, [16]), (100, [8]), (3, [1, 0])] (si (si (si (si zM 4 0 3) 4 1 9) 11 0 3) 11 1 9) 4 38 := by
  refine ctc_of (by decide +kernel) rfl rfl (Nat.le_of_ble_eq_true rfl) ?_
  refine c_aload_n (pc := 0) (q := 0) d_Circle_init_0 rfl rfl ?_
  refine c_objInit (pc := 1) d_Circle_init_1 oi_Circle_5 (Nat.le_of_ble_eq_true rfl) (Nat.le_of_ble_eq_true rfl) ?_
  refine c_aload_n (pc := 4) (q := 0) d_Circle_init_4 rfl rfl ?_
  refine c_iconst (pc := 5) d_Circle_init_5 k_i_3 ?_
  refine c_putI (pc := 6) d_Circle_init_6 fl_Circle_13 rfl (by decide) (by decide) rfl (Nat.le_of_ble_eq_true rfl) ?_
  refine c_aload_n (pc := 9) (q := 0) d_Circle_init_9 rfl rfl ?_
  refine c_bipush (pc := 10) d_Circle_init_10 k_b_9 ?_
  refine c_putI (pc := 12) d_Circle_init_12 fl_Circle_17 rfl (by decide) (by decide) rfl (Nat.le_of_ble_eq_true rfl) ?_
  refine c_aload_n (pc := 15) (q := 0) d_Circle_init_15 rfl rfl ?_
  refine c_bipush (pc := 16) d_Circle_init_16 k_b_12 ?_
  refine c_newaI (pc := 18) (N := 12) (sh8 := [(8, [4, 6, 2, 2, 2, 2, 2, 2, 2, 0, 0]), (6, [5, 0]), (101, [320]), (7, [7, 12, 0, 0, 4, 13, 0, 0, 0, 0, 0, 0, 0, 0, 0]), (0, [0, 0, 8, 0, 9, 0, 10, 0, 11]), (100, [12]), (100, [16]), (100, [8]), (3, [1, 0]), (103, [6]), (3, [1, 0]), (0, [0, 0, 2, 0, 2, 0, 2, 0, 2]), (100, [12])]) (a9 := 12) d_Circle_init_18 (by decide) (by decide) ac_int (Nat.le_of_ble_eq_true rfl) ⟨by funext y; simp [si, zM], by funext y; simp [si, zM]⟩ (Nat.le_of_ble_eq_true rfl) (Nat.le_of_ble_eq_true rfl) (Nat.le_of_ble_eq_true rfl) rfl rfl ?_
  refine c_putR (pc := 20) (sh8 := [(8, [4, 6, 2, 2, 2, 2, 2, 2, 2, 0, 0]), (6, [5, 0]), (101, [320]), (7, [7, 12, 0, 0, 4, 13, 0, 0, 0, 0, 0, 0, 0, 0, 0]), (0, [0, 0, 8, 0, 9, 0, 10, 0, 11]), (100, [12]), (100, [16]), (100, [8]), (3, [1, 0]), (103, [6]), (3, [1, 0]), (0, [0, 0, 15, 0, 2, 0, 2, 0, 2]), (100, [12])]) d_Circle_init_20 fl_Circle_20 rfl rfl (by decide) (by decide) (Nat.le_of_ble_eq_true rfl) (fun C T N h => by cases h; rfl) rfl ?_
  refine c_aload_n (pc := 23) (q := 0) d_Circle_init_23 rfl rfl ?_
  refine c_bipush (pc := 24) d_Circle_init_24 k_b_16 ?_
  refine c_newaI (pc := 26) (N := 16) (sh8 := [(8, [4, 6, 2, 2, 2, 2, 2, 2, 2, 0, 0]), (6, [5, 0]), (101, [320]), (7, [7, 12, 0, 0, 4, 13, 0, 0, 0, 0, 0, 0, 0, 0, 0]), (0, [0, 0, 8, 0, 9, 0, 10, 0, 11]), (100, [12]), (100, [16]), (100, [8]), (3, [1, 0]), (103, [6]), (3, [1, 0]), (0, [0, 0, 15, 0, 2, 0, 2, 0, 2]), (100, [12]), (100, [16])]) (a9 := 13) d_Circle_init_26 (by decide) (by decide) ac_int (Nat.le_of_ble_eq_true rfl) ⟨by funext y; simp [si, zM], by funext y; simp [si, zM]⟩ (Nat.le_of_ble_eq_true rfl) (Nat.le_of_ble_eq_true rfl) (Nat.le_of_ble_eq_true rfl) rfl rfl ?_
  refine c_putR (pc := 28) (sh8 := [(8, [4, 6, 2, 2, 2, 2, 2, 2, 2, 0, 0]), (6, [5, 0]), (101, [320]), (7, [7, 12, 0, 0, 4, 13, 0, 0, 0, 0, 0, 0, 0, 0, 0]), (0, [0, 0, 8, 0, 9, 0, 10, 0, 11]), (100, [12]), (100, [16]), (100, [8]), (3, [1, 0]), (103, [6]), (3, [1, 0]), (0, [0, 0, 15, 0, 16, 0, 2, 0, 2]), (100, [12]), (100, [16])]) d_Circle_init_28 fl_Circle_24 rfl rfl (by decide) (by decide) (Nat.le_of_ble_eq_true rfl) (fun C T N h => by cases h; rfl) rfl ?_
  refine c_aload_n (pc := 31) (q := 0) d_Circle_init_31 rfl rfl ?_
  refine c_bipush (pc := 32) d_Circle_init_32 k_b_8 ?_
  refine c_newaI (pc := 34) (N := 8) (sh8 := [(8, [4, 6, 2, 2, 2, 2, 2, 2, 2, 0, 0]), (6, [5, 0]), (101, [320]), (7, [7, 12, 0, 0, 4, 13, 0, 0, 0, 0, 0, 0, 0, 0, 0]), (0, [0, 0, 8, 0, 9, 0, 10, 0, 11]), (100, [12]), (100, [16]), (100, [8]), (3, [1, 0]), (103, [6]), (3, [1, 0]), (0, [0, 0, 15, 0, 16, 0, 2, 0, 2]), (100, [12]), (100, [16]), (100, [8])]) (a9 := 14) d_Circle_init_34 (by decide) (by decide) ac_int (Nat.le_of_ble_eq_true rfl) ⟨by funext y; simp [si, zM], by funext y; simp [si, zM]⟩ (Nat.le_of_ble_eq_true rfl) (Nat.le_of_ble_eq_true rfl) (Nat.le_of_ble_eq_true rfl) rfl rfl ?_
  refine c_putR (pc := 36) (sh8 := [(8, [4, 6, 2, 2, 2, 2, 2, 2, 2, 0, 0]), (6, [5, 0]), (101, [320]), (7, [7, 12, 0, 0, 4, 13, 0, 0, 0, 0, 0, 0, 0, 0, 0]), (0, [0, 0, 8, 0, 9, 0, 10, 0, 11]), (100, [12]), (100, [16]), (100, [8]), (3, [1, 0]), (103, [6]), (3, [1, 0]), (0, [0, 0, 15, 0, 16, 0, 17, 0, 2]), (100, [12]), (100, [16]), (100, [8])]) d_Circle_init_36 fl_Circle_27 rfl rfl (by decide) (by decide) (Nat.le_of_ble_eq_true rfl) (fun C T N h => by cases h; rfl) rfl ?_
  refine c_aload_n (pc := 39) (q := 0) d_Circle_init_39 rfl rfl ?_
  refine c_new (pc := 40) (ci := 3) (T := F_Row) (N := 2) (ds := [1, 0]) (sh8 := [(8, [4, 6, 2, 2, 2, 2, 2, 2, 2, 0, 0]), (6, [5, 0]), (101, [320]), (7, [7, 12, 0, 0, 4, 13, 0, 0, 0, 0, 0, 0, 0, 0, 0]), (0, [0, 0, 8, 0, 9, 0, 10, 0, 11]), (100, [12]), (100, [16]), (100, [8]), (3, [1, 0]), (103, [6]), (3, [1, 0]), (0, [0, 0, 15, 0, 16, 0, 17, 0, 2]), (100, [12]), (100, [16]), (100, [8]), (3, [1, 0])]) (a9 := 15) d_Circle_init_40 rfl (by decide) i_Row t_Row_ok cwl_Circle_1 in_Row ini_Row (fun ad j hj => nu_Row ad j hj) ⟨by funext y; simp [si, zM], by funext y; simp [si, zM]⟩ (Nat.le_of_ble_eq_true rfl) (Nat.le_of_ble_eq_true rfl) (Nat.le_of_ble_eq_true rfl) rfl rfl ?_
  refine c_dup (pc := 43) d_Circle_init_43 rfl ?_
  refine c_initN (pc := 44) (as := []) (a := 15) d_Circle_init_44 CC_6 cN_Circle_30 cd_Row_init rfl im_Row_init ini_Row dn_Row_init rfl (by decide) (by decide) (Nat.le_of_ble_eq_true rfl) (Nat.le_of_ble_eq_true rfl) (Nat.le_of_ble_eq_true rfl) ?_
  refine c_putR (pc := 47) (sh8 := [(8, [4, 6, 2, 2, 2, 2, 2, 2, 2, 0, 0]), (6, [5, 0]), (101, [320]), (7, [7, 12, 0, 0, 4, 13, 0, 0, 0, 0, 0, 0, 0, 0, 0]), (0, [0, 0, 8, 0, 9, 0, 10, 0, 11]), (100, [12]), (100, [16]), (100, [8]), (3, [1, 0]), (103, [6]), (3, [1, 0]), (0, [0, 0, 15, 0, 16, 0, 17, 0, 18]), (100, [12]), (100, [16]), (100, [8]), (3, [1, 0])]) d_Circle_init_47 fl_Circle_31 rfl rfl (by decide) (by decide) (Nat.le_of_ble_eq_true rfl) (fun C T N h => by cases h; rfl) rfl ?_
  exact c_return (pc := 50) (st := []) d_Circle_init_50 (Nat.le_of_ble_eq_true rfl) (Nat.le_of_ble_eq_true rfl) rfl rfl
set_option maxRecDepth 20000 in
set_option maxHeartbeats 4000000 in
theorem CC_8 : CtC y_Minds_init mtC_Minds [Value.ref 16] [(8, [4, 6, 14, 2, 2, 2, 2, 2, 2, 0, 0]), (6, [5, 0]), (101, [320]), (7, [7, 12, 0, 0, 4, 13, 0, 0, 0, 0, 0, 0, 0, 0, 0]), (0, [0, 0, 8, 0, 9, 0, 10, 0, 11]), (100, [12]), (100, [16]), (100, [8]), (3, [1, 0]), (103, [6]), (3, [1, 0]), (0, [0, 0, 15, 0, 16, 0, 17, 0, 18]), (100, [12]), (100, [16]), (100, [8]), (3, [1, 0]), (2, [2, 0, 0, 2])] (si (si (si (si zM 4 0 3) 4 1 9) 11 0 3) 11 1 9) [(8, [4, 6, 14, 2, 2, 2, 2, 2, 2, 0, 0]), (6, [5, 0]), (101, [320]), (7, [7, 12, 0, 0, 4, 13, 0, 0, 0, 0, 0, 0, 0, 0, 0]), (0, [0, 0, 8, 0, 9, 0, 10, 0, 11]), (100, [12]), (100, [16]), (100, [8]), (3, [1, 0]), (103, [6]), (3, [1, 0]), (0, [0, 0, 15, 0, 16, 0, 17, 0, 18]), (100, [12]), (100, [16]), (100, [8]), (3, [1, 0]), (2, [20, 0, 0, 21]), (103, [6]), (100, [6])] (si (si (si (si zM 4 0 3) 4 1 9) 11 0 3) 11 1 9) 2 12 := by
  refine ctc_of (by decide +kernel) rfl rfl (Nat.le_of_ble_eq_true rfl) ?_
  refine c_aload_n (pc := 0) (q := 0) d_Minds_init_0 rfl rfl ?_
  refine c_objInit (pc := 1) d_Minds_init_1 oi_Minds_3 (Nat.le_of_ble_eq_true rfl) (Nat.le_of_ble_eq_true rfl) ?_
  refine c_aload_n (pc := 4) (q := 0) d_Minds_init_4 rfl rfl ?_
  refine c_bipush (pc := 5) d_Minds_init_5 k_b_6 ?_
  refine c_newaL (pc := 7) (N := 6) (sh8 := [(8, [4, 6, 14, 2, 2, 2, 2, 2, 2, 0, 0]), (6, [5, 0]), (101, [320]), (7, [7, 12, 0, 0, 4, 13, 0, 0, 0, 0, 0, 0, 0, 0, 0]), (0, [0, 0, 8, 0, 9, 0, 10, 0, 11]), (100, [12]), (100, [16]), (100, [8]), (3, [1, 0]), (103, [6]), (3, [1, 0]), (0, [0, 0, 15, 0, 16, 0, 17, 0, 18]), (100, [12]), (100, [16]), (100, [8]), (3, [1, 0]), (2, [2, 0, 0, 2]), (103, [6])]) (a9 := 17) d_Minds_init_7 (by decide) (by decide) ac_long (Nat.le_of_ble_eq_true rfl) ⟨by funext y; simp [si, zM], by funext y; simp [si, zM]⟩ (Nat.le_of_ble_eq_true rfl) (Nat.le_of_ble_eq_true rfl) (Nat.le_of_ble_eq_true rfl) rfl rfl ?_
  refine c_putR (pc := 9) (sh8 := [(8, [4, 6, 14, 2, 2, 2, 2, 2, 2, 0, 0]), (6, [5, 0]), (101, [320]), (7, [7, 12, 0, 0, 4, 13, 0, 0, 0, 0, 0, 0, 0, 0, 0]), (0, [0, 0, 8, 0, 9, 0, 10, 0, 11]), (100, [12]), (100, [16]), (100, [8]), (3, [1, 0]), (103, [6]), (3, [1, 0]), (0, [0, 0, 15, 0, 16, 0, 17, 0, 18]), (100, [12]), (100, [16]), (100, [8]), (3, [1, 0]), (2, [20, 0, 0, 2]), (103, [6])]) d_Minds_init_9 fl_Minds_9 rfl rfl (by decide) (by decide) (Nat.le_of_ble_eq_true rfl) (fun C T N h => by cases h; rfl) rfl ?_
  refine c_aload_n (pc := 12) (q := 0) d_Minds_init_12 rfl rfl ?_
  refine c_bipush (pc := 13) d_Minds_init_13 k_b_6 ?_
  refine c_newaI (pc := 15) (N := 6) (sh8 := [(8, [4, 6, 14, 2, 2, 2, 2, 2, 2, 0, 0]), (6, [5, 0]), (101, [320]), (7, [7, 12, 0, 0, 4, 13, 0, 0, 0, 0, 0, 0, 0, 0, 0]), (0, [0, 0, 8, 0, 9, 0, 10, 0, 11]), (100, [12]), (100, [16]), (100, [8]), (3, [1, 0]), (103, [6]), (3, [1, 0]), (0, [0, 0, 15, 0, 16, 0, 17, 0, 18]), (100, [12]), (100, [16]), (100, [8]), (3, [1, 0]), (2, [20, 0, 0, 2]), (103, [6]), (100, [6])]) (a9 := 18) d_Minds_init_15 (by decide) (by decide) ac_int (Nat.le_of_ble_eq_true rfl) ⟨by funext y; simp [si, zM], by funext y; simp [si, zM]⟩ (Nat.le_of_ble_eq_true rfl) (Nat.le_of_ble_eq_true rfl) (Nat.le_of_ble_eq_true rfl) rfl rfl ?_
  refine c_putR (pc := 17) (sh8 := [(8, [4, 6, 14, 2, 2, 2, 2, 2, 2, 0, 0]), (6, [5, 0]), (101, [320]), (7, [7, 12, 0, 0, 4, 13, 0, 0, 0, 0, 0, 0, 0, 0, 0]), (0, [0, 0, 8, 0, 9, 0, 10, 0, 11]), (100, [12]), (100, [16]), (100, [8]), (3, [1, 0]), (103, [6]), (3, [1, 0]), (0, [0, 0, 15, 0, 16, 0, 17, 0, 18]), (100, [12]), (100, [16]), (100, [8]), (3, [1, 0]), (2, [20, 0, 0, 21]), (103, [6]), (100, [6])]) d_Minds_init_17 fl_Minds_15 rfl rfl (by decide) (by decide) (Nat.le_of_ble_eq_true rfl) (fun C T N h => by cases h; rfl) rfl ?_
  exact c_return (pc := 20) (st := []) d_Minds_init_20 (Nat.le_of_ble_eq_true rfl) (Nat.le_of_ble_eq_true rfl) rfl rfl
set_option maxRecDepth 20000 in
set_option maxHeartbeats 4000000 in
theorem CC_9 : CtC y_Minds_init mtC_Minds [Value.ref 20] [(8, [4, 6, 14, 19, 22, 2, 2, 2, 2, 0, 0]), (6, [5, 0]), (101, [320]), (7, [7, 12, 0, 0, 4, 13, 0, 0, 0, 0, 0, 0, 0, 0, 0]), (0, [0, 0, 8, 0, 9, 0, 10, 0, 11]), (100, [12]), (100, [16]), (100, [8]), (3, [1, 0]), (103, [6]), (3, [1, 0]), (0, [0, 0, 15, 0, 16, 0, 17, 0, 18]), (100, [12]), (100, [16]), (100, [8]), (3, [1, 0]), (2, [20, 0, 0, 21]), (103, [6]), (100, [6]), (104, [0, 0]), (2, [2, 0, 0, 2])] (si (si (si (si zM 4 0 3) 4 1 9) 11 0 3) 11 1 9) [(8, [4, 6, 14, 19, 22, 2, 2, 2, 2, 0, 0]), (6, [5, 0]), (101, [320]), (7, [7, 12, 0, 0, 4, 13, 0, 0, 0, 0, 0, 0, 0, 0, 0]), (0, [0, 0, 8, 0, 9, 0, 10, 0, 11]), (100, [12]), (100, [16]), (100, [8]), (3, [1, 0]), (103, [6]), (3, [1, 0]), (0, [0, 0, 15, 0, 16, 0, 17, 0, 18]), (100, [12]), (100, [16]), (100, [8]), (3, [1, 0]), (2, [20, 0, 0, 21]), (103, [6]), (100, [6]), (104, [0, 0]), (2, [24, 0, 0, 25]), (103, [6]), (100, [6])] (si (si (si (si zM 4 0 3) 4 1 9) 11 0 3) 11 1 9) 2 12 := by
  refine ctc_of (by decide +kernel) rfl rfl (Nat.le_of_ble_eq_true rfl) ?_
  refine c_aload_n (pc := 0) (q := 0) d_Minds_init_0 rfl rfl ?_
  refine c_objInit (pc := 1) d_Minds_init_1 oi_Minds_3 (Nat.le_of_ble_eq_true rfl) (Nat.le_of_ble_eq_true rfl) ?_
  refine c_aload_n (pc := 4) (q := 0) d_Minds_init_4 rfl rfl ?_
  refine c_bipush (pc := 5) d_Minds_init_5 k_b_6 ?_
  refine c_newaL (pc := 7) (N := 6) (sh8 := [(8, [4, 6, 14, 19, 22, 2, 2, 2, 2, 0, 0]), (6, [5, 0]), (101, [320]), (7, [7, 12, 0, 0, 4, 13, 0, 0, 0, 0, 0, 0, 0, 0, 0]), (0, [0, 0, 8, 0, 9, 0, 10, 0, 11]), (100, [12]), (100, [16]), (100, [8]), (3, [1, 0]), (103, [6]), (3, [1, 0]), (0, [0, 0, 15, 0, 16, 0, 17, 0, 18]), (100, [12]), (100, [16]), (100, [8]), (3, [1, 0]), (2, [20, 0, 0, 21]), (103, [6]), (100, [6]), (104, [0, 0]), (2, [2, 0, 0, 2]), (103, [6])]) (a9 := 21) d_Minds_init_7 (by decide) (by decide) ac_long (Nat.le_of_ble_eq_true rfl) ⟨by funext y; simp [si, zM], by funext y; simp [si, zM]⟩ (Nat.le_of_ble_eq_true rfl) (Nat.le_of_ble_eq_true rfl) (Nat.le_of_ble_eq_true rfl) rfl rfl ?_
  refine c_putR (pc := 9) (sh8 := [(8, [4, 6, 14, 19, 22, 2, 2, 2, 2, 0, 0]), (6, [5, 0]), (101, [320]), (7, [7, 12, 0, 0, 4, 13, 0, 0, 0, 0, 0, 0, 0, 0, 0]), (0, [0, 0, 8, 0, 9, 0, 10, 0, 11]), (100, [12]), (100, [16]), (100, [8]), (3, [1, 0]), (103, [6]), (3, [1, 0]), (0, [0, 0, 15, 0, 16, 0, 17, 0, 18]), (100, [12]), (100, [16]), (100, [8]), (3, [1, 0]), (2, [20, 0, 0, 21]), (103, [6]), (100, [6]), (104, [0, 0]), (2, [24, 0, 0, 2]), (103, [6])]) d_Minds_init_9 fl_Minds_9 rfl rfl (by decide) (by decide) (Nat.le_of_ble_eq_true rfl) (fun C T N h => by cases h; rfl) rfl ?_
  refine c_aload_n (pc := 12) (q := 0) d_Minds_init_12 rfl rfl ?_
  refine c_bipush (pc := 13) d_Minds_init_13 k_b_6 ?_
  refine c_newaI (pc := 15) (N := 6) (sh8 := [(8, [4, 6, 14, 19, 22, 2, 2, 2, 2, 0, 0]), (6, [5, 0]), (101, [320]), (7, [7, 12, 0, 0, 4, 13, 0, 0, 0, 0, 0, 0, 0, 0, 0]), (0, [0, 0, 8, 0, 9, 0, 10, 0, 11]), (100, [12]), (100, [16]), (100, [8]), (3, [1, 0]), (103, [6]), (3, [1, 0]), (0, [0, 0, 15, 0, 16, 0, 17, 0, 18]), (100, [12]), (100, [16]), (100, [8]), (3, [1, 0]), (2, [20, 0, 0, 21]), (103, [6]), (100, [6]), (104, [0, 0]), (2, [24, 0, 0, 2]), (103, [6]), (100, [6])]) (a9 := 22) d_Minds_init_15 (by decide) (by decide) ac_int (Nat.le_of_ble_eq_true rfl) ⟨by funext y; simp [si, zM], by funext y; simp [si, zM]⟩ (Nat.le_of_ble_eq_true rfl) (Nat.le_of_ble_eq_true rfl) (Nat.le_of_ble_eq_true rfl) rfl rfl ?_
  refine c_putR (pc := 17) (sh8 := [(8, [4, 6, 14, 19, 22, 2, 2, 2, 2, 0, 0]), (6, [5, 0]), (101, [320]), (7, [7, 12, 0, 0, 4, 13, 0, 0, 0, 0, 0, 0, 0, 0, 0]), (0, [0, 0, 8, 0, 9, 0, 10, 0, 11]), (100, [12]), (100, [16]), (100, [8]), (3, [1, 0]), (103, [6]), (3, [1, 0]), (0, [0, 0, 15, 0, 16, 0, 17, 0, 18]), (100, [12]), (100, [16]), (100, [8]), (3, [1, 0]), (2, [20, 0, 0, 21]), (103, [6]), (100, [6]), (104, [0, 0]), (2, [24, 0, 0, 25]), (103, [6]), (100, [6])]) d_Minds_init_17 fl_Minds_15 rfl rfl (by decide) (by decide) (Nat.le_of_ble_eq_true rfl) (fun C T N h => by cases h; rfl) rfl ?_
  exact c_return (pc := 20) (st := []) d_Minds_init_20 (Nat.le_of_ble_eq_true rfl) (Nat.le_of_ble_eq_true rfl) rfl rfl
set_option maxRecDepth 20000 in
set_option maxHeartbeats 4000000 in
theorem CC_10 : CtC y_Minds_init mtC_Minds [Value.ref 23] [(8, [4, 6, 14, 19, 22, 2, 2, 2, 2, 0, 0]), (6, [5, 0]), (101, [320]), (7, [7, 12, 0, 0, 4, 13, 0, 0, 0, 0, 0, 0, 0, 0, 0]), (0, [0, 0, 8, 0, 9, 0, 10, 0, 11]), (100, [12]), (100, [16]), (100, [8]), (3, [1, 0]), (103, [6]), (3, [1, 0]), (0, [0, 0, 15, 0, 16, 0, 17, 0, 18]), (100, [12]), (100, [16]), (100, [8]), (3, [1, 0]), (2, [20, 0, 0, 21]), (103, [6]), (100, [6]), (104, [21, 0]), (2, [24, 0, 0, 25]), (103, [6]), (100, [6]), (2, [2, 0, 0, 2])] (si (si (si (si zM 4 0 3) 4 1 9) 11 0 3) 11 1 9) [(8, [4, 6, 14, 19, 22, 2, 2, 2, 2, 0, 0]), (6, [5, 0]), (101, [320]), (7, [7, 12, 0, 0, 4, 13, 0, 0, 0, 0, 0, 0, 0, 0, 0]), (0, [0, 0, 8, 0, 9, 0, 10, 0, 11]), (100, [12]), (100, [16]), (100, [8]), (3, [1, 0]), (103, [6]), (3, [1, 0]), (0, [0, 0, 15, 0, 16, 0, 17, 0, 18]), (100, [12]), (100, [16]), (100, [8]), (3, [1, 0]), (2, [20, 0, 0, 21]), (103, [6]), (100, [6]), (104, [21, 0]), (2, [24, 0, 0, 25]), (103, [6]), (100, [6]), (2, [27, 0, 0, 28]), (103, [6]), (100, [6])] (si (si (si (si zM 4 0 3) 4 1 9) 11 0 3) 11 1 9) 2 12 := by
  refine ctc_of (by decide +kernel) rfl rfl (Nat.le_of_ble_eq_true rfl) ?_
  refine c_aload_n (pc := 0) (q := 0) d_Minds_init_0 rfl rfl ?_
  refine c_objInit (pc := 1) d_Minds_init_1 oi_Minds_3 (Nat.le_of_ble_eq_true rfl) (Nat.le_of_ble_eq_true rfl) ?_
  refine c_aload_n (pc := 4) (q := 0) d_Minds_init_4 rfl rfl ?_
  refine c_bipush (pc := 5) d_Minds_init_5 k_b_6 ?_
  refine c_newaL (pc := 7) (N := 6) (sh8 := [(8, [4, 6, 14, 19, 22, 2, 2, 2, 2, 0, 0]), (6, [5, 0]), (101, [320]), (7, [7, 12, 0, 0, 4, 13, 0, 0, 0, 0, 0, 0, 0, 0, 0]), (0, [0, 0, 8, 0, 9, 0, 10, 0, 11]), (100, [12]), (100, [16]), (100, [8]), (3, [1, 0]), (103, [6]), (3, [1, 0]), (0, [0, 0, 15, 0, 16, 0, 17, 0, 18]), (100, [12]), (100, [16]), (100, [8]), (3, [1, 0]), (2, [20, 0, 0, 21]), (103, [6]), (100, [6]), (104, [21, 0]), (2, [24, 0, 0, 25]), (103, [6]), (100, [6]), (2, [2, 0, 0, 2]), (103, [6])]) (a9 := 24) d_Minds_init_7 (by decide) (by decide) ac_long (Nat.le_of_ble_eq_true rfl) ⟨by funext y; simp [si, zM], by funext y; simp [si, zM]⟩ (Nat.le_of_ble_eq_true rfl) (Nat.le_of_ble_eq_true rfl) (Nat.le_of_ble_eq_true rfl) rfl rfl ?_
  refine c_putR (pc := 9) (sh8 := [(8, [4, 6, 14, 19, 22, 2, 2, 2, 2, 0, 0]), (6, [5, 0]), (101, [320]), (7, [7, 12, 0, 0, 4, 13, 0, 0, 0, 0, 0, 0, 0, 0, 0]), (0, [0, 0, 8, 0, 9, 0, 10, 0, 11]), (100, [12]), (100, [16]), (100, [8]), (3, [1, 0]), (103, [6]), (3, [1, 0]), (0, [0, 0, 15, 0, 16, 0, 17, 0, 18]), (100, [12]), (100, [16]), (100, [8]), (3, [1, 0]), (2, [20, 0, 0, 21]), (103, [6]), (100, [6]), (104, [21, 0]), (2, [24, 0, 0, 25]), (103, [6]), (100, [6]), (2, [27, 0, 0, 2]), (103, [6])]) d_Minds_init_9 fl_Minds_9 rfl rfl (by decide) (by decide) (Nat.le_of_ble_eq_true rfl) (fun C T N h => by cases h; rfl) rfl ?_
  refine c_aload_n (pc := 12) (q := 0) d_Minds_init_12 rfl rfl ?_
  refine c_bipush (pc := 13) d_Minds_init_13 k_b_6 ?_
  refine c_newaI (pc := 15) (N := 6) (sh8 := [(8, [4, 6, 14, 19, 22, 2, 2, 2, 2, 0, 0]), (6, [5, 0]), (101, [320]), (7, [7, 12, 0, 0, 4, 13, 0, 0, 0, 0, 0, 0, 0, 0, 0]), (0, [0, 0, 8, 0, 9, 0, 10, 0, 11]), (100, [12]), (100, [16]), (100, [8]), (3, [1, 0]), (103, [6]), (3, [1, 0]), (0, [0, 0, 15, 0, 16, 0, 17, 0, 18]), (100, [12]), (100, [16]), (100, [8]), (3, [1, 0]), (2, [20, 0, 0, 21]), (103, [6]), (100, [6]), (104, [21, 0]), (2, [24, 0, 0, 25]), (103, [6]), (100, [6]), (2, [27, 0, 0, 2]), (103, [6]), (100, [6])]) (a9 := 25) d_Minds_init_15 (by decide) (by decide) ac_int (Nat.le_of_ble_eq_true rfl) ⟨by funext y; simp [si, zM], by funext y; simp [si, zM]⟩ (Nat.le_of_ble_eq_true rfl) (Nat.le_of_ble_eq_true rfl) (Nat.le_of_ble_eq_true rfl) rfl rfl ?_
  refine c_putR (pc := 17) (sh8 := [(8, [4, 6, 14, 19, 22, 2, 2, 2, 2, 0, 0]), (6, [5, 0]), (101, [320]), (7, [7, 12, 0, 0, 4, 13, 0, 0, 0, 0, 0, 0, 0, 0, 0]), (0, [0, 0, 8, 0, 9, 0, 10, 0, 11]), (100, [12]), (100, [16]), (100, [8]), (3, [1, 0]), (103, [6]), (3, [1, 0]), (0, [0, 0, 15, 0, 16, 0, 17, 0, 18]), (100, [12]), (100, [16]), (100, [8]), (3, [1, 0]), (2, [20, 0, 0, 21]), (103, [6]), (100, [6]), (104, [21, 0]), (2, [24, 0, 0, 25]), (103, [6]), (100, [6]), (2, [27, 0, 0, 28]), (103, [6]), (100, [6])]) d_Minds_init_17 fl_Minds_15 rfl rfl (by decide) (by decide) (Nat.le_of_ble_eq_true rfl) (fun C T N h => by cases h; rfl) rfl ?_
  exact c_return (pc := 20) (st := []) d_Minds_init_20 (Nat.le_of_ble_eq_true rfl) (Nat.le_of_ble_eq_true rfl) rfl rfl
set_option maxRecDepth 20000 in
set_option maxHeartbeats 4000000 in
theorem CC_11 : CtC y_Search_init mtC_Search [Value.ref 26, Value.ref 11, Value.ref 16] [(8, [4, 6, 14, 19, 22, 2, 2, 2, 2, 0, 0]), (6, [5, 0]), (101, [320]), (7, [7, 12, 0, 0, 4, 13, 0, 0, 0, 0, 0, 0, 0, 0, 0]), (0, [0, 0, 8, 0, 9, 0, 10, 0, 11]), (100, [12]), (100, [16]), (100, [8]), (3, [1, 0]), (103, [6]), (3, [1, 0]), (0, [0, 0, 15, 0, 16, 0, 17, 0, 18]), (100, [12]), (100, [16]), (100, [8]), (3, [1, 0]), (2, [20, 0, 0, 21]), (103, [6]), (100, [6]), (104, [21, 24]), (2, [24, 0, 0, 25]), (103, [6]), (100, [6]), (2, [27, 0, 0, 28]), (103, [6]), (100, [6]), (4, [2, 2, 0, 0, 0, 2, 2, 2, 0, 0, 0, 0, 0])] (si (si (si (si zM 4 0 3) 4 1 9) 11 0 3) 11 1 9) [(8, [4, 6, 14, 19, 22, 2, 2, 2, 2, 0, 0]), (6, [5, 0]), (101, [320]), (7, [7, 12, 0, 0, 4, 13, 0, 0, 0, 0, 0, 0, 0, 0, 0]), (0, [0, 0, 8, 0, 9, 0, 10, 0, 11]), (100, [12]), (100, [16]), (100, [8]), (3, [1, 0]), (103, [6]), (3, [1, 0]), (0, [0, 0, 15, 0, 16, 0, 17, 0, 18]), (100, [12]), (100, [16]), (100, [8]), (3, [1, 0]), (2, [20, 0, 0, 21]), (103, [6]), (100, [6]), (104, [21, 24]), (2, [24, 0, 0, 25]), (103, [6]), (100, [6]), (2, [27, 0, 0, 28]), (103, [6]), (100, [6]), (4, [30, 31, 0, 0, 0, 32, 14, 19, 0, 0, 0, 0, 0]), (100, [6]), (100, [6]), (106, [31, 32, 33, 34, 35, 36, 37]), (103, [6]), (103, [6]), (103, [6]), (103, [6]), (103, [6]), (103, [6]), (103, [6])] (si (si (si (si zM 4 0 3) 4 1 9) 11 0 3) 11 1 9) 10 61 := by
  refine ctc_of (by decide +kernel) rfl rfl (Nat.le_of_ble_eq_true rfl) ?_
  refine c_aload_n (pc := 0) (q := 0) d_Search_init_0 rfl rfl ?_
  refine c_objInit (pc := 1) d_Search_init_1 oi_Search_3 (Nat.le_of_ble_eq_true rfl) (Nat.le_of_ble_eq_true rfl) ?_
  refine c_aload_n (pc := 4) (q := 0) d_Search_init_4 rfl rfl ?_
  refine c_bipush (pc := 5) d_Search_init_5 k_b_6 ?_
  refine c_newaI (pc := 7) (N := 6) (sh8 := [(8, [4, 6, 14, 19, 22, 2, 2, 2, 2, 0, 0]), (6, [5, 0]), (101, [320]), (7, [7, 12, 0, 0, 4, 13, 0, 0, 0, 0, 0, 0, 0, 0, 0]), (0, [0, 0, 8, 0, 9, 0, 10, 0, 11]), (100, [12]), (100, [16]), (100, [8]), (3, [1, 0]), (103, [6]), (3, [1, 0]), (0, [0, 0, 15, 0, 16, 0, 17, 0, 18]), (100, [12]), (100, [16]), (100, [8]), (3, [1, 0]), (2, [20, 0, 0, 21]), (103, [6]), (100, [6]), (104, [21, 24]), (2, [24, 0, 0, 25]), (103, [6]), (100, [6]), (2, [27, 0, 0, 28]), (103, [6]), (100, [6]), (4, [2, 2, 0, 0, 0, 2, 2, 2, 0, 0, 0, 0, 0]), (100, [6])]) (a9 := 27) d_Search_init_7 (by decide) (by decide) ac_int (Nat.le_of_ble_eq_true rfl) ⟨by funext y; simp [si, zM], by funext y; simp [si, zM]⟩ (Nat.le_of_ble_eq_true rfl) (Nat.le_of_ble_eq_true rfl) (Nat.le_of_ble_eq_true rfl) rfl rfl ?_
  refine c_putR (pc := 9) (sh8 := [(8, [4, 6, 14, 19, 22, 2, 2, 2, 2, 0, 0]), (6, [5, 0]), (101, [320]), (7, [7, 12, 0, 0, 4, 13, 0, 0, 0, 0, 0, 0, 0, 0, 0]), (0, [0, 0, 8, 0, 9, 0, 10, 0, 11]), (100, [12]), (100, [16]), (100, [8]), (3, [1, 0]), (103, [6]), (3, [1, 0]), (0, [0, 0, 15, 0, 16, 0, 17, 0, 18]), (100, [12]), (100, [16]), (100, [8]), (3, [1, 0]), (2, [20, 0, 0, 21]), (103, [6]), (100, [6]), (104, [21, 24]), (2, [24, 0, 0, 25]), (103, [6]), (100, [6]), (2, [27, 0, 0, 28]), (103, [6]), (100, [6]), (4, [30, 2, 0, 0, 0, 2, 2, 2, 0, 0, 0, 0, 0]), (100, [6])]) d_Search_init_9 fl_Search_11 rfl rfl (by decide) (by decide) (Nat.le_of_ble_eq_true rfl) (fun C T N h => by cases h; rfl) rfl ?_
  refine c_aload_n (pc := 12) (q := 0) d_Search_init_12 rfl rfl ?_
  refine c_bipush (pc := 13) d_Search_init_13 k_b_6 ?_
  refine c_newaI (pc := 15) (N := 6) (sh8 := [(8, [4, 6, 14, 19, 22, 2, 2, 2, 2, 0, 0]), (6, [5, 0]), (101, [320]), (7, [7, 12, 0, 0, 4, 13, 0, 0, 0, 0, 0, 0, 0, 0, 0]), (0, [0, 0, 8, 0, 9, 0, 10, 0, 11]), (100, [12]), (100, [16]), (100, [8]), (3, [1, 0]), (103, [6]), (3, [1, 0]), (0, [0, 0, 15, 0, 16, 0, 17, 0, 18]), (100, [12]), (100, [16]), (100, [8]), (3, [1, 0]), (2, [20, 0, 0, 21]), (103, [6]), (100, [6]), (104, [21, 24]), (2, [24, 0, 0, 25]), (103, [6]), (100, [6]), (2, [27, 0, 0, 28]), (103, [6]), (100, [6]), (4, [30, 2, 0, 0, 0, 2, 2, 2, 0, 0, 0, 0, 0]), (100, [6]), (100, [6])]) (a9 := 28) d_Search_init_15 (by decide) (by decide) ac_int (Nat.le_of_ble_eq_true rfl) ⟨by funext y; simp [si, zM], by funext y; simp [si, zM]⟩ (Nat.le_of_ble_eq_true rfl) (Nat.le_of_ble_eq_true rfl) (Nat.le_of_ble_eq_true rfl) rfl rfl ?_
  refine c_putR (pc := 17) (sh8 := [(8, [4, 6, 14, 19, 22, 2, 2, 2, 2, 0, 0]), (6, [5, 0]), (101, [320]), (7, [7, 12, 0, 0, 4, 13, 0, 0, 0, 0, 0, 0, 0, 0, 0]), (0, [0, 0, 8, 0, 9, 0, 10, 0, 11]), (100, [12]), (100, [16]), (100, [8]), (3, [1, 0]), (103, [6]), (3, [1, 0]), (0, [0, 0, 15, 0, 16, 0, 17, 0, 18]), (100, [12]), (100, [16]), (100, [8]), (3, [1, 0]), (2, [20, 0, 0, 21]), (103, [6]), (100, [6]), (104, [21, 24]), (2, [24, 0, 0, 25]), (103, [6]), (100, [6]), (2, [27, 0, 0, 28]), (103, [6]), (100, [6]), (4, [30, 31, 0, 0, 0, 2, 2, 2, 0, 0, 0, 0, 0]), (100, [6]), (100, [6])]) d_Search_init_17 fl_Search_15 rfl rfl (by decide) (by decide) (Nat.le_of_ble_eq_true rfl) (fun C T N h => by cases h; rfl) rfl ?_
  refine c_aload_n (pc := 20) (q := 0) d_Search_init_20 rfl rfl ?_
  refine c_bipush (pc := 21) d_Search_init_21 k_b_7 ?_
  refine c_bipush (pc := 23) d_Search_init_23 k_b_6 ?_
  refine c_mna (pc := 25) (sh8 := [(8, [4, 6, 14, 19, 22, 2, 2, 2, 2, 0, 0]), (6, [5, 0]), (101, [320]), (7, [7, 12, 0, 0, 4, 13, 0, 0, 0, 0, 0, 0, 0, 0, 0]), (0, [0, 0, 8, 0, 9, 0, 10, 0, 11]), (100, [12]), (100, [16]), (100, [8]), (3, [1, 0]), (103, [6]), (3, [1, 0]), (0, [0, 0, 15, 0, 16, 0, 17, 0, 18]), (100, [12]), (100, [16]), (100, [8]), (3, [1, 0]), (2, [20, 0, 0, 21]), (103, [6]), (100, [6]), (104, [21, 24]), (2, [24, 0, 0, 25]), (103, [6]), (100, [6]), (2, [27, 0, 0, 28]), (103, [6]), (100, [6]), (4, [30, 31, 0, 0, 0, 2, 2, 2, 0, 0, 0, 0, 0]), (100, [6]), (100, [6]), (106, [31, 32, 33, 34, 35, 36, 37]), (103, [6]), (103, [6]), (103, [6]), (103, [6]), (103, [6]), (103, [6]), (103, [6])]) (a9 := 29) d_Search_init_25 cwl_Search_18 ac_long (by decide) (Nat.le_of_ble_eq_true rfl) (Nat.le_of_ble_eq_true rfl) (Nat.le_of_ble_eq_true rfl) rfl rfl ?_
  refine c_putR (pc := 29) (sh8 := [(8, [4, 6, 14, 19, 22, 2, 2, 2, 2, 0, 0]), (6, [5, 0]), (101, [320]), (7, [7, 12, 0, 0, 4, 13, 0, 0, 0, 0, 0, 0, 0, 0, 0]), (0, [0, 0, 8, 0, 9, 0, 10, 0, 11]), (100, [12]), (100, [16]), (100, [8]), (3, [1, 0]), (103, [6]), (3, [1, 0]), (0, [0, 0, 15, 0, 16, 0, 17, 0, 18]), (100, [12]), (100, [16]), (100, [8]), (3, [1, 0]), (2, [20, 0, 0, 21]), (103, [6]), (100, [6]), (104, [21, 24]), (2, [24, 0, 0, 25]), (103, [6]), (100, [6]), (2, [27, 0, 0, 28]), (103, [6]), (100, [6]), (4, [30, 31, 0, 0, 0, 32, 2, 2, 0, 0, 0, 0, 0]), (100, [6]), (100, [6]), (106, [31, 32, 33, 34, 35, 36, 37]), (103, [6]), (103, [6]), (103, [6]), (103, [6]), (103, [6]), (103, [6]), (103, [6])]) d_Search_init_29 fl_Search_20 rfl rfl (by decide) (by decide) (Nat.le_of_ble_eq_true rfl) (fun C T N h => by cases h; rfl) rfl ?_
  refine c_aload_n (pc := 32) (q := 0) d_Search_init_32 rfl rfl ?_
  refine c_aload_n (pc := 33) (q := 1) d_Search_init_33 rfl rfl ?_
  refine c_putR (pc := 34) (sh8 := [(8, [4, 6, 14, 19, 22, 2, 2, 2, 2, 0, 0]), (6, [5, 0]), (101, [320]), (7, [7, 12, 0, 0, 4, 13, 0, 0, 0, 0, 0, 0, 0, 0, 0]), (0, [0, 0, 8, 0, 9, 0, 10, 0, 11]), (100, [12]), (100, [16]), (100, [8]), (3, [1, 0]), (103, [6]), (3, [1, 0]), (0, [0, 0, 15, 0, 16, 0, 17, 0, 18]), (100, [12]), (100, [16]), (100, [8]), (3, [1, 0]), (2, [20, 0, 0, 21]), (103, [6]), (100, [6]), (104, [21, 24]), (2, [24, 0, 0, 25]), (103, [6]), (100, [6]), (2, [27, 0, 0, 28]), (103, [6]), (100, [6]), (4, [30, 31, 0, 0, 0, 32, 14, 2, 0, 0, 0, 0, 0]), (100, [6]), (100, [6]), (106, [31, 32, 33, 34, 35, 36, 37]), (103, [6]), (103, [6]), (103, [6]), (103, [6]), (103, [6]), (103, [6]), (103, [6])]) d_Search_init_34 fl_Search_23 rfl rfl (by decide) (by decide) (Nat.le_of_ble_eq_true rfl) (fun C T N h => by cases h; rfl) rfl ?_
  refine c_aload_n (pc := 37) (q := 0) d_Search_init_37 rfl rfl ?_
  refine c_aload_n (pc := 38) (q := 2) d_Search_init_38 rfl rfl ?_
  refine c_putR (pc := 39) (sh8 := [(8, [4, 6, 14, 19, 22, 2, 2, 2, 2, 0, 0]), (6, [5, 0]), (101, [320]), (7, [7, 12, 0, 0, 4, 13, 0, 0, 0, 0, 0, 0, 0, 0, 0]), (0, [0, 0, 8, 0, 9, 0, 10, 0, 11]), (100, [12]), (100, [16]), (100, [8]), (3, [1, 0]), (103, [6]), (3, [1, 0]), (0, [0, 0, 15, 0, 16, 0, 17, 0, 18]), (100, [12]), (100, [16]), (100, [8]), (3, [1, 0]), (2, [20, 0, 0, 21]), (103, [6]), (100, [6]), (104, [21, 24]), (2, [24, 0, 0, 25]), (103, [6]), (100, [6]), (2, [27, 0, 0, 28]), (103, [6]), (100, [6]), (4, [30, 31, 0, 0, 0, 32, 14, 19, 0, 0, 0, 0, 0]), (100, [6]), (100, [6]), (106, [31, 32, 33, 34, 35, 36, 37]), (103, [6]), (103, [6]), (103, [6]), (103, [6]), (103, [6]), (103, [6]), (103, [6])]) d_Search_init_39 fl_Search_27 rfl rfl (by decide) (by decide) (Nat.le_of_ble_eq_true rfl) (fun C T N h => by cases h; rfl) rfl ?_
  exact c_return (pc := 42) (st := []) d_Search_init_42 (Nat.le_of_ble_eq_true rfl) (Nat.le_of_ble_eq_true rfl) rfl rfl
set_option maxRecDepth 20000 in
set_option maxHeartbeats 4000000 in
theorem CC_12 : CtC y_Habit_init mtC_Habit [Value.ref 37, Value.ref 11, Value.ref 16] [(8, [4, 6, 14, 19, 22, 29, 2, 2, 2, 0, 0]), (6, [5, 0]), (101, [320]), (7, [7, 12, 0, 0, 4, 13, 0, 0, 0, 0, 0, 0, 0, 0, 0]), (0, [0, 0, 8, 0, 9, 0, 10, 0, 11]), (100, [12]), (100, [16]), (100, [8]), (3, [1, 0]), (103, [6]), (3, [1, 0]), (0, [0, 0, 15, 0, 16, 0, 17, 0, 18]), (100, [12]), (100, [16]), (100, [8]), (3, [1, 0]), (2, [20, 0, 0, 21]), (103, [6]), (100, [6]), (104, [21, 24]), (2, [24, 0, 0, 25]), (103, [6]), (100, [6]), (2, [27, 0, 0, 28]), (103, [6]), (100, [6]), (4, [30, 31, 0, 0, 0, 32, 14, 19, 0, 0, 0, 0, 0]), (100, [6]), (100, [6]), (106, [31, 32, 33, 34, 35, 36, 37]), (103, [6]), (103, [6]), (103, [6]), (103, [6]), (103, [6]), (103, [6]), (103, [6]), (1, [2, 2, 2, 2])] (si (si (si (si zM 4 0 3) 4 1 9) 11 0 3) 11 1 9) [(8, [4, 6, 14, 19, 22, 29, 2, 2, 2, 0, 0]), (6, [5, 0]), (101, [320]), (7, [7, 12, 0, 0, 4, 13, 0, 0, 0, 0, 0, 0, 0, 0, 0]), (0, [0, 0, 8, 0, 9, 0, 10, 0, 11]), (100, [12]), (100, [16]), (100, [8]), (3, [1, 0]), (103, [6]), (3, [1, 0]), (0, [0, 0, 15, 0, 16, 0, 17, 0, 18]), (100, [12]), (100, [16]), (100, [8]), (3, [1, 0]), (2, [20, 0, 0, 21]), (103, [6]), (100, [6]), (104, [21, 24]), (2, [24, 0, 0, 25]), (103, [6]), (100, [6]), (2, [27, 0, 0, 28]), (103, [6]), (100, [6]), (4, [30, 31, 0, 0, 0, 32, 14, 19, 0, 0, 0, 0, 0]), (100, [6]), (100, [6]), (106, [31, 32, 33, 34, 35, 36, 37]), (103, [6]), (103, [6]), (103, [6]), (103, [6]), (103, [6]), (103, [6]), (103, [6]), (1, [41, 42, 14, 19]), (103, [1206]), (103, [6])] (si (si (si (si zM 4 0 3) 4 1 9) 11 0 3) 11 1 9) 2 1212 := by
  refine ctc_of (by decide +kernel) rfl rfl (Nat.le_of_ble_eq_true rfl) ?_
  refine c_aload_n (pc := 0) (q := 0) d_Habit_init_0 rfl rfl ?_
  refine c_objInit (pc := 1) d_Habit_init_1 oi_Habit_3 (Nat.le_of_ble_eq_true rfl) (Nat.le_of_ble_eq_true rfl) ?_
  refine c_aload_n (pc := 4) (q := 0) d_Habit_init_4 rfl rfl ?_
  refine c_sipush (pc := 5) d_Habit_init_5 k_s_1206 ?_
  refine c_newaL (pc := 8) (N := 1206) (sh8 := [(8, [4, 6, 14, 19, 22, 29, 2, 2, 2, 0, 0]), (6, [5, 0]), (101, [320]), (7, [7, 12, 0, 0, 4, 13, 0, 0, 0, 0, 0, 0, 0, 0, 0]), (0, [0, 0, 8, 0, 9, 0, 10, 0, 11]), (100, [12]), (100, [16]), (100, [8]), (3, [1, 0]), (103, [6]), (3, [1, 0]), (0, [0, 0, 15, 0, 16, 0, 17, 0, 18]), (100, [12]), (100, [16]), (100, [8]), (3, [1, 0]), (2, [20, 0, 0, 21]), (103, [6]), (100, [6]), (104, [21, 24]), (2, [24, 0, 0, 25]), (103, [6]), (100, [6]), (2, [27, 0, 0, 28]), (103, [6]), (100, [6]), (4, [30, 31, 0, 0, 0, 32, 14, 19, 0, 0, 0, 0, 0]), (100, [6]), (100, [6]), (106, [31, 32, 33, 34, 35, 36, 37]), (103, [6]), (103, [6]), (103, [6]), (103, [6]), (103, [6]), (103, [6]), (103, [6]), (1, [2, 2, 2, 2]), (103, [1206])]) (a9 := 38) d_Habit_init_8 (by decide) (by decide) ac_long (Nat.le_of_ble_eq_true rfl) ⟨by funext y; simp [si, zM], by funext y; simp [si, zM]⟩ (Nat.le_of_ble_eq_true rfl) (Nat.le_of_ble_eq_true rfl) (Nat.le_of_ble_eq_true rfl) rfl rfl ?_
  refine c_putR (pc := 10) (sh8 := [(8, [4, 6, 14, 19, 22, 29, 2, 2, 2, 0, 0]), (6, [5, 0]), (101, [320]), (7, [7, 12, 0, 0, 4, 13, 0, 0, 0, 0, 0, 0, 0, 0, 0]), (0, [0, 0, 8, 0, 9, 0, 10, 0, 11]), (100, [12]), (100, [16]), (100, [8]), (3, [1, 0]), (103, [6]), (3, [1, 0]), (0, [0, 0, 15, 0, 16, 0, 17, 0, 18]), (100, [12]), (100, [16]), (100, [8]), (3, [1, 0]), (2, [20, 0, 0, 21]), (103, [6]), (100, [6]), (104, [21, 24]), (2, [24, 0, 0, 25]), (103, [6]), (100, [6]), (2, [27, 0, 0, 28]), (103, [6]), (100, [6]), (4, [30, 31, 0, 0, 0, 32, 14, 19, 0, 0, 0, 0, 0]), (100, [6]), (100, [6]), (106, [31, 32, 33, 34, 35, 36, 37]), (103, [6]), (103, [6]), (103, [6]), (103, [6]), (103, [6]), (103, [6]), (103, [6]), (1, [41, 2, 2, 2]), (103, [1206])]) d_Habit_init_10 fl_Habit_11 rfl rfl (by decide) (by decide) (Nat.le_of_ble_eq_true rfl) (fun C T N h => by cases h; rfl) rfl ?_
  refine c_aload_n (pc := 13) (q := 0) d_Habit_init_13 rfl rfl ?_
  refine c_bipush (pc := 14) d_Habit_init_14 k_b_6 ?_
  refine c_newaL (pc := 16) (N := 6) (sh8 := [(8, [4, 6, 14, 19, 22, 29, 2, 2, 2, 0, 0]), (6, [5, 0]), (101, [320]), (7, [7, 12, 0, 0, 4, 13, 0, 0, 0, 0, 0, 0, 0, 0, 0]), (0, [0, 0, 8, 0, 9, 0, 10, 0, 11]), (100, [12]), (100, [16]), (100, [8]), (3, [1, 0]), (103, [6]), (3, [1, 0]), (0, [0, 0, 15, 0, 16, 0, 17, 0, 18]), (100, [12]), (100, [16]), (100, [8]), (3, [1, 0]), (2, [20, 0, 0, 21]), (103, [6]), (100, [6]), (104, [21, 24]), (2, [24, 0, 0, 25]), (103, [6]), (100, [6]), (2, [27, 0, 0, 28]), (103, [6]), (100, [6]), (4, [30, 31, 0, 0, 0, 32, 14, 19, 0, 0, 0, 0, 0]), (100, [6]), (100, [6]), (106, [31, 32, 33, 34, 35, 36, 37]), (103, [6]), (103, [6]), (103, [6]), (103, [6]), (103, [6]), (103, [6]), (103, [6]), (1, [41, 2, 2, 2]), (103, [1206]), (103, [6])]) (a9 := 39) d_Habit_init_16 (by decide) (by decide) ac_long (Nat.le_of_ble_eq_true rfl) ⟨by funext y; simp [si, zM], by funext y; simp [si, zM]⟩ (Nat.le_of_ble_eq_true rfl) (Nat.le_of_ble_eq_true rfl) (Nat.le_of_ble_eq_true rfl) rfl rfl ?_
  refine c_putR (pc := 18) (sh8 := [(8, [4, 6, 14, 19, 22, 29, 2, 2, 2, 0, 0]), (6, [5, 0]), (101, [320]), (7, [7, 12, 0, 0, 4, 13, 0, 0, 0, 0, 0, 0, 0, 0, 0]), (0, [0, 0, 8, 0, 9, 0, 10, 0, 11]), (100, [12]), (100, [16]), (100, [8]), (3, [1, 0]), (103, [6]), (3, [1, 0]), (0, [0, 0, 15, 0, 16, 0, 17, 0, 18]), (100, [12]), (100, [16]), (100, [8]), (3, [1, 0]), (2, [20, 0, 0, 21]), (103, [6]), (100, [6]), (104, [21, 24]), (2, [24, 0, 0, 25]), (103, [6]), (100, [6]), (2, [27, 0, 0, 28]), (103, [6]), (100, [6]), (4, [30, 31, 0, 0, 0, 32, 14, 19, 0, 0, 0, 0, 0]), (100, [6]), (100, [6]), (106, [31, 32, 33, 34, 35, 36, 37]), (103, [6]), (103, [6]), (103, [6]), (103, [6]), (103, [6]), (103, [6]), (103, [6]), (1, [41, 42, 2, 2]), (103, [1206]), (103, [6])]) d_Habit_init_18 fl_Habit_15 rfl rfl (by decide) (by decide) (Nat.le_of_ble_eq_true rfl) (fun C T N h => by cases h; rfl) rfl ?_
  refine c_aload_n (pc := 21) (q := 0) d_Habit_init_21 rfl rfl ?_
  refine c_aload_n (pc := 22) (q := 1) d_Habit_init_22 rfl rfl ?_
  refine c_putR (pc := 23) (sh8 := [(8, [4, 6, 14, 19, 22, 29, 2, 2, 2, 0, 0]), (6, [5, 0]), (101, [320]), (7, [7, 12, 0, 0, 4, 13, 0, 0, 0, 0, 0, 0, 0, 0, 0]), (0, [0, 0, 8, 0, 9, 0, 10, 0, 11]), (100, [12]), (100, [16]), (100, [8]), (3, [1, 0]), (103, [6]), (3, [1, 0]), (0, [0, 0, 15, 0, 16, 0, 17, 0, 18]), (100, [12]), (100, [16]), (100, [8]), (3, [1, 0]), (2, [20, 0, 0, 21]), (103, [6]), (100, [6]), (104, [21, 24]), (2, [24, 0, 0, 25]), (103, [6]), (100, [6]), (2, [27, 0, 0, 28]), (103, [6]), (100, [6]), (4, [30, 31, 0, 0, 0, 32, 14, 19, 0, 0, 0, 0, 0]), (100, [6]), (100, [6]), (106, [31, 32, 33, 34, 35, 36, 37]), (103, [6]), (103, [6]), (103, [6]), (103, [6]), (103, [6]), (103, [6]), (103, [6]), (1, [41, 42, 14, 2]), (103, [1206]), (103, [6])]) d_Habit_init_23 fl_Habit_18 rfl rfl (by decide) (by decide) (Nat.le_of_ble_eq_true rfl) (fun C T N h => by cases h; rfl) rfl ?_
  refine c_aload_n (pc := 26) (q := 0) d_Habit_init_26 rfl rfl ?_
  refine c_aload_n (pc := 27) (q := 2) d_Habit_init_27 rfl rfl ?_
  refine c_putR (pc := 28) (sh8 := [(8, [4, 6, 14, 19, 22, 29, 2, 2, 2, 0, 0]), (6, [5, 0]), (101, [320]), (7, [7, 12, 0, 0, 4, 13, 0, 0, 0, 0, 0, 0, 0, 0, 0]), (0, [0, 0, 8, 0, 9, 0, 10, 0, 11]), (100, [12]), (100, [16]), (100, [8]), (3, [1, 0]), (103, [6]), (3, [1, 0]), (0, [0, 0, 15, 0, 16, 0, 17, 0, 18]), (100, [12]), (100, [16]), (100, [8]), (3, [1, 0]), (2, [20, 0, 0, 21]), (103, [6]), (100, [6]), (104, [21, 24]), (2, [24, 0, 0, 25]), (103, [6]), (100, [6]), (2, [27, 0, 0, 28]), (103, [6]), (100, [6]), (4, [30, 31, 0, 0, 0, 32, 14, 19, 0, 0, 0, 0, 0]), (100, [6]), (100, [6]), (106, [31, 32, 33, 34, 35, 36, 37]), (103, [6]), (103, [6]), (103, [6]), (103, [6]), (103, [6]), (103, [6]), (103, [6]), (1, [41, 42, 14, 19]), (103, [1206]), (103, [6])]) d_Habit_init_28 fl_Habit_22 rfl rfl (by decide) (by decide) (Nat.le_of_ble_eq_true rfl) (fun C T N h => by cases h; rfl) rfl ?_
  exact c_return (pc := 31) (st := []) d_Habit_init_31 (Nat.le_of_ble_eq_true rfl) (Nat.le_of_ble_eq_true rfl) rfl rfl
set_option maxRecDepth 20000 in
set_option maxHeartbeats 4000000 in
theorem CC_13 : CtC y_Sheet_init mtC_Sheet [Value.ref 41] [(8, [4, 6, 14, 19, 22, 29, 40, 43, 2, 0, 0]), (6, [5, 0]), (101, [320]), (7, [7, 12, 0, 0, 4, 13, 0, 0, 0, 0, 0, 0, 0, 0, 0]), (0, [0, 0, 8, 0, 9, 0, 10, 0, 11]), (100, [12]), (100, [16]), (100, [8]), (3, [1, 0]), (103, [6]), (3, [1, 0]), (0, [0, 0, 15, 0, 16, 0, 17, 0, 18]), (100, [12]), (100, [16]), (100, [8]), (3, [1, 0]), (2, [20, 0, 0, 21]), (103, [6]), (100, [6]), (104, [21, 24]), (2, [24, 0, 0, 25]), (103, [6]), (100, [6]), (2, [27, 0, 0, 28]), (103, [6]), (100, [6]), (4, [30, 31, 0, 0, 0, 32, 14, 19, 0, 0, 0, 0, 0]), (100, [6]), (100, [6]), (106, [31, 32, 33, 34, 35, 36, 37]), (103, [6]), (103, [6]), (103, [6]), (103, [6]), (103, [6]), (103, [6]), (103, [6]), (1, [41, 42, 14, 19]), (103, [1206]), (103, [6]), (105, [0, 0, 0, 0]), (5, [0, 0, 0, 2])] (si (si (si (si zM 4 0 3) 4 1 9) 11 0 3) 11 1 9) [(8, [4, 6, 14, 19, 22, 29, 40, 43, 2, 0, 0]), (6, [5, 0]), (101, [320]), (7, [7, 12, 0, 0, 4, 13, 0, 0, 0, 0, 0, 0, 0, 0, 0]), (0, [0, 0, 8, 0, 9, 0, 10, 0, 11]), (100, [12]), (100, [16]), (100, [8]), (3, [1, 0]), (103, [6]), (3, [1, 0]), (0, [0, 0, 15, 0, 16, 0, 17, 0, 18]), (100, [12]), (100, [16]), (100, [8]), (3, [1, 0]), (2, [20, 0, 0, 21]), (103, [6]), (100, [6]), (104, [21, 24]), (2, [24, 0, 0, 25]), (103, [6]), (100, [6]), (2, [27, 0, 0, 28]), (103, [6]), (100, [6]), (4, [30, 31, 0, 0, 0, 32, 14, 19, 0, 0, 0, 0, 0]), (100, [6]), (100, [6]), (106, [31, 32, 33, 34, 35, 36, 37]), (103, [6]), (103, [6]), (103, [6]), (103, [6]), (103, [6]), (103, [6]), (103, [6]), (1, [41, 42, 14, 19]), (103, [1206]), (103, [6]), (105, [0, 0, 0, 0]), (5, [0, 0, 0, 45]), (100, [40])] (si (si (si (si zM 4 0 3) 4 1 9) 11 0 3) 11 1 9) 1 40 := by
  refine ctc_of (by decide +kernel) rfl rfl (Nat.le_of_ble_eq_true rfl) ?_
  refine c_aload_n (pc := 0) (q := 0) d_Sheet_init_0 rfl rfl ?_
  refine c_objInit (pc := 1) d_Sheet_init_1 oi_Sheet_1 (Nat.le_of_ble_eq_true rfl) (Nat.le_of_ble_eq_true rfl) ?_
  refine c_aload_n (pc := 4) (q := 0) d_Sheet_init_4 rfl rfl ?_
  refine c_bipush (pc := 5) d_Sheet_init_5 k_b_40 ?_
  refine c_newaI (pc := 7) (N := 40) (sh8 := [(8, [4, 6, 14, 19, 22, 29, 40, 43, 2, 0, 0]), (6, [5, 0]), (101, [320]), (7, [7, 12, 0, 0, 4, 13, 0, 0, 0, 0, 0, 0, 0, 0, 0]), (0, [0, 0, 8, 0, 9, 0, 10, 0, 11]), (100, [12]), (100, [16]), (100, [8]), (3, [1, 0]), (103, [6]), (3, [1, 0]), (0, [0, 0, 15, 0, 16, 0, 17, 0, 18]), (100, [12]), (100, [16]), (100, [8]), (3, [1, 0]), (2, [20, 0, 0, 21]), (103, [6]), (100, [6]), (104, [21, 24]), (2, [24, 0, 0, 25]), (103, [6]), (100, [6]), (2, [27, 0, 0, 28]), (103, [6]), (100, [6]), (4, [30, 31, 0, 0, 0, 32, 14, 19, 0, 0, 0, 0, 0]), (100, [6]), (100, [6]), (106, [31, 32, 33, 34, 35, 36, 37]), (103, [6]), (103, [6]), (103, [6]), (103, [6]), (103, [6]), (103, [6]), (103, [6]), (1, [41, 42, 14, 19]), (103, [1206]), (103, [6]), (105, [0, 0, 0, 0]), (5, [0, 0, 0, 2]), (100, [40])]) (a9 := 42) d_Sheet_init_7 (by decide) (by decide) ac_int (Nat.le_of_ble_eq_true rfl) ⟨by funext y; simp [si, zM], by funext y; simp [si, zM]⟩ (Nat.le_of_ble_eq_true rfl) (Nat.le_of_ble_eq_true rfl) (Nat.le_of_ble_eq_true rfl) rfl rfl ?_
  refine c_putR (pc := 9) (sh8 := [(8, [4, 6, 14, 19, 22, 29, 40, 43, 2, 0, 0]), (6, [5, 0]), (101, [320]), (7, [7, 12, 0, 0, 4, 13, 0, 0, 0, 0, 0, 0, 0, 0, 0]), (0, [0, 0, 8, 0, 9, 0, 10, 0, 11]), (100, [12]), (100, [16]), (100, [8]), (3, [1, 0]), (103, [6]), (3, [1, 0]), (0, [0, 0, 15, 0, 16, 0, 17, 0, 18]), (100, [12]), (100, [16]), (100, [8]), (3, [1, 0]), (2, [20, 0, 0, 21]), (103, [6]), (100, [6]), (104, [21, 24]), (2, [24, 0, 0, 25]), (103, [6]), (100, [6]), (2, [27, 0, 0, 28]), (103, [6]), (100, [6]), (4, [30, 31, 0, 0, 0, 32, 14, 19, 0, 0, 0, 0, 0]), (100, [6]), (100, [6]), (106, [31, 32, 33, 34, 35, 36, 37]), (103, [6]), (103, [6]), (103, [6]), (103, [6]), (103, [6]), (103, [6]), (103, [6]), (1, [41, 42, 14, 19]), (103, [1206]), (103, [6]), (105, [0, 0, 0, 0]), (5, [0, 0, 0, 45]), (100, [40])]) d_Sheet_init_9 fl_Sheet_9 rfl rfl (by decide) (by decide) (Nat.le_of_ble_eq_true rfl) (fun C T N h => by cases h; rfl) rfl ?_
  exact c_return (pc := 12) (st := []) d_Sheet_init_12 (Nat.le_of_ble_eq_true rfl) (Nat.le_of_ble_eq_true rfl) rfl rfl
set_option maxRecDepth 20000 in
set_option maxHeartbeats 4000000 in
theorem CC_14 : CtC y_Sheet_init mtC_Sheet [Value.ref 43] [(8, [4, 6, 14, 19, 22, 29, 40, 43, 2, 0, 0]), (6, [5, 0]), (101, [320]), (7, [7, 12, 0, 0, 4, 13, 0, 0, 0, 0, 0, 0, 0, 0, 0]), (0, [0, 0, 8, 0, 9, 0, 10, 0, 11]), (100, [12]), (100, [16]), (100, [8]), (3, [1, 0]), (103, [6]), (3, [1, 0]), (0, [0, 0, 15, 0, 16, 0, 17, 0, 18]), (100, [12]), (100, [16]), (100, [8]), (3, [1, 0]), (2, [20, 0, 0, 21]), (103, [6]), (100, [6]), (104, [21, 24]), (2, [24, 0, 0, 25]), (103, [6]), (100, [6]), (2, [27, 0, 0, 28]), (103, [6]), (100, [6]), (4, [30, 31, 0, 0, 0, 32, 14, 19, 0, 0, 0, 0, 0]), (100, [6]), (100, [6]), (106, [31, 32, 33, 34, 35, 36, 37]), (103, [6]), (103, [6]), (103, [6]), (103, [6]), (103, [6]), (103, [6]), (103, [6]), (1, [41, 42, 14, 19]), (103, [1206]), (103, [6]), (105, [42, 0, 0, 0]), (5, [0, 0, 0, 45]), (100, [40]), (5, [0, 0, 0, 2])] (si (si (si (si zM 4 0 3) 4 1 9) 11 0 3) 11 1 9) [(8, [4, 6, 14, 19, 22, 29, 40, 43, 2, 0, 0]), (6, [5, 0]), (101, [320]), (7, [7, 12, 0, 0, 4, 13, 0, 0, 0, 0, 0, 0, 0, 0, 0]), (0, [0, 0, 8, 0, 9, 0, 10, 0, 11]), (100, [12]), (100, [16]), (100, [8]), (3, [1, 0]), (103, [6]), (3, [1, 0]), (0, [0, 0, 15, 0, 16, 0, 17, 0, 18]), (100, [12]), (100, [16]), (100, [8]), (3, [1, 0]), (2, [20, 0, 0, 21]), (103, [6]), (100, [6]), (104, [21, 24]), (2, [24, 0, 0, 25]), (103, [6]), (100, [6]), (2, [27, 0, 0, 28]), (103, [6]), (100, [6]), (4, [30, 31, 0, 0, 0, 32, 14, 19, 0, 0, 0, 0, 0]), (100, [6]), (100, [6]), (106, [31, 32, 33, 34, 35, 36, 37]), (103, [6]), (103, [6]), (103, [6]), (103, [6]), (103, [6]), (103, [6]), (103, [6]), (1, [41, 42, 14, 19]), (103, [1206]), (103, [6]), (105, [42, 0, 0, 0]), (5, [0, 0, 0, 45]), (100, [40]), (5, [0, 0, 0, 47]), (100, [40])] (si (si (si (si zM 4 0 3) 4 1 9) 11 0 3) 11 1 9) 1 40 := by
  refine ctc_of (by decide +kernel) rfl rfl (Nat.le_of_ble_eq_true rfl) ?_
  refine c_aload_n (pc := 0) (q := 0) d_Sheet_init_0 rfl rfl ?_
  refine c_objInit (pc := 1) d_Sheet_init_1 oi_Sheet_1 (Nat.le_of_ble_eq_true rfl) (Nat.le_of_ble_eq_true rfl) ?_
  refine c_aload_n (pc := 4) (q := 0) d_Sheet_init_4 rfl rfl ?_
  refine c_bipush (pc := 5) d_Sheet_init_5 k_b_40 ?_
  refine c_newaI (pc := 7) (N := 40) (sh8 := [(8, [4, 6, 14, 19, 22, 29, 40, 43, 2, 0, 0]), (6, [5, 0]), (101, [320]), (7, [7, 12, 0, 0, 4, 13, 0, 0, 0, 0, 0, 0, 0, 0, 0]), (0, [0, 0, 8, 0, 9, 0, 10, 0, 11]), (100, [12]), (100, [16]), (100, [8]), (3, [1, 0]), (103, [6]), (3, [1, 0]), (0, [0, 0, 15, 0, 16, 0, 17, 0, 18]), (100, [12]), (100, [16]), (100, [8]), (3, [1, 0]), (2, [20, 0, 0, 21]), (103, [6]), (100, [6]), (104, [21, 24]), (2, [24, 0, 0, 25]), (103, [6]), (100, [6]), (2, [27, 0, 0, 28]), (103, [6]), (100, [6]), (4, [30, 31, 0, 0, 0, 32, 14, 19, 0, 0, 0, 0, 0]), (100, [6]), (100, [6]), (106, [31, 32, 33, 34, 35, 36, 37]), (103, [6]), (103, [6]), (103, [6]), (103, [6]), (103, [6]), (103, [6]), (103, [6]), (1, [41, 42, 14, 19]), (103, [1206]), (103, [6]), (105, [42, 0, 0, 0]), (5, [0, 0, 0, 45]), (100, [40]), (5, [0, 0, 0, 2]), (100, [40])]) (a9 := 44) d_Sheet_init_7 (by decide) (by decide) ac_int (Nat.le_of_ble_eq_true rfl) ⟨by funext y; simp [si, zM], by funext y; simp [si, zM]⟩ (Nat.le_of_ble_eq_true rfl) (Nat.le_of_ble_eq_true rfl) (Nat.le_of_ble_eq_true rfl) rfl rfl ?_
  refine c_putR (pc := 9) (sh8 := [(8, [4, 6, 14, 19, 22, 29, 40, 43, 2, 0, 0]), (6, [5, 0]), (101, [320]), (7, [7, 12, 0, 0, 4, 13, 0, 0, 0, 0, 0, 0, 0, 0, 0]), (0, [0, 0, 8, 0, 9, 0, 10, 0, 11]), (100, [12]), (100, [16]), (100, [8]), (3, [1, 0]), (103, [6]), (3, [1, 0]), (0, [0, 0, 15, 0, 16, 0, 17, 0, 18]), (100, [12]), (100, [16]), (100, [8]), (3, [1, 0]), (2, [20, 0, 0, 21]), (103, [6]), (100, [6]), (104, [21, 24]), (2, [24, 0, 0, 25]), (103, [6]), (100, [6]), (2, [27, 0, 0, 28]), (103, [6]), (100, [6]), (4, [30, 31, 0, 0, 0, 32, 14, 19, 0, 0, 0, 0, 0]), (100, [6]), (100, [6]), (106, [31, 32, 33, 34, 35, 36, 37]), (103, [6]), (103, [6]), (103, [6]), (103, [6]), (103, [6]), (103, [6]), (103, [6]), (1, [41, 42, 14, 19]), (103, [1206]), (103, [6]), (105, [42, 0, 0, 0]), (5, [0, 0, 0, 45]), (100, [40]), (5, [0, 0, 0, 47]), (100, [40])]) d_Sheet_init_9 fl_Sheet_9 rfl rfl (by decide) (by decide) (Nat.le_of_ble_eq_true rfl) (fun C T N h => by cases h; rfl) rfl ?_
  exact c_return (pc := 12) (st := []) d_Sheet_init_12 (Nat.le_of_ble_eq_true rfl) (Nat.le_of_ble_eq_true rfl) rfl rfl
set_option maxRecDepth 20000 in
set_option maxHeartbeats 4000000 in
theorem CC_15 : CtC y_Sheet_init mtC_Sheet [Value.ref 45] [(8, [4, 6, 14, 19, 22, 29, 40, 43, 2, 0, 0]), (6, [5, 0]), (101, [320]), (7, [7, 12, 0, 0, 4, 13, 0, 0, 0, 0, 0, 0, 0, 0, 0]), (0, [0, 0, 8, 0, 9, 0, 10, 0, 11]), (100, [12]), (100, [16]), (100, [8]), (3, [1, 0]), (103, [6]), (3, [1, 0]), (0, [0, 0, 15, 0, 16, 0, 17, 0, 18]), (100, [12]), (100, [16]), (100, [8]), (3, [1, 0]), (2, [20, 0, 0, 21]), (103, [6]), (100, [6]), (104, [21, 24]), (2, [24, 0, 0, 25]), (103, [6]), (100, [6]), (2, [27, 0, 0, 28]), (103, [6]), (100, [6]), (4, [30, 31, 0, 0, 0, 32, 14, 19, 0, 0, 0, 0, 0]), (100, [6]), (100, [6]), (106, [31, 32, 33, 34, 35, 36, 37]), (103, [6]), (103, [6]), (103, [6]), (103, [6]), (103, [6]), (103, [6]), (103, [6]), (1, [41, 42, 14, 19]), (103, [1206]), (103, [6]), (105, [42, 44, 0, 0]), (5, [0, 0, 0, 45]), (100, [40]), (5, [0, 0, 0, 47]), (100, [40]), (5, [0, 0, 0, 2])] (si (si (si (si zM 4 0 3) 4 1 9) 11 0 3) 11 1 9) [(8, [4, 6, 14, 19, 22, 29, 40, 43, 2, 0, 0]), (6, [5, 0]), (101, [320]), (7, [7, 12, 0, 0, 4, 13, 0, 0, 0, 0, 0, 0, 0, 0, 0]), (0, [0, 0, 8, 0, 9, 0, 10, 0, 11]), (100, [12]), (100, [16]), (100, [8]), (3, [1, 0]), (103, [6]), (3, [1, 0]), (0, [0, 0, 15, 0, 16, 0, 17, 0, 18]), (100, [12]), (100, [16]), (100, [8]), (3, [1, 0]), (2, [20, 0, 0, 21]), (103, [6]), (100, [6]), (104, [21, 24]), (2, [24, 0, 0, 25]), (103, [6]), (100, [6]), (2, [27, 0, 0, 28]), (103, [6]), (100, [6]), (4, [30, 31, 0, 0, 0, 32, 14, 19, 0, 0, 0, 0, 0]), (100, [6]), (100, [6]), (106, [31, 32, 33, 34, 35, 36, 37]), (103, [6]), (103, [6]), (103, [6]), (103, [6]), (103, [6]), (103, [6]), (103, [6]), (1, [41, 42, 14, 19]), (103, [1206]), (103, [6]), (105, [42, 44, 0, 0]), (5, [0, 0, 0, 45]), (100, [40]), (5, [0, 0, 0, 47]), (100, [40]), (5, [0, 0, 0, 49]), (100, [40])] (si (si (si (si zM 4 0 3) 4 1 9) 11 0 3) 11 1 9) 1 40 := by
  refine ctc_of (by decide +kernel) rfl rfl (Nat.le_of_ble_eq_true rfl) ?_
  refine c_aload_n (pc := 0) (q := 0) d_Sheet_init_0 rfl rfl ?_
  refine c_objInit (pc := 1) d_Sheet_init_1 oi_Sheet_1 (Nat.le_of_ble_eq_true rfl) (Nat.le_of_ble_eq_true rfl) ?_
  refine c_aload_n (pc := 4) (q := 0) d_Sheet_init_4 rfl rfl ?_
  refine c_bipush (pc := 5) d_Sheet_init_5 k_b_40 ?_
  refine c_newaI (pc := 7) (N := 40) (sh8 := [(8, [4, 6, 14, 19, 22, 29, 40, 43, 2, 0, 0]), (6, [5, 0]), (101, [320]), (7, [7, 12, 0, 0, 4, 13, 0, 0, 0, 0, 0, 0, 0, 0, 0]), (0, [0, 0, 8, 0, 9, 0, 10, 0, 11]), (100, [12]), (100, [16]), (100, [8]), (3, [1, 0]), (103, [6]), (3, [1, 0]), (0, [0, 0, 15, 0, 16, 0, 17, 0, 18]), (100, [12]), (100, [16]), (100, [8]), (3, [1, 0]), (2, [20, 0, 0, 21]), (103, [6]), (100, [6]), (104, [21, 24]), (2, [24, 0, 0, 25]), (103, [6]), (100, [6]), (2, [27, 0, 0, 28]), (103, [6]), (100, [6]), (4, [30, 31, 0, 0, 0, 32, 14, 19, 0, 0, 0, 0, 0]), (100, [6]), (100, [6]), (106, [31, 32, 33, 34, 35, 36, 37]), (103, [6]), (103, [6]), (103, [6]), (103, [6]), (103, [6]), (103, [6]), (103, [6]), (1, [41, 42, 14, 19]), (103, [1206]), (103, [6]), (105, [42, 44, 0, 0]), (5, [0, 0, 0, 45]), (100, [40]), (5, [0, 0, 0, 47]), (100, [40]), (5, [0, 0, 0, 2]), (100, [40])]) (a9 := 46) d_Sheet_init_7 (by decide) (by decide) ac_int (Nat.le_of_ble_eq_true rfl) ⟨by funext y; simp [si, zM], by funext y; simp [si, zM]⟩ (Nat.le_of_ble_eq_true rfl) (Nat.le_of_ble_eq_true rfl) (Nat.le_of_ble_eq_true rfl) rfl rfl ?_
  refine c_putR (pc := 9) (sh8 := [(8, [4, 6, 14, 19, 22, 29, 40, 43, 2, 0, 0]), (6, [5, 0]), (101, [320]), (7, [7, 12, 0, 0, 4, 13, 0, 0, 0, 0, 0, 0, 0, 0, 0]), (0, [0, 0, 8, 0, 9, 0, 10, 0, 11]), (100, [12]), (100, [16]), (100, [8]), (3, [1, 0]), (103, [6]), (3, [1, 0]), (0, [0, 0, 15, 0, 16, 0, 17, 0, 18]), (100, [12]), (100, [16]), (100, [8]), (3, [1, 0]), (2, [20, 0, 0, 21]), (103, [6]), (100, [6]), (104, [21, 24]), (2, [24, 0, 0, 25]), (103, [6]), (100, [6]), (2, [27, 0, 0, 28]), (103, [6]), (100, [6]), (4, [30, 31, 0, 0, 0, 32, 14, 19, 0, 0, 0, 0, 0]), (100, [6]), (100, [6]), (106, [31, 32, 33, 34, 35, 36, 37]), (103, [6]), (103, [6]), (103, [6]), (103, [6]), (103, [6]), (103, [6]), (103, [6]), (1, [41, 42, 14, 19]), (103, [1206]), (103, [6]), (105, [42, 44, 0, 0]), (5, [0, 0, 0, 45]), (100, [40]), (5, [0, 0, 0, 47]), (100, [40]), (5, [0, 0, 0, 49]), (100, [40])]) d_Sheet_init_9 fl_Sheet_9 rfl rfl (by decide) (by decide) (Nat.le_of_ble_eq_true rfl) (fun C T N h => by cases h; rfl) rfl ?_
  exact c_return (pc := 12) (st := []) d_Sheet_init_12 (Nat.le_of_ble_eq_true rfl) (Nat.le_of_ble_eq_true rfl) rfl rfl
set_option maxRecDepth 20000 in
set_option maxHeartbeats 4000000 in
theorem CC_16 : CtC y_Sheet_init mtC_Sheet [Value.ref 47] [(8, [4, 6, 14, 19, 22, 29, 40, 43, 2, 0, 0]), (6, [5, 0]), (101, [320]), (7, [7, 12, 0, 0, 4, 13, 0, 0, 0, 0, 0, 0, 0, 0, 0]), (0, [0, 0, 8, 0, 9, 0, 10, 0, 11]), (100, [12]), (100, [16]), (100, [8]), (3, [1, 0]), (103, [6]), (3, [1, 0]), (0, [0, 0, 15, 0, 16, 0, 17, 0, 18]), (100, [12]), (100, [16]), (100, [8]), (3, [1, 0]), (2, [20, 0, 0, 21]), (103, [6]), (100, [6]), (104, [21, 24]), (2, [24, 0, 0, 25]), (103, [6]), (100, [6]), (2, [27, 0, 0, 28]), (103, [6]), (100, [6]), (4, [30, 31, 0, 0, 0, 32, 14, 19, 0, 0, 0, 0, 0]), (100, [6]), (100, [6]), (106, [31, 32, 33, 34, 35, 36, 37]), (103, [6]), (103, [6]), (103, [6]), (103, [6]), (103, [6]), (103, [6]), (103, [6]), (1, [41, 42, 14, 19]), (103, [1206]), (103, [6]), (105, [42, 44, 46, 0]), (5, [0, 0, 0, 45]), (100, [40]), (5, [0, 0, 0, 47]), (100, [40]), (5, [0, 0, 0, 49]), (100, [40]), (5, [0, 0, 0, 2])] (si (si (si (si zM 4 0 3) 4 1 9) 11 0 3) 11 1 9) [(8, [4, 6, 14, 19, 22, 29, 40, 43, 2, 0, 0]), (6, [5, 0]), (101, [320]), (7, [7, 12, 0, 0, 4, 13, 0, 0, 0, 0, 0, 0, 0, 0, 0]), (0, [0, 0, 8, 0, 9, 0, 10, 0, 11]), (100, [12]), (100, [16]), (100, [8]), (3, [1, 0]), (103, [6]), (3, [1, 0]), (0, [0, 0, 15, 0, 16, 0, 17, 0, 18]), (100, [12]), (100, [16]), (100, [8]), (3, [1, 0]), (2, [20, 0, 0, 21]), (103, [6]), (100, [6]), (104, [21, 24]), (2, [24, 0, 0, 25]), (103, [6]), (100, [6]), (2, [27, 0, 0, 28]), (103, [6]), (100, [6]), (4, [30, 31, 0, 0, 0, 32, 14, 19, 0, 0, 0, 0, 0]), (100, [6]), (100, [6]), (106, [31, 32, 33, 34, 35, 36, 37]), (103, [6]), (103, [6]), (103, [6]), (103, [6]), (103, [6]), (103, [6]), (103, [6]), (1, [41, 42, 14, 19]), (103, [1206]), (103, [6]), (105, [42, 44, 46, 0]), (5, [0, 0, 0, 45]), (100, [40]), (5, [0, 0, 0, 47]), (100, [40]), (5, [0, 0, 0, 49]), (100, [40]), (5, [0, 0, 0, 51]), (100, [40])] (si (si (si (si zM 4 0 3) 4 1 9) 11 0 3) 11 1 9) 1 40 := by
  refine ctc_of (by decide +kernel) rfl rfl (Nat.le_of_ble_eq_true rfl) ?_
  refine c_aload_n (pc := 0) (q := 0) d_Sheet_init_0 rfl rfl ?_
  refine c_objInit (pc := 1) d_Sheet_init_1 oi_Sheet_1 (Nat.le_of_ble_eq_true rfl) (Nat.le_of_ble_eq_true rfl) ?_
  refine c_aload_n (pc := 4) (q := 0) d_Sheet_init_4 rfl rfl ?_
  refine c_bipush (pc := 5) d_Sheet_init_5 k_b_40 ?_
  refine c_newaI (pc := 7) (N := 40) (sh8 := [(8, [4, 6, 14, 19, 22, 29, 40, 43, 2, 0, 0]), (6, [5, 0]), (101, [320]), (7, [7, 12, 0, 0, 4, 13, 0, 0, 0, 0, 0, 0, 0, 0, 0]), (0, [0, 0, 8, 0, 9, 0, 10, 0, 11]), (100, [12]), (100, [16]), (100, [8]), (3, [1, 0]), (103, [6]), (3, [1, 0]), (0, [0, 0, 15, 0, 16, 0, 17, 0, 18]), (100, [12]), (100, [16]), (100, [8]), (3, [1, 0]), (2, [20, 0, 0, 21]), (103, [6]), (100, [6]), (104, [21, 24]), (2, [24, 0, 0, 25]), (103, [6]), (100, [6]), (2, [27, 0, 0, 28]), (103, [6]), (100, [6]), (4, [30, 31, 0, 0, 0, 32, 14, 19, 0, 0, 0, 0, 0]), (100, [6]), (100, [6]), (106, [31, 32, 33, 34, 35, 36, 37]), (103, [6]), (103, [6]), (103, [6]), (103, [6]), (103, [6]), (103, [6]), (103, [6]), (1, [41, 42, 14, 19]), (103, [1206]), (103, [6]), (105, [42, 44, 46, 0]), (5, [0, 0, 0, 45]), (100, [40]), (5, [0, 0, 0, 47]), (100, [40]), (5, [0, 0, 0, 49]), (100, [40]), (5, [0, 0, 0, 2]), (100, [40])]) (a9 := 48) d_Sheet_init_7 (by decide) (by decide) ac_int (Nat.le_of_ble_eq_true rfl) ⟨by funext y; simp [si, zM], by funext y; simp [si, zM]⟩ (Nat.le_of_ble_eq_true rfl) (Nat.le_of_ble_eq_true rfl) (Nat.le_of_ble_eq_true rfl) rfl rfl ?_
  refine c_putR (pc := 9) (sh8 := [(8, [4, 6, 14, 19, 22, 29, 40, 43, 2, 0, 0]), (6, [5, 0]), (101, [320]), (7, [7, 12, 0, 0, 4, 13, 0, 0, 0, 0, 0, 0, 0, 0, 0]), (0, [0, 0, 8, 0, 9, 0, 10, 0, 11]), (100, [12]), (100, [16]), (100, [8]), (3, [1, 0]), (103, [6]), (3, [1, 0]), (0, [0, 0, 15, 0, 16, 0, 17, 0, 18]), (100, [12]), (100, [16]), (100, [8]), (3, [1, 0]), (2, [20, 0, 0, 21]), (103, [6]), (100, [6]), (104, [21, 24]), (2, [24, 0, 0, 25]), (103, [6]), (100, [6]), (2, [27, 0, 0, 28]), (103, [6]), (100, [6]), (4, [30, 31, 0, 0, 0, 32, 14, 19, 0, 0, 0, 0, 0]), (100, [6]), (100, [6]), (106, [31, 32, 33, 34, 35, 36, 37]), (103, [6]), (103, [6]), (103, [6]), (103, [6]), (103, [6]), (103, [6]), (103, [6]), (1, [41, 42, 14, 19]), (103, [1206]), (103, [6]), (105, [42, 44, 46, 0]), (5, [0, 0, 0, 45]), (100, [40]), (5, [0, 0, 0, 47]), (100, [40]), (5, [0, 0, 0, 49]), (100, [40]), (5, [0, 0, 0, 51]), (100, [40])]) d_Sheet_init_9 fl_Sheet_9 rfl rfl (by decide) (by decide) (Nat.le_of_ble_eq_true rfl) (fun C T N h => by cases h; rfl) rfl ?_
  exact c_return (pc := 12) (st := []) d_Sheet_init_12 (Nat.le_of_ble_eq_true rfl) (Nat.le_of_ble_eq_true rfl) rfl rfl
set_option maxRecDepth 20000 in
set_option maxHeartbeats 4000000 in
theorem CC_17 : CtC y_ShakeHands_init mtC_ShakeHands [Value.ref 0] [(8, [2, 2, 2, 2, 2, 2, 2, 2, 2, 0, 0])] (zM) [(8, [4, 6, 14, 19, 22, 29, 40, 43, 52, 0, 0]), (6, [5, 0]), (101, [320]), (7, [7, 12, 0, 0, 4, 13, 0, 0, 0, 0, 0, 0, 0, 0, 0]), (0, [0, 0, 8, 0, 9, 0, 10, 0, 11]), (100, [12]), (100, [16]), (100, [8]), (3, [1, 0]), (103, [6]), (3, [1, 0]), (0, [0, 0, 15, 0, 16, 0, 17, 0, 18]), (100, [12]), (100, [16]), (100, [8]), (3, [1, 0]), (2, [20, 0, 0, 21]), (103, [6]), (100, [6]), (104, [21, 24]), (2, [24, 0, 0, 25]), (103, [6]), (100, [6]), (2, [27, 0, 0, 28]), (103, [6]), (100, [6]), (4, [30, 31, 0, 0, 0, 32, 14, 19, 0, 0, 0, 0, 0]), (100, [6]), (100, [6]), (106, [31, 32, 33, 34, 35, 36, 37]), (103, [6]), (103, [6]), (103, [6]), (103, [6]), (103, [6]), (103, [6]), (103, [6]), (1, [41, 42, 14, 19]), (103, [1206]), (103, [6]), (105, [42, 44, 46, 48]), (5, [0, 0, 0, 45]), (100, [40]), (5, [0, 0, 0, 47]), (100, [40]), (5, [0, 0, 0, 49]), (100, [40]), (5, [0, 0, 0, 51]), (100, [40]), (103, [6])] (si (si (si (si zM 4 0 3) 4 1 9) 11 0 3) 11 1 9) 49 1965 := by
  refine ctc_of (by decide +kernel) rfl rfl (Nat.le_of_ble_eq_true rfl) ?_
  refine c_aload_n (pc := 0) (q := 0) d_ShakeHands_init_0 rfl rfl ?_
  refine c_objInit (pc := 1) d_ShakeHands_init_1 oi_ShakeHands_1 (Nat.le_of_ble_eq_true rfl) (Nat.le_of_ble_eq_true rfl) ?_
  refine c_aload_n (pc := 4) (q := 0) d_ShakeHands_init_4 rfl rfl ?_
  refine c_new (pc := 5) (ci := 6) (T := F_Tape) (N := 2) (ds := [2, 0]) (sh8 := [(8, [2, 2, 2, 2, 2, 2, 2, 2, 2, 0, 0]), (6, [2, 0])]) (a9 := 1) d_ShakeHands_init_5 rfl (by decide) i_Tape t_Tape_ok cwl_ShakeHands_7 in_Tape ini_Tape (fun ad j hj => nu_Tape ad j hj) ⟨by funext y; simp [si, zM], by funext y; simp [si, zM]⟩ (Nat.le_of_ble_eq_true rfl) (Nat.le_of_ble_eq_true rfl) (Nat.le_of_ble_eq_true rfl) rfl rfl ?_
  refine c_dup (pc := 8) d_ShakeHands_init_8 rfl ?_
  refine c_initN (pc := 9) (as := []) (a := 1) d_ShakeHands_init_9 CC_1 cN_ShakeHands_9 cd_Tape_init rfl im_Tape_init ini_Tape dn_Tape_init rfl (by decide) (by decide) (Nat.le_of_ble_eq_true rfl) (Nat.le_of_ble_eq_true rfl) (Nat.le_of_ble_eq_true rfl) ?_
  refine c_putR (pc := 12) (sh8 := [(8, [4, 2, 2, 2, 2, 2, 2, 2, 2, 0, 0]), (6, [5, 0]), (101, [320])]) d_ShakeHands_init_12 fl_ShakeHands_10 rfl rfl (by decide) (by decide) (Nat.le_of_ble_eq_true rfl) (fun C T N h => by cases h; rfl) rfl ?_
  refine c_aload_n (pc := 15) (q := 0) d_ShakeHands_init_15 rfl rfl ?_
  refine c_new (pc := 16) (ci := 7) (T := F_Teller) (N := 15) (ds := [2, 2, 0, 0, 2, 2, 0, 0, 0, 0, 0, 0, 0, 0, 0]) (sh8 := [(8, [4, 2, 2, 2, 2, 2, 2, 2, 2, 0, 0]), (6, [5, 0]), (101, [320]), (7, [2, 2, 0, 0, 2, 2, 0, 0, 0, 0, 0, 0, 0, 0, 0])]) (a9 := 3) d_ShakeHands_init_16 rfl (by decide) i_Teller t_Teller_ok cwl_ShakeHands_16 in_Teller ini_Teller (fun ad j hj => nu_Teller ad j hj) ⟨by funext y; simp [si, zM], by funext y; simp [si, zM]⟩ (Nat.le_of_ble_eq_true rfl) (Nat.le_of_ble_eq_true rfl) (Nat.le_of_ble_eq_true rfl) rfl rfl ?_
  refine c_dup (pc := 19) d_ShakeHands_init_19 rfl ?_
  refine c_aload_n (pc := 20) (q := 0) d_ShakeHands_init_20 rfl rfl ?_
  refine c_getA (pc := 21) (b := 1) d_ShakeHands_init_21 fl_ShakeHands_10 rfl (by decide) rfl ?_
  refine c_init (pc := 24) (as := [Value.ref 1]) (a := 3) d_ShakeHands_init_24 CC_5 cI_ShakeHands_18 cd_Teller_init rfl im_Teller_init ini_Teller dn_Teller_init rfl (by decide) (by decide) (Nat.le_of_ble_eq_true rfl) (Nat.le_of_ble_eq_true rfl) (Nat.le_of_ble_eq_true rfl) ?_
  refine c_putR (pc := 27) (sh8 := [(8, [4, 6, 2, 2, 2, 2, 2, 2, 2, 0, 0]), (6, [5, 0]), (101, [320]), (7, [7, 12, 0, 0, 4, 13, 0, 0, 0, 0, 0, 0, 0, 0, 0]), (0, [0, 0, 8, 0, 9, 0, 10, 0, 11]), (100, [12]), (100, [16]), (100, [8]), (3, [1, 0]), (103, [6]), (3, [1, 0])]) d_ShakeHands_init_27 fl_ShakeHands_21 rfl rfl (by decide) (by decide) (Nat.le_of_ble_eq_true rfl) (fun C T N h => by cases h; rfl) rfl ?_
  refine c_aload_n (pc := 30) (q := 0) d_ShakeHands_init_30 rfl rfl ?_
  refine c_new (pc := 31) (ci := 0) (T := F_Circle) (N := 9) (ds := [0, 0, 2, 0, 2, 0, 2, 0, 2]) (sh8 := [(8, [4, 6, 2, 2, 2, 2, 2, 2, 2, 0, 0]), (6, [5, 0]), (101, [320]), (7, [7, 12, 0, 0, 4, 13, 0, 0, 0, 0, 0, 0, 0, 0, 0]), (0, [0, 0, 8, 0, 9, 0, 10, 0, 11]), (100, [12]), (100, [16]), (100, [8]), (3, [1, 0]), (103, [6]), (3, [1, 0]), (0, [0, 0, 2, 0, 2, 0, 2, 0, 2])]) (a9 := 11) d_ShakeHands_init_31 rfl (by decide) i_Circle t_Circle_ok cwl_ShakeHands_25 in_Circle ini_Circle (fun ad j hj => nu_Circle ad j hj) ⟨by funext y; simp [si, zM], by funext y; simp [si, zM]⟩ (Nat.le_of_ble_eq_true rfl) (Nat.le_of_ble_eq_true rfl) (Nat.le_of_ble_eq_true rfl) rfl rfl ?_
  refine c_dup (pc := 34) d_ShakeHands_init_34 rfl ?_
  refine c_initN (pc := 35) (as := []) (a := 11) d_ShakeHands_init_35 CC_7 cN_ShakeHands_27 cd_Circle_init rfl im_Circle_init ini_Circle dn_Circle_init rfl (by decide) (by decide) (Nat.le_of_ble_eq_true rfl) (Nat.le_of_ble_eq_true rfl) (Nat.le_of_ble_eq_true rfl) ?_
  refine c_putR (pc := 38) (sh8 := [(8, [4, 6, 14, 2, 2, 2, 2, 2, 2, 0, 0]), (6, [5, 0]), (101, [320]), (7, [7, 12, 0, 0, 4, 13, 0, 0, 0, 0, 0, 0, 0, 0, 0]), (0, [0, 0, 8, 0, 9, 0, 10, 0, 11]), (100, [12]), (100, [16]), (100, [8]), (3, [1, 0]), (103, [6]), (3, [1, 0]), (0, [0, 0, 15, 0, 16, 0, 17, 0, 18]), (100, [12]), (100, [16]), (100, [8]), (3, [1, 0])]) d_ShakeHands_init_38 fl_ShakeHands_28 rfl rfl (by decide) (by decide) (Nat.le_of_ble_eq_true rfl) (fun C T N h => by cases h; rfl) rfl ?_
  refine c_aload_n (pc := 41) (q := 0) d_ShakeHands_init_41 rfl rfl ?_
  refine c_new (pc := 42) (ci := 2) (T := F_Minds) (N := 4) (ds := [2, 0, 0, 2]) (sh8 := [(8, [4, 6, 14, 2, 2, 2, 2, 2, 2, 0, 0]), (6, [5, 0]), (101, [320]), (7, [7, 12, 0, 0, 4, 13, 0, 0, 0, 0, 0, 0, 0, 0, 0]), (0, [0, 0, 8, 0, 9, 0, 10, 0, 11]), (100, [12]), (100, [16]), (100, [8]), (3, [1, 0]), (103, [6]), (3, [1, 0]), (0, [0, 0, 15, 0, 16, 0, 17, 0, 18]), (100, [12]), (100, [16]), (100, [8]), (3, [1, 0]), (2, [2, 0, 0, 2])]) (a9 := 16) d_ShakeHands_init_42 rfl (by decide) i_Minds t_Minds_ok cwl_ShakeHands_32 in_Minds ini_Minds (fun ad j hj => nu_Minds ad j hj) ⟨by funext y; simp [si, zM], by funext y; simp [si, zM]⟩ (Nat.le_of_ble_eq_true rfl) (Nat.le_of_ble_eq_true rfl) (Nat.le_of_ble_eq_true rfl) rfl rfl ?_
  refine c_dup (pc := 45) d_ShakeHands_init_45 rfl ?_
  refine c_initN (pc := 46) (as := []) (a := 16) d_ShakeHands_init_46 CC_8 cN_ShakeHands_34 cd_Minds_init rfl im_Minds_init ini_Minds dn_Minds_init rfl (by decide) (by decide) (Nat.le_of_ble_eq_true rfl) (Nat.le_of_ble_eq_true rfl) (Nat.le_of_ble_eq_true rfl) ?_
  refine c_putR (pc := 49) (sh8 := [(8, [4, 6, 14, 19, 2, 2, 2, 2, 2, 0, 0]), (6, [5, 0]), (101, [320]), (7, [7, 12, 0, 0, 4, 13, 0, 0, 0, 0, 0, 0, 0, 0, 0]), (0, [0, 0, 8, 0, 9, 0, 10, 0, 11]), (100, [12]), (100, [16]), (100, [8]), (3, [1, 0]), (103, [6]), (3, [1, 0]), (0, [0, 0, 15, 0, 16, 0, 17, 0, 18]), (100, [12]), (100, [16]), (100, [8]), (3, [1, 0]), (2, [20, 0, 0, 21]), (103, [6]), (100, [6])]) d_ShakeHands_init_49 fl_ShakeHands_35 rfl rfl (by decide) (by decide) (Nat.le_of_ble_eq_true rfl) (fun C T N h => by cases h; rfl) rfl ?_
  refine c_aload_n (pc := 52) (q := 0) d_ShakeHands_init_52 rfl rfl ?_
  refine c_iconst (pc := 53) d_ShakeHands_init_53 k_i_2 ?_
  refine c_anewM (pc := 54) (N := 2) (sh8 := [(8, [4, 6, 14, 19, 2, 2, 2, 2, 2, 0, 0]), (6, [5, 0]), (101, [320]), (7, [7, 12, 0, 0, 4, 13, 0, 0, 0, 0, 0, 0, 0, 0, 0]), (0, [0, 0, 8, 0, 9, 0, 10, 0, 11]), (100, [12]), (100, [16]), (100, [8]), (3, [1, 0]), (103, [6]), (3, [1, 0]), (0, [0, 0, 15, 0, 16, 0, 17, 0, 18]), (100, [12]), (100, [16]), (100, [8]), (3, [1, 0]), (2, [20, 0, 0, 21]), (103, [6]), (100, [6]), (104, [0, 0])]) (a9 := 19) d_ShakeHands_init_54 (by decide) (by decide) cwl_ShakeHands_32 (Nat.le_of_ble_eq_true rfl) (Nat.le_of_ble_eq_true rfl) (Nat.le_of_ble_eq_true rfl) (Nat.le_of_ble_eq_true rfl) rfl rfl ?_
  refine c_putR (pc := 57) (sh8 := [(8, [4, 6, 14, 19, 22, 2, 2, 2, 2, 0, 0]), (6, [5, 0]), (101, [320]), (7, [7, 12, 0, 0, 4, 13, 0, 0, 0, 0, 0, 0, 0, 0, 0]), (0, [0, 0, 8, 0, 9, 0, 10, 0, 11]), (100, [12]), (100, [16]), (100, [8]), (3, [1, 0]), (103, [6]), (3, [1, 0]), (0, [0, 0, 15, 0, 16, 0, 17, 0, 18]), (100, [12]), (100, [16]), (100, [8]), (3, [1, 0]), (2, [20, 0, 0, 21]), (103, [6]), (100, [6]), (104, [0, 0])]) d_ShakeHands_init_57 fl_ShakeHands_39 rfl rfl (by decide) (by decide) (Nat.le_of_ble_eq_true rfl) (fun C T N h => by cases h; rfl) rfl ?_
  refine c_iconst (pc := 60) d_ShakeHands_init_60 k_i_0 ?_
  refine c_istore_n (pc := 61) d_ShakeHands_init_61 rfl (by decide) rfl ?_
  refine c_iload_n (pc := 62) (q := 0) d_ShakeHands_init_62 rfl rfl ?_
  refine c_iconst (pc := 63) d_ShakeHands_init_63 k_i_2 ?_
  refine c_ge_f (pc := 64) (tgt := 86) d_ShakeHands_init_64 (by decide) (by decide) ?_
  refine c_aload_n (pc := 67) (q := 1) d_ShakeHands_init_67 rfl rfl ?_
  refine c_getA (pc := 68) (b := 19) d_ShakeHands_init_68 fl_ShakeHands_39 rfl (by decide) rfl ?_
  refine c_iload_n (pc := 71) (q := 0) d_ShakeHands_init_71 rfl rfl ?_
  refine c_new (pc := 72) (ci := 2) (T := F_Minds) (N := 4) (ds := [2, 0, 0, 2]) (sh8 := [(8, [4, 6, 14, 19, 22, 2, 2, 2, 2, 0, 0]), (6, [5, 0]), (101, [320]), (7, [7, 12, 0, 0, 4, 13, 0, 0, 0, 0, 0, 0, 0, 0, 0]), (0, [0, 0, 8, 0, 9, 0, 10, 0, 11]), (100, [12]), (100, [16]), (100, [8]), (3, [1, 0]), (103, [6]), (3, [1, 0]), (0, [0, 0, 15, 0, 16, 0, 17, 0, 18]), (100, [12]), (100, [16]), (100, [8]), (3, [1, 0]), (2, [20, 0, 0, 21]), (103, [6]), (100, [6]), (104, [0, 0]), (2, [2, 0, 0, 2])]) (a9 := 20) d_ShakeHands_init_72 rfl (by decide) i_Minds t_Minds_ok cwl_ShakeHands_32 in_Minds ini_Minds (fun ad j hj => nu_Minds ad j hj) ⟨by funext y; simp [si, zM], by funext y; simp [si, zM]⟩ (Nat.le_of_ble_eq_true rfl) (Nat.le_of_ble_eq_true rfl) (Nat.le_of_ble_eq_true rfl) rfl rfl ?_
  refine c_dup (pc := 75) d_ShakeHands_init_75 rfl ?_
  refine c_initN (pc := 76) (as := []) (a := 20) d_ShakeHands_init_76 CC_9 cN_ShakeHands_34 cd_Minds_init rfl im_Minds_init ini_Minds dn_Minds_init rfl (by decide) (by decide) (Nat.le_of_ble_eq_true rfl) (Nat.le_of_ble_eq_true rfl) (Nat.le_of_ble_eq_true rfl) ?_
  refine c_aastM (pc := 79) (sh8 := [(8, [4, 6, 14, 19, 22, 2, 2, 2, 2, 0, 0]), (6, [5, 0]), (101, [320]), (7, [7, 12, 0, 0, 4, 13, 0, 0, 0, 0, 0, 0, 0, 0, 0]), (0, [0, 0, 8, 0, 9, 0, 10, 0, 11]), (100, [12]), (100, [16]), (100, [8]), (3, [1, 0]), (103, [6]), (3, [1, 0]), (0, [0, 0, 15, 0, 16, 0, 17, 0, 18]), (100, [12]), (100, [16]), (100, [8]), (3, [1, 0]), (2, [20, 0, 0, 21]), (103, [6]), (100, [6]), (104, [21, 0]), (2, [24, 0, 0, 25]), (103, [6]), (100, [6])]) d_ShakeHands_init_79 rfl rfl (by decide) rfl (vp_in_nI (n := 0) (by decide) (by decide)) (Nat.le_of_ble_eq_true rfl) rfl ?_
  refine c_iinc (pc := 80) (q := 0) (v := 1) d_ShakeHands_init_80 rfl (by decide) (by decide) rfl ?_
  refine c_goto (pc := 83) (tgt := 62) d_ShakeHands_init_83 (by decide) ?_
  refine c_iload_n (pc := 62) (q := 0) d_ShakeHands_init_62 rfl rfl ?_
  refine c_iconst (pc := 63) d_ShakeHands_init_63 k_i_2 ?_
  refine c_ge_f (pc := 64) (tgt := 86) d_ShakeHands_init_64 (by decide) (by decide) ?_
  refine c_aload_n (pc := 67) (q := 1) d_ShakeHands_init_67 rfl rfl ?_
  refine c_getA (pc := 68) (b := 19) d_ShakeHands_init_68 fl_ShakeHands_39 rfl (by decide) rfl ?_
  refine c_iload_n (pc := 71) (q := 0) d_ShakeHands_init_71 rfl rfl ?_
  refine c_new (pc := 72) (ci := 2) (T := F_Minds) (N := 4) (ds := [2, 0, 0, 2]) (sh8 := [(8, [4, 6, 14, 19, 22, 2, 2, 2, 2, 0, 0]), (6, [5, 0]), (101, [320]), (7, [7, 12, 0, 0, 4, 13, 0, 0, 0, 0, 0, 0, 0, 0, 0]), (0, [0, 0, 8, 0, 9, 0, 10, 0, 11]), (100, [12]), (100, [16]), (100, [8]), (3, [1, 0]), (103, [6]), (3, [1, 0]), (0, [0, 0, 15, 0, 16, 0, 17, 0, 18]), (100, [12]), (100, [16]), (100, [8]), (3, [1, 0]), (2, [20, 0, 0, 21]), (103, [6]), (100, [6]), (104, [21, 0]), (2, [24, 0, 0, 25]), (103, [6]), (100, [6]), (2, [2, 0, 0, 2])]) (a9 := 23) d_ShakeHands_init_72 rfl (by decide) i_Minds t_Minds_ok cwl_ShakeHands_32 in_Minds ini_Minds (fun ad j hj => nu_Minds ad j hj) ⟨by funext y; simp [si, zM], by funext y; simp [si, zM]⟩ (Nat.le_of_ble_eq_true rfl) (Nat.le_of_ble_eq_true rfl) (Nat.le_of_ble_eq_true rfl) rfl rfl ?_
  refine c_dup (pc := 75) d_ShakeHands_init_75 rfl ?_
  refine c_initN (pc := 76) (as := []) (a := 23) d_ShakeHands_init_76 CC_10 cN_ShakeHands_34 cd_Minds_init rfl im_Minds_init ini_Minds dn_Minds_init rfl (by decide) (by decide) (Nat.le_of_ble_eq_true rfl) (Nat.le_of_ble_eq_true rfl) (Nat.le_of_ble_eq_true rfl) ?_
  refine c_aastM (pc := 79) (sh8 := [(8, [4, 6, 14, 19, 22, 2, 2, 2, 2, 0, 0]), (6, [5, 0]), (101, [320]), (7, [7, 12, 0, 0, 4, 13, 0, 0, 0, 0, 0, 0, 0, 0, 0]), (0, [0, 0, 8, 0, 9, 0, 10, 0, 11]), (100, [12]), (100, [16]), (100, [8]), (3, [1, 0]), (103, [6]), (3, [1, 0]), (0, [0, 0, 15, 0, 16, 0, 17, 0, 18]), (100, [12]), (100, [16]), (100, [8]), (3, [1, 0]), (2, [20, 0, 0, 21]), (103, [6]), (100, [6]), (104, [21, 24]), (2, [24, 0, 0, 25]), (103, [6]), (100, [6]), (2, [27, 0, 0, 28]), (103, [6]), (100, [6])]) d_ShakeHands_init_79 rfl rfl (by decide) rfl (vp_in_nI (n := 1) (by decide) (by decide)) (Nat.le_of_ble_eq_true rfl) rfl ?_
  refine c_iinc (pc := 80) (q := 0) (v := 2) d_ShakeHands_init_80 rfl (by decide) (by decide) rfl ?_
  refine c_goto (pc := 83) (tgt := 62) d_ShakeHands_init_83 (by decide) ?_
  refine c_iload_n (pc := 62) (q := 0) d_ShakeHands_init_62 rfl rfl ?_
  refine c_iconst (pc := 63) d_ShakeHands_init_63 k_i_2 ?_
  refine c_ge_t (pc := 64) (tgt := 86) d_ShakeHands_init_64 (by decide) (by decide) ?_
  refine c_aload_n (pc := 86) (q := 1) d_ShakeHands_init_86 rfl rfl ?_
  refine c_new (pc := 87) (ci := 4) (T := F_Search) (N := 13) (ds := [2, 2, 0, 0, 0, 2, 2, 2, 0, 0, 0, 0, 0]) (sh8 := [(8, [4, 6, 14, 19, 22, 2, 2, 2, 2, 0, 0]), (6, [5, 0]), (101, [320]), (7, [7, 12, 0, 0, 4, 13, 0, 0, 0, 0, 0, 0, 0, 0, 0]), (0, [0, 0, 8, 0, 9, 0, 10, 0, 11]), (100, [12]), (100, [16]), (100, [8]), (3, [1, 0]), (103, [6]), (3, [1, 0]), (0, [0, 0, 15, 0, 16, 0, 17, 0, 18]), (100, [12]), (100, [16]), (100, [8]), (3, [1, 0]), (2, [20, 0, 0, 21]), (103, [6]), (100, [6]), (104, [21, 24]), (2, [24, 0, 0, 25]), (103, [6]), (100, [6]), (2, [27, 0, 0, 28]), (103, [6]), (100, [6]), (4, [2, 2, 0, 0, 0, 2, 2, 2, 0, 0, 0, 0, 0])]) (a9 := 26) d_ShakeHands_init_87 rfl (by decide) i_Search t_Search_ok cwl_ShakeHands_43 in_Search ini_Search (fun ad j hj => nu_Search ad j hj) ⟨by funext y; simp [si, zM], by funext y; simp [si, zM]⟩ (Nat.le_of_ble_eq_true rfl) (Nat.le_of_ble_eq_true rfl) (Nat.le_of_ble_eq_true rfl) rfl rfl ?_
  refine c_dup (pc := 90) d_ShakeHands_init_90 rfl ?_
  refine c_aload_n (pc := 91) (q := 1) d_ShakeHands_init_91 rfl rfl ?_
  refine c_getA (pc := 92) (b := 11) d_ShakeHands_init_92 fl_ShakeHands_28 rfl (by decide) rfl ?_
  refine c_aload_n (pc := 95) (q := 1) d_ShakeHands_init_95 rfl rfl ?_
  refine c_getA (pc := 96) (b := 16) d_ShakeHands_init_96 fl_ShakeHands_35 rfl (by decide) rfl ?_
  refine c_init (pc := 99) (as := [Value.ref 11, Value.ref 16]) (a := 26) d_ShakeHands_init_99 CC_11 cI_ShakeHands_45 cd_Search_init rfl im_Search_init ini_Search dn_Search_init rfl (by decide) (by decide) (Nat.le_of_ble_eq_true rfl) (Nat.le_of_ble_eq_true rfl) (Nat.le_of_ble_eq_true rfl) ?_
  refine c_putR (pc := 102) (sh8 := [(8, [4, 6, 14, 19, 22, 29, 2, 2, 2, 0, 0]), (6, [5, 0]), (101, [320]), (7, [7, 12, 0, 0, 4, 13, 0, 0, 0, 0, 0, 0, 0, 0, 0]), (0, [0, 0, 8, 0, 9, 0, 10, 0, 11]), (100, [12]), (100, [16]), (100, [8]), (3, [1, 0]), (103, [6]), (3, [1, 0]), (0, [0, 0, 15, 0, 16, 0, 17, 0, 18]), (100, [12]), (100, [16]), (100, [8]), (3, [1, 0]), (2, [20, 0, 0, 21]), (103, [6]), (100, [6]), (104, [21, 24]), (2, [24, 0, 0, 25]), (103, [6]), (100, [6]), (2, [27, 0, 0, 28]), (103, [6]), (100, [6]), (4, [30, 31, 0, 0, 0, 32, 14, 19, 0, 0, 0, 0, 0]), (100, [6]), (100, [6]), (106, [31, 32, 33, 34, 35, 36, 37]), (103, [6]), (103, [6]), (103, [6]), (103, [6]), (103, [6]), (103, [6]), (103, [6])]) d_ShakeHands_init_102 fl_ShakeHands_48 rfl rfl (by decide) (by decide) (Nat.le_of_ble_eq_true rfl) (fun C T N h => by cases h; rfl) rfl ?_
  refine c_aload_n (pc := 105) (q := 1) d_ShakeHands_init_105 rfl rfl ?_
  refine c_new (pc := 106) (ci := 1) (T := F_Habit) (N := 4) (ds := [2, 2, 2, 2]) (sh8 := [(8, [4, 6, 14, 19, 22, 29, 2, 2, 2, 0, 0]), (6, [5, 0]), (101, [320]), (7, [7, 12, 0, 0, 4, 13, 0, 0, 0, 0, 0, 0, 0, 0, 0]), (0, [0, 0, 8, 0, 9, 0, 10, 0, 11]), (100, [12]), (100, [16]), (100, [8]), (3, [1, 0]), (103, [6]), (3, [1, 0]), (0, [0, 0, 15, 0, 16, 0, 17, 0, 18]), (100, [12]), (100, [16]), (100, [8]), (3, [1, 0]), (2, [20, 0, 0, 21]), (103, [6]), (100, [6]), (104, [21, 24]), (2, [24, 0, 0, 25]), (103, [6]), (100, [6]), (2, [27, 0, 0, 28]), (103, [6]), (100, [6]), (4, [30, 31, 0, 0, 0, 32, 14, 19, 0, 0, 0, 0, 0]), (100, [6]), (100, [6]), (106, [31, 32, 33, 34, 35, 36, 37]), (103, [6]), (103, [6]), (103, [6]), (103, [6]), (103, [6]), (103, [6]), (103, [6]), (1, [2, 2, 2, 2])]) (a9 := 37) d_ShakeHands_init_106 rfl (by decide) i_Habit t_Habit_ok cwl_ShakeHands_52 in_Habit ini_Habit (fun ad j hj => nu_Habit ad j hj) ⟨by funext y; simp [si, zM], by funext y; simp [si, zM]⟩ (Nat.le_of_ble_eq_true rfl) (Nat.le_of_ble_eq_true rfl) (Nat.le_of_ble_eq_true rfl) rfl rfl ?_
  refine c_dup (pc := 109) d_ShakeHands_init_109 rfl ?_
  refine c_aload_n (pc := 110) (q := 1) d_ShakeHands_init_110 rfl rfl ?_
  refine c_getA (pc := 111) (b := 11) d_ShakeHands_init_111 fl_ShakeHands_28 rfl (by decide) rfl ?_
  refine c_aload_n (pc := 114) (q := 1) d_ShakeHands_init_114 rfl rfl ?_
  refine c_getA (pc := 115) (b := 16) d_ShakeHands_init_115 fl_ShakeHands_35 rfl (by decide) rfl ?_
  refine c_init (pc := 118) (as := [Value.ref 11, Value.ref 16]) (a := 37) d_ShakeHands_init_118 CC_12 cI_ShakeHands_54 cd_Habit_init rfl im_Habit_init ini_Habit dn_Habit_init rfl (by decide) (by decide) (Nat.le_of_ble_eq_true rfl) (Nat.le_of_ble_eq_true rfl) (Nat.le_of_ble_eq_true rfl) ?_
  refine c_putR (pc := 121) (sh8 := [(8, [4, 6, 14, 19, 22, 29, 40, 2, 2, 0, 0]), (6, [5, 0]), (101, [320]), (7, [7, 12, 0, 0, 4, 13, 0, 0, 0, 0, 0, 0, 0, 0, 0]), (0, [0, 0, 8, 0, 9, 0, 10, 0, 11]), (100, [12]), (100, [16]), (100, [8]), (3, [1, 0]), (103, [6]), (3, [1, 0]), (0, [0, 0, 15, 0, 16, 0, 17, 0, 18]), (100, [12]), (100, [16]), (100, [8]), (3, [1, 0]), (2, [20, 0, 0, 21]), (103, [6]), (100, [6]), (104, [21, 24]), (2, [24, 0, 0, 25]), (103, [6]), (100, [6]), (2, [27, 0, 0, 28]), (103, [6]), (100, [6]), (4, [30, 31, 0, 0, 0, 32, 14, 19, 0, 0, 0, 0, 0]), (100, [6]), (100, [6]), (106, [31, 32, 33, 34, 35, 36, 37]), (103, [6]), (103, [6]), (103, [6]), (103, [6]), (103, [6]), (103, [6]), (103, [6]), (1, [41, 42, 14, 19]), (103, [1206]), (103, [6])]) d_ShakeHands_init_121 fl_ShakeHands_55 rfl rfl (by decide) (by decide) (Nat.le_of_ble_eq_true rfl) (fun C T N h => by cases h; rfl) rfl ?_
  refine c_aload_n (pc := 124) (q := 1) d_ShakeHands_init_124 rfl rfl ?_
  refine c_iconst (pc := 125) d_ShakeHands_init_125 k_i_4 ?_
  refine c_anewS (pc := 126) (N := 4) (sh8 := [(8, [4, 6, 14, 19, 22, 29, 40, 2, 2, 0, 0]), (6, [5, 0]), (101, [320]), (7, [7, 12, 0, 0, 4, 13, 0, 0, 0, 0, 0, 0, 0, 0, 0]), (0, [0, 0, 8, 0, 9, 0, 10, 0, 11]), (100, [12]), (100, [16]), (100, [8]), (3, [1, 0]), (103, [6]), (3, [1, 0]), (0, [0, 0, 15, 0, 16, 0, 17, 0, 18]), (100, [12]), (100, [16]), (100, [8]), (3, [1, 0]), (2, [20, 0, 0, 21]), (103, [6]), (100, [6]), (104, [21, 24]), (2, [24, 0, 0, 25]), (103, [6]), (100, [6]), (2, [27, 0, 0, 28]), (103, [6]), (100, [6]), (4, [30, 31, 0, 0, 0, 32, 14, 19, 0, 0, 0, 0, 0]), (100, [6]), (100, [6]), (106, [31, 32, 33, 34, 35, 36, 37]), (103, [6]), (103, [6]), (103, [6]), (103, [6]), (103, [6]), (103, [6]), (103, [6]), (1, [41, 42, 14, 19]), (103, [1206]), (103, [6]), (105, [0, 0, 0, 0])]) (a9 := 40) d_ShakeHands_init_126 (by decide) (by decide) cwl_ShakeHands_59 (Nat.le_of_ble_eq_true rfl) (Nat.le_of_ble_eq_true rfl) (Nat.le_of_ble_eq_true rfl) (Nat.le_of_ble_eq_true rfl) rfl rfl ?_
  refine c_putR (pc := 129) (sh8 := [(8, [4, 6, 14, 19, 22, 29, 40, 43, 2, 0, 0]), (6, [5, 0]), (101, [320]), (7, [7, 12, 0, 0, 4, 13, 0, 0, 0, 0, 0, 0, 0, 0, 0]), (0, [0, 0, 8, 0, 9, 0, 10, 0, 11]), (100, [12]), (100, [16]), (100, [8]), (3, [1, 0]), (103, [6]), (3, [1, 0]), (0, [0, 0, 15, 0, 16, 0, 17, 0, 18]), (100, [12]), (100, [16]), (100, [8]), (3, [1, 0]), (2, [20, 0, 0, 21]), (103, [6]), (100, [6]), (104, [21, 24]), (2, [24, 0, 0, 25]), (103, [6]), (100, [6]), (2, [27, 0, 0, 28]), (103, [6]), (100, [6]), (4, [30, 31, 0, 0, 0, 32, 14, 19, 0, 0, 0, 0, 0]), (100, [6]), (100, [6]), (106, [31, 32, 33, 34, 35, 36, 37]), (103, [6]), (103, [6]), (103, [6]), (103, [6]), (103, [6]), (103, [6]), (103, [6]), (1, [41, 42, 14, 19]), (103, [1206]), (103, [6]), (105, [0, 0, 0, 0])]) d_ShakeHands_init_129 fl_ShakeHands_61 rfl rfl (by decide) (by decide) (Nat.le_of_ble_eq_true rfl) (fun C T N h => by cases h; rfl) rfl ?_
  refine c_iconst (pc := 132) d_ShakeHands_init_132 k_i_0 ?_
  refine c_istore_n (pc := 133) d_ShakeHands_init_133 rfl (by decide) rfl ?_
  refine c_iload_n (pc := 134) (q := 0) d_ShakeHands_init_134 rfl rfl ?_
  refine c_iconst (pc := 135) d_ShakeHands_init_135 k_i_4 ?_
  refine c_ge_f (pc := 136) (tgt := 158) d_ShakeHands_init_136 (by decide) (by decide) ?_
  refine c_aload_n (pc := 139) (q := 1) d_ShakeHands_init_139 rfl rfl ?_
  refine c_getA (pc := 140) (b := 40) d_ShakeHands_init_140 fl_ShakeHands_61 rfl (by decide) rfl ?_
  refine c_iload_n (pc := 143) (q := 0) d_ShakeHands_init_143 rfl rfl ?_
  refine c_new (pc := 144) (ci := 5) (T := F_Sheet) (N := 4) (ds := [0, 0, 0, 2]) (sh8 := [(8, [4, 6, 14, 19, 22, 29, 40, 43, 2, 0, 0]), (6, [5, 0]), (101, [320]), (7, [7, 12, 0, 0, 4, 13, 0, 0, 0, 0, 0, 0, 0, 0, 0]), (0, [0, 0, 8, 0, 9, 0, 10, 0, 11]), (100, [12]), (100, [16]), (100, [8]), (3, [1, 0]), (103, [6]), (3, [1, 0]), (0, [0, 0, 15, 0, 16, 0, 17, 0, 18]), (100, [12]), (100, [16]), (100, [8]), (3, [1, 0]), (2, [20, 0, 0, 21]), (103, [6]), (100, [6]), (104, [21, 24]), (2, [24, 0, 0, 25]), (103, [6]), (100, [6]), (2, [27, 0, 0, 28]), (103, [6]), (100, [6]), (4, [30, 31, 0, 0, 0, 32, 14, 19, 0, 0, 0, 0, 0]), (100, [6]), (100, [6]), (106, [31, 32, 33, 34, 35, 36, 37]), (103, [6]), (103, [6]), (103, [6]), (103, [6]), (103, [6]), (103, [6]), (103, [6]), (1, [41, 42, 14, 19]), (103, [1206]), (103, [6]), (105, [0, 0, 0, 0]), (5, [0, 0, 0, 2])]) (a9 := 41) d_ShakeHands_init_144 rfl (by decide) i_Sheet t_Sheet_ok cwl_ShakeHands_59 in_Sheet ini_Sheet (fun ad j hj => nu_Sheet ad j hj) ⟨by funext y; simp [si, zM], by funext y; simp [si, zM]⟩ (Nat.le_of_ble_eq_true rfl) (Nat.le_of_ble_eq_true rfl) (Nat.le_of_ble_eq_true rfl) rfl rfl ?_
  refine c_dup (pc := 147) d_ShakeHands_init_147 rfl ?_
  refine c_initN (pc := 148) (as := []) (a := 41) d_ShakeHands_init_148 CC_13 cN_ShakeHands_65 cd_Sheet_init rfl im_Sheet_init ini_Sheet dn_Sheet_init rfl (by decide) (by decide) (Nat.le_of_ble_eq_true rfl) (Nat.le_of_ble_eq_true rfl) (Nat.le_of_ble_eq_true rfl) ?_
  refine c_aastS (pc := 151) (sh8 := [(8, [4, 6, 14, 19, 22, 29, 40, 43, 2, 0, 0]), (6, [5, 0]), (101, [320]), (7, [7, 12, 0, 0, 4, 13, 0, 0, 0, 0, 0, 0, 0, 0, 0]), (0, [0, 0, 8, 0, 9, 0, 10, 0, 11]), (100, [12]), (100, [16]), (100, [8]), (3, [1, 0]), (103, [6]), (3, [1, 0]), (0, [0, 0, 15, 0, 16, 0, 17, 0, 18]), (100, [12]), (100, [16]), (100, [8]), (3, [1, 0]), (2, [20, 0, 0, 21]), (103, [6]), (100, [6]), (104, [21, 24]), (2, [24, 0, 0, 25]), (103, [6]), (100, [6]), (2, [27, 0, 0, 28]), (103, [6]), (100, [6]), (4, [30, 31, 0, 0, 0, 32, 14, 19, 0, 0, 0, 0, 0]), (100, [6]), (100, [6]), (106, [31, 32, 33, 34, 35, 36, 37]), (103, [6]), (103, [6]), (103, [6]), (103, [6]), (103, [6]), (103, [6]), (103, [6]), (1, [41, 42, 14, 19]), (103, [1206]), (103, [6]), (105, [42, 0, 0, 0]), (5, [0, 0, 0, 45]), (100, [40])]) d_ShakeHands_init_151 rfl rfl (by decide) rfl (vp_in_nI (n := 0) (by decide) (by decide)) (Nat.le_of_ble_eq_true rfl) rfl ?_
  refine c_iinc (pc := 152) (q := 0) (v := 1) d_ShakeHands_init_152 rfl (by decide) (by decide) rfl ?_
  refine c_goto (pc := 155) (tgt := 134) d_ShakeHands_init_155 (by decide) ?_
  refine c_iload_n (pc := 134) (q := 0) d_ShakeHands_init_134 rfl rfl ?_
  refine c_iconst (pc := 135) d_ShakeHands_init_135 k_i_4 ?_
  refine c_ge_f (pc := 136) (tgt := 158) d_ShakeHands_init_136 (by decide) (by decide) ?_
  refine c_aload_n (pc := 139) (q := 1) d_ShakeHands_init_139 rfl rfl ?_
  refine c_getA (pc := 140) (b := 40) d_ShakeHands_init_140 fl_ShakeHands_61 rfl (by decide) rfl ?_
  refine c_iload_n (pc := 143) (q := 0) d_ShakeHands_init_143 rfl rfl ?_
  refine c_new (pc := 144) (ci := 5) (T := F_Sheet) (N := 4) (ds := [0, 0, 0, 2]) (sh8 := [(8, [4, 6, 14, 19, 22, 29, 40, 43, 2, 0, 0]), (6, [5, 0]), (101, [320]), (7, [7, 12, 0, 0, 4, 13, 0, 0, 0, 0, 0, 0, 0, 0, 0]), (0, [0, 0, 8, 0, 9, 0, 10, 0, 11]), (100, [12]), (100, [16]), (100, [8]), (3, [1, 0]), (103, [6]), (3, [1, 0]), (0, [0, 0, 15, 0, 16, 0, 17, 0, 18]), (100, [12]), (100, [16]), (100, [8]), (3, [1, 0]), (2, [20, 0, 0, 21]), (103, [6]), (100, [6]), (104, [21, 24]), (2, [24, 0, 0, 25]), (103, [6]), (100, [6]), (2, [27, 0, 0, 28]), (103, [6]), (100, [6]), (4, [30, 31, 0, 0, 0, 32, 14, 19, 0, 0, 0, 0, 0]), (100, [6]), (100, [6]), (106, [31, 32, 33, 34, 35, 36, 37]), (103, [6]), (103, [6]), (103, [6]), (103, [6]), (103, [6]), (103, [6]), (103, [6]), (1, [41, 42, 14, 19]), (103, [1206]), (103, [6]), (105, [42, 0, 0, 0]), (5, [0, 0, 0, 45]), (100, [40]), (5, [0, 0, 0, 2])]) (a9 := 43) d_ShakeHands_init_144 rfl (by decide) i_Sheet t_Sheet_ok cwl_ShakeHands_59 in_Sheet ini_Sheet (fun ad j hj => nu_Sheet ad j hj) ⟨by funext y; simp [si, zM], by funext y; simp [si, zM]⟩ (Nat.le_of_ble_eq_true rfl) (Nat.le_of_ble_eq_true rfl) (Nat.le_of_ble_eq_true rfl) rfl rfl ?_
  refine c_dup (pc := 147) d_ShakeHands_init_147 rfl ?_
  refine c_initN (pc := 148) (as := []) (a := 43) d_ShakeHands_init_148 CC_14 cN_ShakeHands_65 cd_Sheet_init rfl im_Sheet_init ini_Sheet dn_Sheet_init rfl (by decide) (by decide) (Nat.le_of_ble_eq_true rfl) (Nat.le_of_ble_eq_true rfl) (Nat.le_of_ble_eq_true rfl) ?_
  refine c_aastS (pc := 151) (sh8 := [(8, [4, 6, 14, 19, 22, 29, 40, 43, 2, 0, 0]), (6, [5, 0]), (101, [320]), (7, [7, 12, 0, 0, 4, 13, 0, 0, 0, 0, 0, 0, 0, 0, 0]), (0, [0, 0, 8, 0, 9, 0, 10, 0, 11]), (100, [12]), (100, [16]), (100, [8]), (3, [1, 0]), (103, [6]), (3, [1, 0]), (0, [0, 0, 15, 0, 16, 0, 17, 0, 18]), (100, [12]), (100, [16]), (100, [8]), (3, [1, 0]), (2, [20, 0, 0, 21]), (103, [6]), (100, [6]), (104, [21, 24]), (2, [24, 0, 0, 25]), (103, [6]), (100, [6]), (2, [27, 0, 0, 28]), (103, [6]), (100, [6]), (4, [30, 31, 0, 0, 0, 32, 14, 19, 0, 0, 0, 0, 0]), (100, [6]), (100, [6]), (106, [31, 32, 33, 34, 35, 36, 37]), (103, [6]), (103, [6]), (103, [6]), (103, [6]), (103, [6]), (103, [6]), (103, [6]), (1, [41, 42, 14, 19]), (103, [1206]), (103, [6]), (105, [42, 44, 0, 0]), (5, [0, 0, 0, 45]), (100, [40]), (5, [0, 0, 0, 47]), (100, [40])]) d_ShakeHands_init_151 rfl rfl (by decide) rfl (vp_in_nI (n := 1) (by decide) (by decide)) (Nat.le_of_ble_eq_true rfl) rfl ?_
  refine c_iinc (pc := 152) (q := 0) (v := 2) d_ShakeHands_init_152 rfl (by decide) (by decide) rfl ?_
  refine c_goto (pc := 155) (tgt := 134) d_ShakeHands_init_155 (by decide) ?_
  refine c_iload_n (pc := 134) (q := 0) d_ShakeHands_init_134 rfl rfl ?_
  refine c_iconst (pc := 135) d_ShakeHands_init_135 k_i_4 ?_
  refine c_ge_f (pc := 136) (tgt := 158) d_ShakeHands_init_136 (by decide) (by decide) ?_
  refine c_aload_n (pc := 139) (q := 1) d_ShakeHands_init_139 rfl rfl ?_
  refine c_getA (pc := 140) (b := 40) d_ShakeHands_init_140 fl_ShakeHands_61 rfl (by decide) rfl ?_
  refine c_iload_n (pc := 143) (q := 0) d_ShakeHands_init_143 rfl rfl ?_
  refine c_new (pc := 144) (ci := 5) (T := F_Sheet) (N := 4) (ds := [0, 0, 0, 2]) (sh8 := [(8, [4, 6, 14, 19, 22, 29, 40, 43, 2, 0, 0]), (6, [5, 0]), (101, [320]), (7, [7, 12, 0, 0, 4, 13, 0, 0, 0, 0, 0, 0, 0, 0, 0]), (0, [0, 0, 8, 0, 9, 0, 10, 0, 11]), (100, [12]), (100, [16]), (100, [8]), (3, [1, 0]), (103, [6]), (3, [1, 0]), (0, [0, 0, 15, 0, 16, 0, 17, 0, 18]), (100, [12]), (100, [16]), (100, [8]), (3, [1, 0]), (2, [20, 0, 0, 21]), (103, [6]), (100, [6]), (104, [21, 24]), (2, [24, 0, 0, 25]), (103, [6]), (100, [6]), (2, [27, 0, 0, 28]), (103, [6]), (100, [6]), (4, [30, 31, 0, 0, 0, 32, 14, 19, 0, 0, 0, 0, 0]), (100, [6]), (100, [6]), (106, [31, 32, 33, 34, 35, 36, 37]), (103, [6]), (103, [6]), (103, [6]), (103, [6]), (103, [6]), (103, [6]), (103, [6]), (1, [41, 42, 14, 19]), (103, [1206]), (103, [6]), (105, [42, 44, 0, 0]), (5, [0, 0, 0, 45]), (100, [40]), (5, [0, 0, 0, 47]), (100, [40]), (5, [0, 0, 0, 2])]) (a9 := 45) d_ShakeHands_init_144 rfl (by decide) i_Sheet t_Sheet_ok cwl_ShakeHands_59 in_Sheet ini_Sheet (fun ad j hj => nu_Sheet ad j hj) ⟨by funext y; simp [si, zM], by funext y; simp [si, zM]⟩ (Nat.le_of_ble_eq_true rfl) (Nat.le_of_ble_eq_true rfl) (Nat.le_of_ble_eq_true rfl) rfl rfl ?_
  refine c_dup (pc := 147) d_ShakeHands_init_147 rfl ?_
  refine c_initN (pc := 148) (as := []) (a := 45) d_ShakeHands_init_148 CC_15 cN_ShakeHands_65 cd_Sheet_init rfl im_Sheet_init ini_Sheet dn_Sheet_init rfl (by decide) (by decide) (Nat.le_of_ble_eq_true rfl) (Nat.le_of_ble_eq_true rfl) (Nat.le_of_ble_eq_true rfl) ?_
  refine c_aastS (pc := 151) (sh8 := [(8, [4, 6, 14, 19, 22, 29, 40, 43, 2, 0, 0]), (6, [5, 0]), (101, [320]), (7, [7, 12, 0, 0, 4, 13, 0, 0, 0, 0, 0, 0, 0, 0, 0]), (0, [0, 0, 8, 0, 9, 0, 10, 0, 11]), (100, [12]), (100, [16]), (100, [8]), (3, [1, 0]), (103, [6]), (3, [1, 0]), (0, [0, 0, 15, 0, 16, 0, 17, 0, 18]), (100, [12]), (100, [16]), (100, [8]), (3, [1, 0]), (2, [20, 0, 0, 21]), (103, [6]), (100, [6]), (104, [21, 24]), (2, [24, 0, 0, 25]), (103, [6]), (100, [6]), (2, [27, 0, 0, 28]), (103, [6]), (100, [6]), (4, [30, 31, 0, 0, 0, 32, 14, 19, 0, 0, 0, 0, 0]), (100, [6]), (100, [6]), (106, [31, 32, 33, 34, 35, 36, 37]), (103, [6]), (103, [6]), (103, [6]), (103, [6]), (103, [6]), (103, [6]), (103, [6]), (1, [41, 42, 14, 19]), (103, [1206]), (103, [6]), (105, [42, 44, 46, 0]), (5, [0, 0, 0, 45]), (100, [40]), (5, [0, 0, 0, 47]), (100, [40]), (5, [0, 0, 0, 49]), (100, [40])]) d_ShakeHands_init_151 rfl rfl (by decide) rfl (vp_in_nI (n := 2) (by decide) (by decide)) (Nat.le_of_ble_eq_true rfl) rfl ?_
  refine c_iinc (pc := 152) (q := 0) (v := 3) d_ShakeHands_init_152 rfl (by decide) (by decide) rfl ?_
  refine c_goto (pc := 155) (tgt := 134) d_ShakeHands_init_155 (by decide) ?_
  refine c_iload_n (pc := 134) (q := 0) d_ShakeHands_init_134 rfl rfl ?_
  refine c_iconst (pc := 135) d_ShakeHands_init_135 k_i_4 ?_
  refine c_ge_f (pc := 136) (tgt := 158) d_ShakeHands_init_136 (by decide) (by decide) ?_
  refine c_aload_n (pc := 139) (q := 1) d_ShakeHands_init_139 rfl rfl ?_
  refine c_getA (pc := 140) (b := 40) d_ShakeHands_init_140 fl_ShakeHands_61 rfl (by decide) rfl ?_
  refine c_iload_n (pc := 143) (q := 0) d_ShakeHands_init_143 rfl rfl ?_
  refine c_new (pc := 144) (ci := 5) (T := F_Sheet) (N := 4) (ds := [0, 0, 0, 2]) (sh8 := [(8, [4, 6, 14, 19, 22, 29, 40, 43, 2, 0, 0]), (6, [5, 0]), (101, [320]), (7, [7, 12, 0, 0, 4, 13, 0, 0, 0, 0, 0, 0, 0, 0, 0]), (0, [0, 0, 8, 0, 9, 0, 10, 0, 11]), (100, [12]), (100, [16]), (100, [8]), (3, [1, 0]), (103, [6]), (3, [1, 0]), (0, [0, 0, 15, 0, 16, 0, 17, 0, 18]), (100, [12]), (100, [16]), (100, [8]), (3, [1, 0]), (2, [20, 0, 0, 21]), (103, [6]), (100, [6]), (104, [21, 24]), (2, [24, 0, 0, 25]), (103, [6]), (100, [6]), (2, [27, 0, 0, 28]), (103, [6]), (100, [6]), (4, [30, 31, 0, 0, 0, 32, 14, 19, 0, 0, 0, 0, 0]), (100, [6]), (100, [6]), (106, [31, 32, 33, 34, 35, 36, 37]), (103, [6]), (103, [6]), (103, [6]), (103, [6]), (103, [6]), (103, [6]), (103, [6]), (1, [41, 42, 14, 19]), (103, [1206]), (103, [6]), (105, [42, 44, 46, 0]), (5, [0, 0, 0, 45]), (100, [40]), (5, [0, 0, 0, 47]), (100, [40]), (5, [0, 0, 0, 49]), (100, [40]), (5, [0, 0, 0, 2])]) (a9 := 47) d_ShakeHands_init_144 rfl (by decide) i_Sheet t_Sheet_ok cwl_ShakeHands_59 in_Sheet ini_Sheet (fun ad j hj => nu_Sheet ad j hj) ⟨by funext y; simp [si, zM], by funext y; simp [si, zM]⟩ (Nat.le_of_ble_eq_true rfl) (Nat.le_of_ble_eq_true rfl) (Nat.le_of_ble_eq_true rfl) rfl rfl ?_
  refine c_dup (pc := 147) d_ShakeHands_init_147 rfl ?_
  refine c_initN (pc := 148) (as := []) (a := 47) d_ShakeHands_init_148 CC_16 cN_ShakeHands_65 cd_Sheet_init rfl im_Sheet_init ini_Sheet dn_Sheet_init rfl (by decide) (by decide) (Nat.le_of_ble_eq_true rfl) (Nat.le_of_ble_eq_true rfl) (Nat.le_of_ble_eq_true rfl) ?_
  refine c_aastS (pc := 151) (sh8 := [(8, [4, 6, 14, 19, 22, 29, 40, 43, 2, 0, 0]), (6, [5, 0]), (101, [320]), (7, [7, 12, 0, 0, 4, 13, 0, 0, 0, 0, 0, 0, 0, 0, 0]), (0, [0, 0, 8, 0, 9, 0, 10, 0, 11]), (100, [12]), (100, [16]), (100, [8]), (3, [1, 0]), (103, [6]), (3, [1, 0]), (0, [0, 0, 15, 0, 16, 0, 17, 0, 18]), (100, [12]), (100, [16]), (100, [8]), (3, [1, 0]), (2, [20, 0, 0, 21]), (103, [6]), (100, [6]), (104, [21, 24]), (2, [24, 0, 0, 25]), (103, [6]), (100, [6]), (2, [27, 0, 0, 28]), (103, [6]), (100, [6]), (4, [30, 31, 0, 0, 0, 32, 14, 19, 0, 0, 0, 0, 0]), (100, [6]), (100, [6]), (106, [31, 32, 33, 34, 35, 36, 37]), (103, [6]), (103, [6]), (103, [6]), (103, [6]), (103, [6]), (103, [6]), (103, [6]), (1, [41, 42, 14, 19]), (103, [1206]), (103, [6]), (105, [42, 44, 46, 48]), (5, [0, 0, 0, 45]), (100, [40]), (5, [0, 0, 0, 47]), (100, [40]), (5, [0, 0, 0, 49]), (100, [40]), (5, [0, 0, 0, 51]), (100, [40])]) d_ShakeHands_init_151 rfl rfl (by decide) rfl (vp_in_nI (n := 3) (by decide) (by decide)) (Nat.le_of_ble_eq_true rfl) rfl ?_
  refine c_iinc (pc := 152) (q := 0) (v := 4) d_ShakeHands_init_152 rfl (by decide) (by decide) rfl ?_
  refine c_goto (pc := 155) (tgt := 134) d_ShakeHands_init_155 (by decide) ?_
  refine c_iload_n (pc := 134) (q := 0) d_ShakeHands_init_134 rfl rfl ?_
  refine c_iconst (pc := 135) d_ShakeHands_init_135 k_i_4 ?_
  refine c_ge_t (pc := 136) (tgt := 158) d_ShakeHands_init_136 (by decide) (by decide) ?_
  refine c_aload_n (pc := 158) (q := 1) d_ShakeHands_init_158 rfl rfl ?_
  refine c_bipush (pc := 159) d_ShakeHands_init_159 k_b_6 ?_
  refine c_newaL (pc := 161) (N := 6) (sh8 := [(8, [4, 6, 14, 19, 22, 29, 40, 43, 2, 0, 0]), (6, [5, 0]), (101, [320]), (7, [7, 12, 0, 0, 4, 13, 0, 0, 0, 0, 0, 0, 0, 0, 0]), (0, [0, 0, 8, 0, 9, 0, 10, 0, 11]), (100, [12]), (100, [16]), (100, [8]), (3, [1, 0]), (103, [6]), (3, [1, 0]), (0, [0, 0, 15, 0, 16, 0, 17, 0, 18]), (100, [12]), (100, [16]), (100, [8]), (3, [1, 0]), (2, [20, 0, 0, 21]), (103, [6]), (100, [6]), (104, [21, 24]), (2, [24, 0, 0, 25]), (103, [6]), (100, [6]), (2, [27, 0, 0, 28]), (103, [6]), (100, [6]), (4, [30, 31, 0, 0, 0, 32, 14, 19, 0, 0, 0, 0, 0]), (100, [6]), (100, [6]), (106, [31, 32, 33, 34, 35, 36, 37]), (103, [6]), (103, [6]), (103, [6]), (103, [6]), (103, [6]), (103, [6]), (103, [6]), (1, [41, 42, 14, 19]), (103, [1206]), (103, [6]), (105, [42, 44, 46, 48]), (5, [0, 0, 0, 45]), (100, [40]), (5, [0, 0, 0, 47]), (100, [40]), (5, [0, 0, 0, 49]), (100, [40]), (5, [0, 0, 0, 51]), (100, [40]), (103, [6])]) (a9 := 49) d_ShakeHands_init_161 (by decide) (by decide) ac_long (Nat.le_of_ble_eq_true rfl) ⟨by funext y; simp [si, zM], by funext y; simp [si, zM]⟩ (Nat.le_of_ble_eq_true rfl) (Nat.le_of_ble_eq_true rfl) (Nat.le_of_ble_eq_true rfl) rfl rfl ?_
  refine c_putR (pc := 163) (sh8 := [(8, [4, 6, 14, 19, 22, 29, 40, 43, 52, 0, 0]), (6, [5, 0]), (101, [320]), (7, [7, 12, 0, 0, 4, 13, 0, 0, 0, 0, 0, 0, 0, 0, 0]), (0, [0, 0, 8, 0, 9, 0, 10, 0, 11]), (100, [12]), (100, [16]), (100, [8]), (3, [1, 0]), (103, [6]), (3, [1, 0]), (0, [0, 0, 15, 0, 16, 0, 17, 0, 18]), (100, [12]), (100, [16]), (100, [8]), (3, [1, 0]), (2, [20, 0, 0, 21]), (103, [6]), (100, [6]), (104, [21, 24]), (2, [24, 0, 0, 25]), (103, [6]), (100, [6]), (2, [27, 0, 0, 28]), (103, [6]), (100, [6]), (4, [30, 31, 0, 0, 0, 32, 14, 19, 0, 0, 0, 0, 0]), (100, [6]), (100, [6]), (106, [31, 32, 33, 34, 35, 36, 37]), (103, [6]), (103, [6]), (103, [6]), (103, [6]), (103, [6]), (103, [6]), (103, [6]), (1, [41, 42, 14, 19]), (103, [1206]), (103, [6]), (105, [42, 44, 46, 48]), (5, [0, 0, 0, 45]), (100, [40]), (5, [0, 0, 0, 47]), (100, [40]), (5, [0, 0, 0, 49]), (100, [40]), (5, [0, 0, 0, 51]), (100, [40]), (103, [6])]) d_ShakeHands_init_163 fl_ShakeHands_66 rfl rfl (by decide) (by decide) (Nat.le_of_ble_eq_true rfl) (fun C T N h => by cases h; rfl) rfl ?_
  exact c_return (pc := 166) (st := []) d_ShakeHands_init_166 (Nat.le_of_ble_eq_true rfl) (Nat.le_of_ble_eq_true rfl) rfl rfl
end
