-- ===== PART A: goes FIRST, ahead of the names: the tables' words, and 'selects' of the private methods out of them =====
/-- a private method of a class that the tables say can be made, by its rows of tables_1 -/
def lw_okq (q : MethodName × Nat) : Prop := (q.1.cls ≠ "java/lang/invoke/MethodHandle" ∧ q.1.cls ≠ "java/lang/invoke/VarHandle") ∧ Cond.instantiable q.1.cls q.2 ∈ tables_1 ∧ Cond.privateMethod q.1 ∈ tables_1 ∧ Cond.instanceMethod q.1 ∈ tables_1
theorem lw_p0 : lw_okq (⟨"GateWalk$Reader", "isAtEnd", "()Z"⟩, 2) := ⟨⟨by decide +kernel, by decide +kernel⟩, List.mem_of_getElem? (i := 44) (by decide +kernel), List.mem_of_getElem? (i := 366) (by decide +kernel), List.mem_of_getElem? (i := 367) (by decide +kernel)⟩
theorem lw_p1 : lw_okq (⟨"GateWalk$Reader", "readEquation", "(LGateWalk$Equations;)Z"⟩, 2) := ⟨⟨by decide +kernel, by decide +kernel⟩, List.mem_of_getElem? (i := 44) (by decide +kernel), List.mem_of_getElem? (i := 371) (by decide +kernel), List.mem_of_getElem? (i := 372) (by decide +kernel)⟩
theorem lw_p2 : lw_okq (⟨"GateWalk$Reader", "signalHere", "()I"⟩, 2) := ⟨⟨by decide +kernel, by decide +kernel⟩, List.mem_of_getElem? (i := 44) (by decide +kernel), List.mem_of_getElem? (i := 375) (by decide +kernel), List.mem_of_getElem? (i := 376) (by decide +kernel)⟩
theorem lw_p3 : lw_okq (⟨"GateWalk$Reader", "step", "()V"⟩, 2) := ⟨⟨by decide +kernel, by decide +kernel⟩, List.mem_of_getElem? (i := 44) (by decide +kernel), List.mem_of_getElem? (i := 390) (by decide +kernel), List.mem_of_getElem? (i := 391) (by decide +kernel)⟩
theorem lw_p4 : lw_okq (⟨"GateWalk$Reader", "isOn", "(C)Z"⟩, 2) := ⟨⟨by decide +kernel, by decide +kernel⟩, List.mem_of_getElem? (i := 44) (by decide +kernel), List.mem_of_getElem? (i := 394) (by decide +kernel), List.mem_of_getElem? (i := 395) (by decide +kernel)⟩
theorem lw_p5 : lw_okq (⟨"GateWalk$Reader", "readTerms", "(ILGateWalk$Equations;)Z"⟩, 2) := ⟨⟨by decide +kernel, by decide +kernel⟩, List.mem_of_getElem? (i := 44) (by decide +kernel), List.mem_of_getElem? (i := 410) (by decide +kernel), List.mem_of_getElem? (i := 411) (by decide +kernel)⟩
theorem lw_p6 : lw_okq (⟨"GateWalk$Reader", "readTerm", "(ILGateWalk$Equations;)Z"⟩, 2) := ⟨⟨by decide +kernel, by decide +kernel⟩, List.mem_of_getElem? (i := 44) (by decide +kernel), List.mem_of_getElem? (i := 414) (by decide +kernel), List.mem_of_getElem? (i := 415) (by decide +kernel)⟩
theorem lw_p7 : lw_okq (⟨"GateWalk", "forgetWalk", "()V"⟩, 11) := ⟨⟨by decide +kernel, by decide +kernel⟩, List.mem_of_getElem? (i := 22) (by decide +kernel), List.mem_of_getElem? (i := 430) (by decide +kernel), List.mem_of_getElem? (i := 431) (by decide +kernel)⟩
theorem lw_p8 : lw_okq (⟨"GateWalk$Walk", "enter", "(II)V"⟩, 8) := ⟨⟨by decide +kernel, by decide +kernel⟩, List.mem_of_getElem? (i := 104) (by decide +kernel), List.mem_of_getElem? (i := 503) (by decide +kernel), List.mem_of_getElem? (i := 504) (by decide +kernel)⟩
theorem lw_p9 : lw_okq (⟨"GateWalk$Walk", "goOnFrom", "(I)V"⟩, 8) := ⟨⟨by decide +kernel, by decide +kernel⟩, List.mem_of_getElem? (i := 104) (by decide +kernel), List.mem_of_getElem? (i := 507) (by decide +kernel), List.mem_of_getElem? (i := 508) (by decide +kernel)⟩
theorem lw_p10 : lw_okq (⟨"GateWalk$Hazards", "hazardsIn", "(I)I"⟩, 5) := ⟨⟨by decide +kernel, by decide +kernel⟩, List.mem_of_getElem? (i := 135) (by decide +kernel), List.mem_of_getElem? (i := 544) (by decide +kernel), List.mem_of_getElem? (i := 545) (by decide +kernel)⟩
theorem lw_p11 : lw_okq (⟨"GateWalk$Hazards", "placeWith", "(I)I"⟩, 5) := ⟨⟨by decide +kernel, by decide +kernel⟩, List.mem_of_getElem? (i := 135) (by decide +kernel), List.mem_of_getElem? (i := 565) (by decide +kernel), List.mem_of_getElem? (i := 566) (by decide +kernel)⟩
theorem lw_p12 : lw_okq (⟨"GateWalk$Hazards", "signalOf", "(III)I"⟩, 5) := ⟨⟨by decide +kernel, by decide +kernel⟩, List.mem_of_getElem? (i := 135) (by decide +kernel), List.mem_of_getElem? (i := 569) (by decide +kernel), List.mem_of_getElem? (i := 570) (by decide +kernel)⟩
theorem lw_p13 : lw_okq (⟨"GateWalk$Liveness", "leadsThereFromAll", "(I)Z"⟩, 7) := ⟨⟨by decide +kernel, by decide +kernel⟩, List.mem_of_getElem? (i := 157) (by decide +kernel), List.mem_of_getElem? (i := 608) (by decide +kernel), List.mem_of_getElem? (i := 609) (by decide +kernel)⟩
theorem lw_p14 : lw_okq (⟨"GateWalk$Liveness", "find", "(I)V"⟩, 7) := ⟨⟨by decide +kernel, by decide +kernel⟩, List.mem_of_getElem? (i := 157) (by decide +kernel), List.mem_of_getElem? (i := 615) (by decide +kernel), List.mem_of_getElem? (i := 616) (by decide +kernel)⟩
theorem lw_p15 : lw_okq (⟨"GateWalk$Liveness", "goBackFrom", "(I)V"⟩, 7) := ⟨⟨by decide +kernel, by decide +kernel⟩, List.mem_of_getElem? (i := 157) (by decide +kernel), List.mem_of_getElem? (i := 619) (by decide +kernel), List.mem_of_getElem? (i := 620) (by decide +kernel)⟩
def lw_privs_1 : List (MethodName × Nat) := [(⟨"GateWalk$Reader", "isAtEnd", "()Z"⟩, 2), (⟨"GateWalk$Reader", "readEquation", "(LGateWalk$Equations;)Z"⟩, 2), (⟨"GateWalk$Reader", "signalHere", "()I"⟩, 2), (⟨"GateWalk$Reader", "step", "()V"⟩, 2), (⟨"GateWalk$Reader", "isOn", "(C)Z"⟩, 2), (⟨"GateWalk$Reader", "readTerms", "(ILGateWalk$Equations;)Z"⟩, 2), (⟨"GateWalk$Reader", "readTerm", "(ILGateWalk$Equations;)Z"⟩, 2), (⟨"GateWalk", "forgetWalk", "()V"⟩, 11), (⟨"GateWalk$Walk", "enter", "(II)V"⟩, 8), (⟨"GateWalk$Walk", "goOnFrom", "(I)V"⟩, 8), (⟨"GateWalk$Hazards", "hazardsIn", "(I)I"⟩, 5), (⟨"GateWalk$Hazards", "placeWith", "(I)I"⟩, 5), (⟨"GateWalk$Hazards", "signalOf", "(III)I"⟩, 5), (⟨"GateWalk$Liveness", "leadsThereFromAll", "(I)Z"⟩, 7), (⟨"GateWalk$Liveness", "find", "(I)V"⟩, 7), (⟨"GateWalk$Liveness", "goBackFrom", "(I)V"⟩, 7)]
theorem lw_r1 : ∀ q ∈ lw_privs_1, lw_okq q := List.forall_mem_cons.mpr ⟨lw_p0, List.forall_mem_cons.mpr ⟨lw_p1, List.forall_mem_cons.mpr ⟨lw_p2, List.forall_mem_cons.mpr ⟨lw_p3, List.forall_mem_cons.mpr ⟨lw_p4, List.forall_mem_cons.mpr ⟨lw_p5, List.forall_mem_cons.mpr ⟨lw_p6, List.forall_mem_cons.mpr ⟨lw_p7, List.forall_mem_cons.mpr ⟨lw_p8, List.forall_mem_cons.mpr ⟨lw_p9, List.forall_mem_cons.mpr ⟨lw_p10, List.forall_mem_cons.mpr ⟨lw_p11, List.forall_mem_cons.mpr ⟨lw_p12, List.forall_mem_cons.mpr ⟨lw_p13, List.forall_mem_cons.mpr ⟨lw_p14, List.forall_mem_cons.mpr ⟨lw_p15, fun _ h => absurd h List.not_mem_nil⟩⟩⟩⟩⟩⟩⟩⟩⟩⟩⟩⟩⟩⟩⟩⟩
theorem lw_p16 : lw_okq (⟨"GateWalk", "forgetRings", "()V"⟩, 11) := ⟨⟨by decide +kernel, by decide +kernel⟩, List.mem_of_getElem? (i := 22) (by decide +kernel), List.mem_of_getElem? (i := 661) (by decide +kernel), List.mem_of_getElem? (i := 662) (by decide +kernel)⟩
theorem lw_p17 : lw_okq (⟨"GateWalk$Net", "nodesBehindRings", "(I)I"⟩, 6) := ⟨⟨by decide +kernel, by decide +kernel⟩, List.mem_of_getElem? (i := 186) (by decide +kernel), List.mem_of_getElem? (i := 712) (by decide +kernel), List.mem_of_getElem? (i := 713) (by decide +kernel)⟩
theorem lw_p18 : lw_okq (⟨"GateWalk$Turns", "findGreatest", "(LGateWalk$Ratio;)V"⟩, 11) := ⟨⟨by decide +kernel, by decide +kernel⟩, List.mem_of_getElem? (i := 211) (by decide +kernel), List.mem_of_getElem? (i := 739) (by decide +kernel), List.mem_of_getElem? (i := 740) (by decide +kernel)⟩
theorem lw_p19 : lw_okq (⟨"GateWalk$Turns", "nodeBehindGreaterRing", "(LGateWalk$Ratio;)I"⟩, 11) := ⟨⟨by decide +kernel, by decide +kernel⟩, List.mem_of_getElem? (i := 211) (by decide +kernel), List.mem_of_getElem? (i := 748) (by decide +kernel), List.mem_of_getElem? (i := 749) (by decide +kernel)⟩
theorem lw_p20 : lw_okq (⟨"GateWalk$Turns", "growPaths", "(LGateWalk$Ratio;)I"⟩, 11) := ⟨⟨by decide +kernel, by decide +kernel⟩, List.mem_of_getElem? (i := 211) (by decide +kernel), List.mem_of_getElem? (i := 757) (by decide +kernel), List.mem_of_getElem? (i := 758) (by decide +kernel)⟩
theorem lw_p21 : lw_okq (⟨"GateWalk$Turns", "tokensOn", "(I)I"⟩, 11) := ⟨⟨by decide +kernel, by decide +kernel⟩, List.mem_of_getElem? (i := 211) (by decide +kernel), List.mem_of_getElem? (i := 781) (by decide +kernel), List.mem_of_getElem? (i := 782) (by decide +kernel)⟩
theorem lw_p22 : lw_okq (⟨"GateWalk$Turns", "nodeOnRing", "(I)I"⟩, 11) := ⟨⟨by decide +kernel, by decide +kernel⟩, List.mem_of_getElem? (i := 211) (by decide +kernel), List.mem_of_getElem? (i := 793) (by decide +kernel), List.mem_of_getElem? (i := 794) (by decide +kernel)⟩
theorem lw_p23 : lw_okq (⟨"GateWalk$Turns", "putRing", "(ILGateWalk$Ratio;)V"⟩, 11) := ⟨⟨by decide +kernel, by decide +kernel⟩, List.mem_of_getElem? (i := 211) (by decide +kernel), List.mem_of_getElem? (i := 797) (by decide +kernel), List.mem_of_getElem? (i := 798) (by decide +kernel)⟩
theorem lw_p24 : lw_okq (⟨"java/lang/Throwable", "fillInStackTrace", "(I)Ljava/lang/Throwable;"⟩, 6) := ⟨⟨by decide +kernel, by decide +kernel⟩, List.mem_of_getElem? (i := 904) (by decide +kernel), List.mem_of_getElem? (i := 902) (by decide +kernel), List.mem_of_getElem? (i := 903) (by decide +kernel)⟩
theorem lw_p25 : lw_okq (⟨"GateWalk$Timetable", "orderArcs", "()V"⟩, 6) := ⟨⟨by decide +kernel, by decide +kernel⟩, List.mem_of_getElem? (i := 264) (by decide +kernel), List.mem_of_getElem? (i := 938) (by decide +kernel), List.mem_of_getElem? (i := 939) (by decide +kernel)⟩
theorem lw_p26 : lw_okq (⟨"GateWalk$Timetable", "appendArcsTo", "(I)V"⟩, 6) := ⟨⟨by decide +kernel, by decide +kernel⟩, List.mem_of_getElem? (i := 264) (by decide +kernel), List.mem_of_getElem? (i := 944) (by decide +kernel), List.mem_of_getElem? (i := 945) (by decide +kernel)⟩
theorem lw_p27 : lw_okq (⟨"GateWalk$Timetable", "fill", "(I)V"⟩, 6) := ⟨⟨by decide +kernel, by decide +kernel⟩, List.mem_of_getElem? (i := 264) (by decide +kernel), List.mem_of_getElem? (i := 951) (by decide +kernel), List.mem_of_getElem? (i := 952) (by decide +kernel)⟩
theorem lw_p28 : lw_okq (⟨"GateWalkModel", "put", "(I)V"⟩, 32) := ⟨⟨by decide +kernel, by decide +kernel⟩, List.mem_of_getElem? (i := 970) (by decide +kernel), List.mem_of_getElem? (i := 1084) (by decide +kernel), List.mem_of_getElem? (i := 1085) (by decide +kernel)⟩
theorem lw_p29 : lw_okq (⟨"GateWalkModel", "read", "()I"⟩, 32) := ⟨⟨by decide +kernel, by decide +kernel⟩, List.mem_of_getElem? (i := 970) (by decide +kernel), List.mem_of_getElem? (i := 1096) (by decide +kernel), List.mem_of_getElem? (i := 1097) (by decide +kernel)⟩
theorem lw_p30 : lw_okq (⟨"GateWalkModel", "look", "()I"⟩, 32) := ⟨⟨by decide +kernel, by decide +kernel⟩, List.mem_of_getElem? (i := 970) (by decide +kernel), List.mem_of_getElem? (i := 1100) (by decide +kernel), List.mem_of_getElem? (i := 1101) (by decide +kernel)⟩
theorem lw_p31 : lw_okq (⟨"GateWalkModel", "equation", "()Z"⟩, 32) := ⟨⟨by decide +kernel, by decide +kernel⟩, List.mem_of_getElem? (i := 970) (by decide +kernel), List.mem_of_getElem? (i := 1104) (by decide +kernel), List.mem_of_getElem? (i := 1105) (by decide +kernel)⟩
def lw_privs_2 : List (MethodName × Nat) := [(⟨"GateWalk", "forgetRings", "()V"⟩, 11), (⟨"GateWalk$Net", "nodesBehindRings", "(I)I"⟩, 6), (⟨"GateWalk$Turns", "findGreatest", "(LGateWalk$Ratio;)V"⟩, 11), (⟨"GateWalk$Turns", "nodeBehindGreaterRing", "(LGateWalk$Ratio;)I"⟩, 11), (⟨"GateWalk$Turns", "growPaths", "(LGateWalk$Ratio;)I"⟩, 11), (⟨"GateWalk$Turns", "tokensOn", "(I)I"⟩, 11), (⟨"GateWalk$Turns", "nodeOnRing", "(I)I"⟩, 11), (⟨"GateWalk$Turns", "putRing", "(ILGateWalk$Ratio;)V"⟩, 11), (⟨"java/lang/Throwable", "fillInStackTrace", "(I)Ljava/lang/Throwable;"⟩, 6), (⟨"GateWalk$Timetable", "orderArcs", "()V"⟩, 6), (⟨"GateWalk$Timetable", "appendArcsTo", "(I)V"⟩, 6), (⟨"GateWalk$Timetable", "fill", "(I)V"⟩, 6), (⟨"GateWalkModel", "put", "(I)V"⟩, 32), (⟨"GateWalkModel", "read", "()I"⟩, 32), (⟨"GateWalkModel", "look", "()I"⟩, 32), (⟨"GateWalkModel", "equation", "()Z"⟩, 32)]
theorem lw_r2 : ∀ q ∈ lw_privs_2, lw_okq q := List.forall_mem_cons.mpr ⟨lw_p16, List.forall_mem_cons.mpr ⟨lw_p17, List.forall_mem_cons.mpr ⟨lw_p18, List.forall_mem_cons.mpr ⟨lw_p19, List.forall_mem_cons.mpr ⟨lw_p20, List.forall_mem_cons.mpr ⟨lw_p21, List.forall_mem_cons.mpr ⟨lw_p22, List.forall_mem_cons.mpr ⟨lw_p23, List.forall_mem_cons.mpr ⟨lw_p24, List.forall_mem_cons.mpr ⟨lw_p25, List.forall_mem_cons.mpr ⟨lw_p26, List.forall_mem_cons.mpr ⟨lw_p27, List.forall_mem_cons.mpr ⟨lw_p28, List.forall_mem_cons.mpr ⟨lw_p29, List.forall_mem_cons.mpr ⟨lw_p30, List.forall_mem_cons.mpr ⟨lw_p31, fun _ h => absurd h List.not_mem_nil⟩⟩⟩⟩⟩⟩⟩⟩⟩⟩⟩⟩⟩⟩⟩⟩
theorem lw_p32 : lw_okq (⟨"GateWalkModel", "term", "(I)Z"⟩, 32) := ⟨⟨by decide +kernel, by decide +kernel⟩, List.mem_of_getElem? (i := 970) (by decide +kernel), List.mem_of_getElem? (i := 1111) (by decide +kernel), List.mem_of_getElem? (i := 1112) (by decide +kernel)⟩
theorem lw_p33 : lw_okq (⟨"GateWalkModel", "askedIn", "(I)I"⟩, 32) := ⟨⟨by decide +kernel, by decide +kernel⟩, List.mem_of_getElem? (i := 970) (by decide +kernel), List.mem_of_getElem? (i := 1137) (by decide +kernel), List.mem_of_getElem? (i := 1138) (by decide +kernel)⟩
theorem lw_p34 : lw_okq (⟨"GateWalkModel", "walks", "()V"⟩, 32) := ⟨⟨by decide +kernel, by decide +kernel⟩, List.mem_of_getElem? (i := 970) (by decide +kernel), List.mem_of_getElem? (i := 1145) (by decide +kernel), List.mem_of_getElem? (i := 1146) (by decide +kernel)⟩
theorem lw_p35 : lw_okq (⟨"GateWalkModel", "hazardOf", "(II)I"⟩, 32) := ⟨⟨by decide +kernel, by decide +kernel⟩, List.mem_of_getElem? (i := 970) (by decide +kernel), List.mem_of_getElem? (i := 1161) (by decide +kernel), List.mem_of_getElem? (i := 1162) (by decide +kernel)⟩
theorem lw_p36 : lw_okq (⟨"GateWalkModel", "stopOf", "(I)I"⟩, 32) := ⟨⟨by decide +kernel, by decide +kernel⟩, List.mem_of_getElem? (i := 970) (by decide +kernel), List.mem_of_getElem? (i := 1169) (by decide +kernel), List.mem_of_getElem? (i := 1170) (by decide +kernel)⟩
theorem lw_p37 : lw_okq (⟨"GateWalkModel", "wayLong", "(I)I"⟩, 32) := ⟨⟨by decide +kernel, by decide +kernel⟩, List.mem_of_getElem? (i := 970) (by decide +kernel), List.mem_of_getElem? (i := 1177) (by decide +kernel), List.mem_of_getElem? (i := 1178) (by decide +kernel)⟩
theorem lw_p38 : lw_okq (⟨"GateWalkModel", "runs", "(IJ)I"⟩, 32) := ⟨⟨by decide +kernel, by decide +kernel⟩, List.mem_of_getElem? (i := 970) (by decide +kernel), List.mem_of_getElem? (i := 1200) (by decide +kernel), List.mem_of_getElem? (i := 1201) (by decide +kernel)⟩
theorem lw_p39 : lw_okq (⟨"GateWalkModel", "goRound", "()V"⟩, 32) := ⟨⟨by decide +kernel, by decide +kernel⟩, List.mem_of_getElem? (i := 970) (by decide +kernel), List.mem_of_getElem? (i := 1231) (by decide +kernel), List.mem_of_getElem? (i := 1232) (by decide +kernel)⟩
theorem lw_p40 : lw_okq (⟨"GateWalkModel", "round", "(IIIII)V"⟩, 32) := ⟨⟨by decide +kernel, by decide +kernel⟩, List.mem_of_getElem? (i := 970) (by decide +kernel), List.mem_of_getElem? (i := 1236) (by decide +kernel), List.mem_of_getElem? (i := 1237) (by decide +kernel)⟩
theorem lw_p41 : lw_okq (⟨"GateWalkModel", "ring", "(II)V"⟩, 32) := ⟨⟨by decide +kernel, by decide +kernel⟩, List.mem_of_getElem? (i := 970) (by decide +kernel), List.mem_of_getElem? (i := 1240) (by decide +kernel), List.mem_of_getElem? (i := 1241) (by decide +kernel)⟩
theorem lw_p42 : lw_okq (⟨"GateWalkModel", "times", "(I)V"⟩, 32) := ⟨⟨by decide +kernel, by decide +kernel⟩, List.mem_of_getElem? (i := 970) (by decide +kernel), List.mem_of_getElem? (i := 1252) (by decide +kernel), List.mem_of_getElem? (i := 1253) (by decide +kernel)⟩
def lw_privs_3 : List (MethodName × Nat) := [(⟨"GateWalkModel", "term", "(I)Z"⟩, 32), (⟨"GateWalkModel", "askedIn", "(I)I"⟩, 32), (⟨"GateWalkModel", "walks", "()V"⟩, 32), (⟨"GateWalkModel", "hazardOf", "(II)I"⟩, 32), (⟨"GateWalkModel", "stopOf", "(I)I"⟩, 32), (⟨"GateWalkModel", "wayLong", "(I)I"⟩, 32), (⟨"GateWalkModel", "runs", "(IJ)I"⟩, 32), (⟨"GateWalkModel", "goRound", "()V"⟩, 32), (⟨"GateWalkModel", "round", "(IIIII)V"⟩, 32), (⟨"GateWalkModel", "ring", "(II)V"⟩, 32), (⟨"GateWalkModel", "times", "(I)V"⟩, 32)]
theorem lw_r3 : ∀ q ∈ lw_privs_3, lw_okq q := List.forall_mem_cons.mpr ⟨lw_p32, List.forall_mem_cons.mpr ⟨lw_p33, List.forall_mem_cons.mpr ⟨lw_p34, List.forall_mem_cons.mpr ⟨lw_p35, List.forall_mem_cons.mpr ⟨lw_p36, List.forall_mem_cons.mpr ⟨lw_p37, List.forall_mem_cons.mpr ⟨lw_p38, List.forall_mem_cons.mpr ⟨lw_p39, List.forall_mem_cons.mpr ⟨lw_p40, List.forall_mem_cons.mpr ⟨lw_p41, List.forall_mem_cons.mpr ⟨lw_p42, fun _ h => absurd h List.not_mem_nil⟩⟩⟩⟩⟩⟩⟩⟩⟩⟩⟩
def lw_privs : List (MethodName × Nat) := lw_privs_1 ++ (lw_privs_2 ++ (lw_privs_3))
def lw_tbl : List Cond := k2_sels lw_privs ++ tables_1
theorem lw_privs_ok : ∀ q ∈ lw_privs, lw_okq q := by
  show ∀ q ∈ lw_privs_1 ++ (lw_privs_2 ++ (lw_privs_3)), lw_okq q
  exact List.forall_mem_append.mpr ⟨lw_r1, List.forall_mem_append.mpr ⟨lw_r2, lw_r3⟩⟩
def RX0 : String := "GateWalk$Circuit"
def TX0 : u_T := fun k => match k with
  | 0 => ("GateWalk$Circuit", "values", "[I", true)
  | 1 => ("GateWalk$Circuit", "partners", "[I", true)
  | 2 => ("GateWalk$Circuit", "text", "LGateWalk$Equations;", false)
  | 3 => ("GateWalk$Circuit", "reset", "I", false)
  | _ => ("GateWalk$Circuit", "stuckSet", "I", false)
def tyX0 : Nat → FieldType := fun k => match k with
  | 0 => .array .int
  | 1 => .array .int
  | 2 => .object "GateWalk$Equations"
  | 3 => .int
  | _ => .int
theorem nmX0 : ∀ a, a < 5 → ∀ b, b < 5 → a ≠ b → (TX0 a).2.1 ≠ (TX0 b).2.1 := by decide +kernel
theorem tyX0_ok : ∀ k, k < 5 → parseFieldDescriptor (TX0 k).2.2.1 = some (tyX0 k) := by decide +kernel
abbrev cX0_init : ByteArray := prog_2_method_1_code
def yX0_init : MethodName := ⟨RX0, "<init>", "()V"⟩
abbrev cX0_begin : ByteArray := prog_2_method_2_code
def yX0_begin : MethodName := ⟨RX0, "begin", "(LGateWalk$Equations;I)LGateWalk$Equations;"⟩
abbrev cX0_equations : ByteArray := prog_2_method_3_code
def yX0_equations : MethodName := ⟨RX0, "equations", "()I"⟩
abbrev cX0_terms : ByteArray := prog_2_method_4_code
def yX0_terms : MethodName := ⟨RX0, "terms", "()I"⟩
abbrev cX0_resetState : ByteArray := prog_2_method_5_code
def yX0_resetState : MethodName := ⟨RX0, "resetState", "()I"⟩
abbrev cX0_isPair : ByteArray := prog_2_method_6_code
def yX0_isPair : MethodName := ⟨RX0, "isPair", "(II)Z"⟩
abbrev cX0_turnPair : ByteArray := prog_2_method_7_code
def yX0_turnPair : MethodName := ⟨RX0, "turnPair", "(II)V"⟩
abbrev cX0_isStuck : ByteArray := prog_2_method_8_code
def yX0_isStuck : MethodName := ⟨RX0, "isStuck", "(I)Z"⟩
abbrev cX0_turnStuck : ByteArray := prog_2_method_9_code
def yX0_turnStuck : MethodName := ⟨RX0, "turnStuck", "(I)V"⟩
abbrev cX0_askedIn : ByteArray := prog_2_method_10_code
def yX0_askedIn : MethodName := ⟨RX0, "askedIn", "(I)I"⟩
abbrev cX0_takenBackBy : ByteArray := prog_2_method_11_code
def yX0_takenBackBy : MethodName := ⟨RX0, "takenBackBy", "(II)I"⟩
abbrev cX0_runByLots : ByteArray := prog_2_method_12_code
def yX0_runByLots : MethodName := ⟨RX0, "runByLots", "(IJ[I)I"⟩
abbrev cX0_signalInPlace : ByteArray := prog_2_method_13_code
def yX0_signalInPlace : MethodName := ⟨RX0, "signalInPlace", "(II)I"⟩
def RX1 : String := "GateWalk$Equations"
def TX1 : u_T := fun k => match k with
  | 0 => ("GateWalk$Equations", "owner", "[I", true)
  | 1 => ("GateWalk$Equations", "ones", "[I", true)
  | 2 => ("GateWalk$Equations", "zeros", "[I", true)
  | 3 => ("GateWalk$Equations", "terms", "I", false)
  | _ => ("GateWalk$Equations", "signals", "I", false)
def tyX1 : Nat → FieldType := fun k => match k with
  | 0 => .array .int
  | 1 => .array .int
  | 2 => .array .int
  | 3 => .int
  | _ => .int
theorem nmX1 : ∀ a, a < 5 → ∀ b, b < 5 → a ≠ b → (TX1 a).2.1 ≠ (TX1 b).2.1 := by decide +kernel
theorem tyX1_ok : ∀ k, k < 5 → parseFieldDescriptor (TX1 k).2.2.1 = some (tyX1 k) := by decide +kernel
abbrev cX1_init : ByteArray := prog_3_method_1_code
def yX1_init : MethodName := ⟨RX1, "<init>", "()V"⟩
abbrev cX1_removeAll : ByteArray := prog_3_method_2_code
def yX1_removeAll : MethodName := ⟨RX1, "removeAll", "()V"⟩
abbrev cX1_has : ByteArray := prog_3_method_3_code
def yX1_has : MethodName := ⟨RX1, "has", "(I)Z"⟩
abbrev cX1_addEquation : ByteArray := prog_3_method_4_code
def yX1_addEquation : MethodName := ⟨RX1, "addEquation", "(I)V"⟩
abbrev cX1_addConstant : ByteArray := prog_3_method_5_code
def yX1_addConstant : MethodName := ⟨RX1, "addConstant", "(IZ)V"⟩
abbrev cX1_addTerm : ByteArray := prog_3_method_6_code
def yX1_addTerm : MethodName := ⟨RX1, "addTerm", "(III)V"⟩
abbrev cX1_terms : ByteArray := prog_3_method_7_code
def yX1_terms : MethodName := ⟨RX1, "terms", "()I"⟩
abbrev cX1_signals : ByteArray := prog_3_method_8_code
def yX1_signals : MethodName := ⟨RX1, "signals", "()I"⟩
abbrev cX1_valuesIn : ByteArray := prog_3_method_9_code
def yX1_valuesIn : MethodName := ⟨RX1, "valuesIn", "(I)I"⟩
def RX2 : String := "GateWalk$Hazards"
def TX2 : u_T := fun k => match k with
  | 0 => ("GateWalk$Hazards", "gates", "LGateWalk$Circuit;", true)
  | 1 => ("GateWalk$Hazards", "walk", "LGateWalk$Walk;", true)
  | 2 => ("GateWalk$Hazards", "upTo", "[I", true)
  | 3 => ("GateWalk$Hazards", "size", "I", false)
  | _ => ("GateWalk$Hazards", "made", "Z", false)
def tyX2 : Nat → FieldType := fun k => match k with
  | 0 => .object "GateWalk$Circuit"
  | 1 => .object "GateWalk$Walk"
  | 2 => .array .int
  | 3 => .int
  | _ => .boolean
theorem nmX2 : ∀ a, a < 5 → ∀ b, b < 5 → a ≠ b → (TX2 a).2.1 ≠ (TX2 b).2.1 := by decide +kernel
theorem tyX2_ok : ∀ k, k < 5 → parseFieldDescriptor (TX2 k).2.2.1 = some (tyX2 k) := by decide +kernel
abbrev cX2_init : ByteArray := prog_4_method_1_code
def yX2_init : MethodName := ⟨RX2, "<init>", "(LGateWalk$Circuit;LGateWalk$Walk;)V"⟩
abbrev cX2_forget : ByteArray := prog_4_method_2_code
def yX2_forget : MethodName := ⟨RX2, "forget", "()V"⟩
abbrev cX2_renew : ByteArray := prog_4_method_3_code
def yX2_renew : MethodName := ⟨RX2, "renew", "()V"⟩
abbrev cX2_hazardsIn : ByteArray := prog_4_method_4_code
def yX2_hazardsIn : MethodName := ⟨RX2, "hazardsIn", "(I)I"⟩
abbrev cX2_size : ByteArray := prog_4_method_5_code
def yX2_size : MethodName := ⟨RX2, "size", "()I"⟩
abbrev cX2_partOf : ByteArray := prog_4_method_6_code
def yX2_partOf : MethodName := ⟨RX2, "partOf", "(II)I"⟩
abbrev cX2_placeWith : ByteArray := prog_4_method_7_code
def yX2_placeWith : MethodName := ⟨RX2, "placeWith", "(I)I"⟩
abbrev cX2_signalOf : ByteArray := prog_4_method_8_code
def yX2_signalOf : MethodName := ⟨RX2, "signalOf", "(III)I"⟩
def RX3 : String := "GateWalk$Liveness"
def TX3 : u_T := fun k => match k with
  | 0 => ("GateWalk$Liveness", "gates", "LGateWalk$Circuit;", true)
  | 1 => ("GateWalk$Liveness", "walk", "LGateWalk$Walk;", true)
  | 2 => ("GateWalk$Liveness", "found", "[Z", true)
  | 3 => ("GateWalk$Liveness", "queue", "[I", true)
  | 4 => ("GateWalk$Liveness", "queued", "I", false)
  | 5 => ("GateWalk$Liveness", "knownSet", "I", false)
  | _ => ("GateWalk$Liveness", "liveSet", "I", false)
def tyX3 : Nat → FieldType := fun k => match k with
  | 0 => .object "GateWalk$Circuit"
  | 1 => .object "GateWalk$Walk"
  | 2 => .array .boolean
  | 3 => .array .int
  | 4 => .int
  | 5 => .int
  | _ => .int
theorem nmX3 : ∀ a, a < 7 → ∀ b, b < 7 → a ≠ b → (TX3 a).2.1 ≠ (TX3 b).2.1 := by decide +kernel
theorem tyX3_ok : ∀ k, k < 7 → parseFieldDescriptor (TX3 k).2.2.1 = some (tyX3 k) := by decide +kernel
abbrev cX3_init : ByteArray := prog_5_method_1_code
def yX3_init : MethodName := ⟨RX3, "<init>", "(LGateWalk$Circuit;LGateWalk$Walk;)V"⟩
abbrev cX3_forget : ByteArray := prog_5_method_2_code
def yX3_forget : MethodName := ⟨RX3, "forget", "()V"⟩
abbrev cX3_isLive : ByteArray := prog_5_method_3_code
def yX3_isLive : MethodName := ⟨RX3, "isLive", "(I)Z"⟩
abbrev cX3_leadsThereFromAll : ByteArray := prog_5_method_4_code
def yX3_leadsThereFromAll : MethodName := ⟨RX3, "leadsThereFromAll", "(I)Z"⟩
abbrev cX3_goBackFrom : ByteArray := prog_5_method_5_code
def yX3_goBackFrom : MethodName := ⟨RX3, "goBackFrom", "(I)V"⟩
abbrev cX3_find : ByteArray := prog_5_method_6_code
def yX3_find : MethodName := ⟨RX3, "find", "(I)V"⟩
def RX4 : String := "GateWalk$Net"
def TX4 : u_T := fun k => match k with
  | 0 => ("GateWalk$Net", "delays", "[I", true)
  | 1 => ("GateWalk$Net", "sources", "[I", true)
  | 2 => ("GateWalk$Net", "targets", "[I", true)
  | 3 => ("GateWalk$Net", "held", "[I", true)
  | 4 => ("GateWalk$Net", "nodes", "I", false)
  | _ => ("GateWalk$Net", "arcs", "I", false)
def tyX4 : Nat → FieldType := fun k => match k with
  | 0 => .array .int
  | 1 => .array .int
  | 2 => .array .int
  | 3 => .array .int
  | 4 => .int
  | _ => .int
theorem nmX4 : ∀ a, a < 6 → ∀ b, b < 6 → a ≠ b → (TX4 a).2.1 ≠ (TX4 b).2.1 := by decide +kernel
theorem tyX4_ok : ∀ k, k < 6 → parseFieldDescriptor (TX4 k).2.2.1 = some (tyX4 k) := by decide +kernel
abbrev cX4_init : ByteArray := prog_6_method_1_code
def yX4_init : MethodName := ⟨RX4, "<init>", "()V"⟩
abbrev cX4_removeAll : ByteArray := prog_6_method_2_code
def yX4_removeAll : MethodName := ⟨RX4, "removeAll", "()V"⟩
abbrev cX4_addNode : ByteArray := prog_6_method_3_code
def yX4_addNode : MethodName := ⟨RX4, "addNode", "(I)I"⟩
abbrev cX4_addArc : ByteArray := prog_6_method_4_code
def yX4_addArc : MethodName := ⟨RX4, "addArc", "(III)I"⟩
abbrev cX4_putTokens : ByteArray := prog_6_method_5_code
def yX4_putTokens : MethodName := ⟨RX4, "putTokens", "(II)Z"⟩
abbrev cX4_isTokens : ByteArray := prog_6_method_6_code
def yX4_isTokens : MethodName := ⟨RX4, "isTokens", "(I)Z"⟩
abbrev cX4_isNode : ByteArray := prog_6_method_7_code
def yX4_isNode : MethodName := ⟨RX4, "isNode", "(I)Z"⟩
abbrev cX4_nodes : ByteArray := prog_6_method_8_code
def yX4_nodes : MethodName := ⟨RX4, "nodes", "()I"⟩
abbrev cX4_arcs : ByteArray := prog_6_method_9_code
def yX4_arcs : MethodName := ⟨RX4, "arcs", "()I"⟩
abbrev cX4_delayOf : ByteArray := prog_6_method_10_code
def yX4_delayOf : MethodName := ⟨RX4, "delayOf", "(I)I"⟩
abbrev cX4_sourceOf : ByteArray := prog_6_method_11_code
def yX4_sourceOf : MethodName := ⟨RX4, "sourceOf", "(I)I"⟩
abbrev cX4_targetOf : ByteArray := prog_6_method_12_code
def yX4_targetOf : MethodName := ⟨RX4, "targetOf", "(I)I"⟩
abbrev cX4_tokensOf : ByteArray := prog_6_method_13_code
def yX4_tokensOf : MethodName := ⟨RX4, "tokensOf", "(I)I"⟩
abbrev cX4_allNodes : ByteArray := prog_6_method_14_code
def yX4_allNodes : MethodName := ⟨RX4, "allNodes", "()I"⟩
abbrev cX4_hasDeadRing : ByteArray := prog_6_method_15_code
def yX4_hasDeadRing : MethodName := ⟨RX4, "hasDeadRing", "()Z"⟩
abbrev cX4_hasRing : ByteArray := prog_6_method_16_code
def yX4_hasRing : MethodName := ⟨RX4, "hasRing", "()Z"⟩
abbrev cX4_nodesBehindRings : ByteArray := prog_6_method_17_code
def yX4_nodesBehindRings : MethodName := ⟨RX4, "nodesBehindRings", "(I)I"⟩
abbrev cX4_freedBy : ByteArray := prog_6_method_18_code
def yX4_freedBy : MethodName := ⟨RX4, "freedBy", "(II)I"⟩
def RX5 : String := "GateWalk$Ratio"
def TX5 : u_T := fun k => match k with
  | 0 => ("GateWalk$Ratio", "top", "I", false)
  | _ => ("GateWalk$Ratio", "bottom", "I", false)
def tyX5 : Nat → FieldType := fun k => match k with
  | 0 => .int
  | _ => .int
theorem nmX5 : ∀ a, a < 2 → ∀ b, b < 2 → a ≠ b → (TX5 a).2.1 ≠ (TX5 b).2.1 := by decide +kernel
theorem tyX5_ok : ∀ k, k < 2 → parseFieldDescriptor (TX5 k).2.2.1 = some (tyX5 k) := by decide +kernel
abbrev cX5_init : ByteArray := prog_7_method_1_code
def yX5_init : MethodName := ⟨RX5, "<init>", "()V"⟩
abbrev cX5_putBelowAll : ByteArray := prog_7_method_2_code
def yX5_putBelowAll : MethodName := ⟨RX5, "putBelowAll", "()V"⟩
abbrev cX5_put : ByteArray := prog_7_method_3_code
def yX5_put : MethodName := ⟨RX5, "put", "(II)V"⟩
abbrev cX5_putAs : ByteArray := prog_7_method_4_code
def yX5_putAs : MethodName := ⟨RX5, "putAs", "(LGateWalk$Ratio;)V"⟩
abbrev cX5_top : ByteArray := prog_7_method_5_code
def yX5_top : MethodName := ⟨RX5, "top", "()I"⟩
abbrev cX5_bottom : ByteArray := prog_7_method_6_code
def yX5_bottom : MethodName := ⟨RX5, "bottom", "()I"⟩
abbrev cX5_isLess : ByteArray := prog_7_method_7_code
def yX5_isLess : MethodName := ⟨RX5, "isLess", "(LGateWalk$Ratio;)Z"⟩
abbrev cX5_commonDivisor : ByteArray := prog_7_method_8_code
def yX5_commonDivisor : MethodName := ⟨RX5, "commonDivisor", "(II)I"⟩
def RX6 : String := "GateWalk$Reader"
def TX6 : u_T := fun k => match k with
  | 0 => ("GateWalk$Reader", "tape", "LGateWalk$Tape;", true)
  | _ => ("GateWalk$Reader", "at", "I", false)
def tyX6 : Nat → FieldType := fun k => match k with
  | 0 => .object "GateWalk$Tape"
  | _ => .int
theorem nmX6 : ∀ a, a < 2 → ∀ b, b < 2 → a ≠ b → (TX6 a).2.1 ≠ (TX6 b).2.1 := by decide +kernel
theorem tyX6_ok : ∀ k, k < 2 → parseFieldDescriptor (TX6 k).2.2.1 = some (tyX6 k) := by decide +kernel
abbrev cX6_init : ByteArray := prog_8_method_1_code
def yX6_init : MethodName := ⟨RX6, "<init>", "(LGateWalk$Tape;)V"⟩
abbrev cX6_read : ByteArray := prog_8_method_2_code
def yX6_read : MethodName := ⟨RX6, "read", "(LGateWalk$Equations;)I"⟩
abbrev cX6_readEquation : ByteArray := prog_8_method_3_code
def yX6_readEquation : MethodName := ⟨RX6, "readEquation", "(LGateWalk$Equations;)Z"⟩
abbrev cX6_readTerms : ByteArray := prog_8_method_4_code
def yX6_readTerms : MethodName := ⟨RX6, "readTerms", "(ILGateWalk$Equations;)Z"⟩
abbrev cX6_readTerm : ByteArray := prog_8_method_5_code
def yX6_readTerm : MethodName := ⟨RX6, "readTerm", "(ILGateWalk$Equations;)Z"⟩
abbrev cX6_signalHere : ByteArray := prog_8_method_6_code
def yX6_signalHere : MethodName := ⟨RX6, "signalHere", "()I"⟩
abbrev cX6_isOn : ByteArray := prog_8_method_7_code
def yX6_isOn : MethodName := ⟨RX6, "isOn", "(C)Z"⟩
abbrev cX6_isAtEnd : ByteArray := prog_8_method_8_code
def yX6_isAtEnd : MethodName := ⟨RX6, "isAtEnd", "()Z"⟩
abbrev cX6_step : ByteArray := prog_8_method_9_code
def yX6_step : MethodName := ⟨RX6, "step", "()V"⟩
def RX7 : String := "GateWalk$Tape"
def TX7 : u_T := fun k => match k with
  | 0 => ("GateWalk$Tape", "bytes", "[I", true)
  | _ => ("GateWalk$Tape", "size", "I", false)
def tyX7 : Nat → FieldType := fun k => match k with
  | 0 => .array .int
  | _ => .int
theorem nmX7 : ∀ a, a < 2 → ∀ b, b < 2 → a ≠ b → (TX7 a).2.1 ≠ (TX7 b).2.1 := by decide +kernel
theorem tyX7_ok : ∀ k, k < 2 → parseFieldDescriptor (TX7 k).2.2.1 = some (tyX7 k) := by decide +kernel
abbrev cX7_init : ByteArray := prog_9_method_1_code
def yX7_init : MethodName := ⟨RX7, "<init>", "()V"⟩
abbrev cX7_bytesIn : ByteArray := prog_9_method_2_code
def yX7_bytesIn : MethodName := ⟨RX7, "bytesIn", "(I)I"⟩
abbrev cX7_append : ByteArray := prog_9_method_3_code
def yX7_append : MethodName := ⟨RX7, "append", "(I)V"⟩
abbrev cX7_cut : ByteArray := prog_9_method_4_code
def yX7_cut : MethodName := ⟨RX7, "cut", "(I)V"⟩
abbrev cX7_size : ByteArray := prog_9_method_5_code
def yX7_size : MethodName := ⟨RX7, "size", "()I"⟩
abbrev cX7_byteAt : ByteArray := prog_9_method_6_code
def yX7_byteAt : MethodName := ⟨RX7, "byteAt", "(I)I"⟩
abbrev cX7_pastBlanks : ByteArray := prog_9_method_7_code
def yX7_pastBlanks : MethodName := ⟨RX7, "pastBlanks", "(I)I"⟩
def RX8 : String := "GateWalk$Timetable"
def TX8 : u_T := fun k => match k with
  | 0 => ("GateWalk$Timetable", "net", "LGateWalk$Net;", true)
  | 1 => ("GateWalk$Timetable", "begins", "[[I", true)
  | 2 => ("GateWalk$Timetable", "arcOrder", "[I", true)
  | 3 => ("GateWalk$Timetable", "ordered", "I", false)
  | 4 => ("GateWalk$Timetable", "freeNodes", "I", false)
  | _ => ("GateWalk$Timetable", "filled", "I", false)
def tyX8 : Nat → FieldType := fun k => match k with
  | 0 => .object "GateWalk$Net"
  | 1 => .array (.array .int)
  | 2 => .array .int
  | 3 => .int
  | 4 => .int
  | _ => .int
theorem nmX8 : ∀ a, a < 6 → ∀ b, b < 6 → a ≠ b → (TX8 a).2.1 ≠ (TX8 b).2.1 := by decide +kernel
theorem tyX8_ok : ∀ k, k < 6 → parseFieldDescriptor (TX8 k).2.2.1 = some (tyX8 k) := by decide +kernel
abbrev cX8_init : ByteArray := prog_10_method_1_code
def yX8_init : MethodName := ⟨RX8, "<init>", "(LGateWalk$Net;)V"⟩
abbrev cX8_forget : ByteArray := prog_10_method_2_code
def yX8_forget : MethodName := ⟨RX8, "forget", "()V"⟩
abbrev cX8_fillTo : ByteArray := prog_10_method_3_code
def yX8_fillTo : MethodName := ⟨RX8, "fillTo", "(I)V"⟩
abbrev cX8_doneAt : ByteArray := prog_10_method_4_code
def yX8_doneAt : MethodName := ⟨RX8, "doneAt", "(II)I"⟩
abbrev cX8_orderArcs : ByteArray := prog_10_method_5_code
def yX8_orderArcs : MethodName := ⟨RX8, "orderArcs", "()V"⟩
abbrev cX8_appendArcsTo : ByteArray := prog_10_method_6_code
def yX8_appendArcsTo : MethodName := ⟨RX8, "appendArcsTo", "(I)V"⟩
abbrev cX8_fill : ByteArray := prog_10_method_7_code
def yX8_fill : MethodName := ⟨RX8, "fill", "(I)V"⟩
abbrev cX8_later : ByteArray := prog_10_method_8_code
def yX8_later : MethodName := ⟨RX8, "later", "(II)I"⟩
def RX9 : String := "GateWalk$Turns"
def TX9 : u_T := fun k => match k with
  | 0 => ("GateWalk$Turns", "net", "LGateWalk$Net;", true)
  | 1 => ("GateWalk$Turns", "turn", "LGateWalk$Ratio;", true)
  | 2 => ("GateWalk$Turns", "trial", "LGateWalk$Ratio;", true)
  | 3 => ("GateWalk$Turns", "least", "LGateWalk$Ratio;", true)
  | 4 => ("GateWalk$Turns", "lengths", "[I", true)
  | 5 => ("GateWalk$Turns", "cameOver", "[I", true)
  | 6 => ("GateWalk$Turns", "made", "Z", false)
  | 7 => ("GateWalk$Turns", "there", "Z", false)
  | 8 => ("GateWalk$Turns", "helperMade", "Z", false)
  | 9 => ("GateWalk$Turns", "helper", "I", false)
  | _ => ("GateWalk$Turns", "richer", "I", false)
def tyX9 : Nat → FieldType := fun k => match k with
  | 0 => .object "GateWalk$Net"
  | 1 => .object "GateWalk$Ratio"
  | 2 => .object "GateWalk$Ratio"
  | 3 => .object "GateWalk$Ratio"
  | 4 => .array .int
  | 5 => .array .int
  | 6 => .boolean
  | 7 => .boolean
  | 8 => .boolean
  | 9 => .int
  | _ => .int
theorem nmX9 : ∀ a, a < 11 → ∀ b, b < 11 → a ≠ b → (TX9 a).2.1 ≠ (TX9 b).2.1 := by decide +kernel
theorem tyX9_ok : ∀ k, k < 11 → parseFieldDescriptor (TX9 k).2.2.1 = some (tyX9 k) := by decide +kernel
abbrev cX9_init : ByteArray := prog_11_method_1_code
def yX9_init : MethodName := ⟨RX9, "<init>", "(LGateWalk$Net;)V"⟩
abbrev cX9_forget : ByteArray := prog_11_method_2_code
def yX9_forget : MethodName := ⟨RX9, "forget", "()V"⟩
abbrev cX9_renew : ByteArray := prog_11_method_3_code
def yX9_renew : MethodName := ⟨RX9, "renew", "()V"⟩
abbrev cX9_numerator : ByteArray := prog_11_method_4_code
def yX9_numerator : MethodName := ⟨RX9, "numerator", "()I"⟩
abbrev cX9_denominator : ByteArray := prog_11_method_5_code
def yX9_denominator : MethodName := ⟨RX9, "denominator", "()I"⟩
abbrev cX9_helper : ByteArray := prog_11_method_6_code
def yX9_helper : MethodName := ⟨RX9, "helper", "()I"⟩
abbrev cX9_findGreatest : ByteArray := prog_11_method_7_code
def yX9_findGreatest : MethodName := ⟨RX9, "findGreatest", "(LGateWalk$Ratio;)V"⟩
abbrev cX9_nodeBehindGreaterRing : ByteArray := prog_11_method_8_code
def yX9_nodeBehindGreaterRing : MethodName := ⟨RX9, "nodeBehindGreaterRing", "(LGateWalk$Ratio;)I"⟩
abbrev cX9_growPaths : ByteArray := prog_11_method_9_code
def yX9_growPaths : MethodName := ⟨RX9, "growPaths", "(LGateWalk$Ratio;)I"⟩
abbrev cX9_tokensOn : ByteArray := prog_11_method_10_code
def yX9_tokensOn : MethodName := ⟨RX9, "tokensOn", "(I)I"⟩
abbrev cX9_nodeOnRing : ByteArray := prog_11_method_11_code
def yX9_nodeOnRing : MethodName := ⟨RX9, "nodeOnRing", "(I)I"⟩
abbrev cX9_putRing : ByteArray := prog_11_method_12_code
def yX9_putRing : MethodName := ⟨RX9, "putRing", "(ILGateWalk$Ratio;)V"⟩
def RX10 : String := "GateWalk$Walk"
def TX10 : u_T := fun k => match k with
  | 0 => ("GateWalk$Walk", "gates", "LGateWalk$Circuit;", true)
  | 1 => ("GateWalk$Walk", "order", "[I", true)
  | 2 => ("GateWalk$Walk", "places", "[I", true)
  | 3 => ("GateWalk$Walk", "cameBy", "[I", true)
  | 4 => ("GateWalk$Walk", "stopStates", "[I", true)
  | 5 => ("GateWalk$Walk", "size", "I", false)
  | 6 => ("GateWalk$Walk", "stops", "I", false)
  | _ => ("GateWalk$Walk", "made", "Z", false)
def tyX10 : Nat → FieldType := fun k => match k with
  | 0 => .object "GateWalk$Circuit"
  | 1 => .array .int
  | 2 => .array .int
  | 3 => .array .int
  | 4 => .array .int
  | 5 => .int
  | 6 => .int
  | _ => .boolean
theorem nmX10 : ∀ a, a < 8 → ∀ b, b < 8 → a ≠ b → (TX10 a).2.1 ≠ (TX10 b).2.1 := by decide +kernel
theorem tyX10_ok : ∀ k, k < 8 → parseFieldDescriptor (TX10 k).2.2.1 = some (tyX10 k) := by decide +kernel
abbrev cX10_init : ByteArray := prog_12_method_1_code
def yX10_init : MethodName := ⟨RX10, "<init>", "(LGateWalk$Circuit;)V"⟩
abbrev cX10_forget : ByteArray := prog_12_method_2_code
def yX10_forget : MethodName := ⟨RX10, "forget", "()V"⟩
abbrev cX10_renew : ByteArray := prog_12_method_3_code
def yX10_renew : MethodName := ⟨RX10, "renew", "()V"⟩
abbrev cX10_goOnFrom : ByteArray := prog_12_method_4_code
def yX10_goOnFrom : MethodName := ⟨RX10, "goOnFrom", "(I)V"⟩
abbrev cX10_enter : ByteArray := prog_12_method_5_code
def yX10_enter : MethodName := ⟨RX10, "enter", "(II)V"⟩
abbrev cX10_size : ByteArray := prog_12_method_6_code
def yX10_size : MethodName := ⟨RX10, "size", "()I"⟩
abbrev cX10_stops : ByteArray := prog_12_method_7_code
def yX10_stops : MethodName := ⟨RX10, "stops", "()I"⟩
abbrev cX10_stateAt : ByteArray := prog_12_method_8_code
def yX10_stateAt : MethodName := ⟨RX10, "stateAt", "(I)I"⟩
abbrev cX10_stopAt : ByteArray := prog_12_method_9_code
def yX10_stopAt : MethodName := ⟨RX10, "stopAt", "(I)I"⟩
abbrev cX10_placeOf : ByteArray := prog_12_method_10_code
def yX10_placeOf : MethodName := ⟨RX10, "placeOf", "(I)I"⟩
abbrev cX10_wayLength : ByteArray := prog_12_method_11_code
def yX10_wayLength : MethodName := ⟨RX10, "wayLength", "(I)I"⟩
abbrev cX10_wayStep : ByteArray := prog_12_method_12_code
def yX10_wayStep : MethodName := ⟨RX10, "wayStep", "(II)I"⟩
abbrev cX10_firstWithAll : ByteArray := prog_12_method_13_code
def yX10_firstWithAll : MethodName := ⟨RX10, "firstWithAll", "(I)I"⟩
def RX11 : String := "GateWalk"
def TX11 : u_T := fun k => match k with
  | 0 => ("GateWalk", "tape", "LGateWalk$Tape;", true)
  | 1 => ("GateWalk", "reader", "LGateWalk$Reader;", true)
  | 2 => ("GateWalk", "gates", "LGateWalk$Circuit;", true)
  | 3 => ("GateWalk", "walk", "LGateWalk$Walk;", true)
  | 4 => ("GateWalk", "hazards", "LGateWalk$Hazards;", true)
  | 5 => ("GateWalk", "liveness", "LGateWalk$Liveness;", true)
  | 6 => ("GateWalk", "lotChanges", "[I", true)
  | 7 => ("GateWalk", "net", "LGateWalk$Net;", true)
  | 8 => ("GateWalk", "turns", "LGateWalk$Turns;", true)
  | 9 => ("GateWalk", "timetable", "LGateWalk$Timetable;", true)
  | _ => ("GateWalk", "draft", "LGateWalk$Equations;", false)
def tyX11 : Nat → FieldType := fun k => match k with
  | 0 => .object "GateWalk$Tape"
  | 1 => .object "GateWalk$Reader"
  | 2 => .object "GateWalk$Circuit"
  | 3 => .object "GateWalk$Walk"
  | 4 => .object "GateWalk$Hazards"
  | 5 => .object "GateWalk$Liveness"
  | 6 => .array .int
  | 7 => .object "GateWalk$Net"
  | 8 => .object "GateWalk$Turns"
  | 9 => .object "GateWalk$Timetable"
  | _ => .object "GateWalk$Equations"
theorem nmX11 : ∀ a, a < 11 → ∀ b, b < 11 → a ≠ b → (TX11 a).2.1 ≠ (TX11 b).2.1 := by decide +kernel
theorem tyX11_ok : ∀ k, k < 11 → parseFieldDescriptor (TX11 k).2.2.1 = some (tyX11 k) := by decide +kernel
abbrev cX11_init : ByteArray := prog_1_method_1_code
def yX11_init : MethodName := ⟨RX11, "<init>", "()V"⟩
abbrev cX11_feed : ByteArray := prog_1_method_2_code
def yX11_feed : MethodName := ⟨RX11, "feed", "(IIIII)I"⟩
abbrev cX11_end : ByteArray := prog_1_method_3_code
def yX11_end : MethodName := ⟨RX11, "end", "(I)Z"⟩
abbrev cX11_fault : ByteArray := prog_1_method_4_code
def yX11_fault : MethodName := ⟨RX11, "fault", "()I"⟩
abbrev cX11_circuit : ByteArray := prog_1_method_5_code
def yX11_circuit : MethodName := ⟨RX11, "circuit", "(I)Z"⟩
abbrev cX11_arbiter : ByteArray := prog_1_method_6_code
def yX11_arbiter : MethodName := ⟨RX11, "arbiter", "(IIZ)Z"⟩
abbrev cX11_stuck : ByteArray := prog_1_method_7_code
def yX11_stuck : MethodName := ⟨RX11, "stuck", "(IZ)Z"⟩
abbrev cX11_asked : ByteArray := prog_1_method_8_code
def yX11_asked : MethodName := ⟨RX11, "asked", "(I)I"⟩
abbrev cX11_states : ByteArray := prog_1_method_9_code
def yX11_states : MethodName := ⟨RX11, "states", "()I"⟩
abbrev cX11_state : ByteArray := prog_1_method_10_code
def yX11_state : MethodName := ⟨RX11, "state", "(I)I"⟩
abbrev cX11_place : ByteArray := prog_1_method_11_code
def yX11_place : MethodName := ⟨RX11, "place", "(I)I"⟩
abbrev cX11_hazard : ByteArray := prog_1_method_12_code
def yX11_hazard : MethodName := ⟨RX11, "hazard", "(II)I"⟩
abbrev cX11_stop : ByteArray := prog_1_method_13_code
def yX11_stop : MethodName := ⟨RX11, "stop", "(I)I"⟩
abbrev cX11_way : ByteArray := prog_1_method_14_code
def yX11_way : MethodName := ⟨RX11, "way", "(I)I"⟩
abbrev cX11_change : ByteArray := prog_1_method_15_code
def yX11_change : MethodName := ⟨RX11, "change", "(II)I"⟩
abbrev cX11_live : ByteArray := prog_1_method_16_code
def yX11_live : MethodName := ⟨RX11, "live", "(I)I"⟩
abbrev cX11_both : ByteArray := prog_1_method_17_code
def yX11_both : MethodName := ⟨RX11, "both", "(I)I"⟩
abbrev cX11_run : ByteArray := prog_1_method_18_code
def yX11_run : MethodName := ⟨RX11, "run", "(IJ)I"⟩
abbrev cX11_changed : ByteArray := prog_1_method_19_code
def yX11_changed : MethodName := ⟨RX11, "changed", "(IJI)I"⟩
abbrev cX11_node : ByteArray := prog_1_method_20_code
def yX11_node : MethodName := ⟨RX11, "node", "(I)I"⟩
abbrev cX11_arc : ByteArray := prog_1_method_21_code
def yX11_arc : MethodName := ⟨RX11, "arc", "(III)I"⟩
abbrev cX11_tokens : ByteArray := prog_1_method_22_code
def yX11_tokens : MethodName := ⟨RX11, "tokens", "(II)Z"⟩
abbrev cX11_clear : ByteArray := prog_1_method_23_code
def yX11_clear : MethodName := ⟨RX11, "clear", "()V"⟩
abbrev cX11_dead : ByteArray := prog_1_method_24_code
def yX11_dead : MethodName := ⟨RX11, "dead", "()I"⟩
abbrev cX11_turn : ByteArray := prog_1_method_25_code
def yX11_turn : MethodName := ⟨RX11, "turn", "(I)J"⟩
abbrev cX11_time : ByteArray := prog_1_method_26_code
def yX11_time : MethodName := ⟨RX11, "time", "(II)I"⟩
abbrev cX11_helps : ByteArray := prog_1_method_27_code
def yX11_helps : MethodName := ⟨RX11, "helps", "()I"⟩
abbrev cX11_count : ByteArray := prog_1_method_28_code
def yX11_count : MethodName := ⟨RX11, "count", "(I)I"⟩
abbrev cX11_forgetWalk : ByteArray := prog_1_method_29_code
def yX11_forgetWalk : MethodName := ⟨RX11, "forgetWalk", "()V"⟩
abbrev cX11_forgetRings : ByteArray := prog_1_method_30_code
def yX11_forgetRings : MethodName := ⟨RX11, "forgetRings", "()V"⟩
abbrev cX11_isSignal : ByteArray := prog_1_method_31_code
def yX11_isSignal : MethodName := ⟨RX11, "isSignal", "(I)Z"⟩
abbrev cX11_isState : ByteArray := prog_1_method_32_code
def yX11_isState : MethodName := ⟨RX11, "isState", "(I)Z"⟩
abbrev cX11_isRunLength : ByteArray := prog_1_method_33_code
def yX11_isRunLength : MethodName := ⟨RX11, "isRunLength", "(I)Z"⟩
abbrev cX11_isIn : ByteArray := prog_1_method_34_code
def yX11_isIn : MethodName := ⟨RX11, "isIn", "(II)Z"⟩
def RX12 : String := "GateWalkModel"
def TX12 : u_T := fun k => match k with
  | 0 => ("GateWalkModel", "thrown", "I", false)
  | 1 => ("GateWalkModel", "tape", "[B", true)
  | 2 => ("GateWalkModel", "length", "I", false)
  | 3 => ("GateWalkModel", "terms", "[I", true)
  | 4 => ("GateWalkModel", "one", "[I", true)
  | 5 => ("GateWalkModel", "zero", "[I", true)
  | 6 => ("GateWalkModel", "newTerms", "[I", true)
  | 7 => ("GateWalkModel", "newOne", "[I", true)
  | 8 => ("GateWalkModel", "newZero", "[I", true)
  | 9 => ("GateWalkModel", "reset", "I", false)
  | 10 => ("GateWalkModel", "isStuck", "[Z", true)
  | 11 => ("GateWalkModel", "isArbiter", "[Z", true)
  | 12 => ("GateWalkModel", "at", "I", false)
  | 13 => ("GateWalkModel", "walk", "[I", true)
  | 14 => ("GateWalkModel", "place", "[I", true)
  | 15 => ("GateWalkModel", "from", "[I", true)
  | 16 => ("GateWalkModel", "by", "[I", true)
  | 17 => ("GateWalkModel", "many", "I", false)
  | 18 => ("GateWalkModel", "leads", "[Z", true)
  | 19 => ("GateWalkModel", "changes", "[I", true)
  | 20 => ("GateWalkModel", "delay", "[I", true)
  | 21 => ("GateWalkModel", "arcFrom", "[I", true)
  | 22 => ("GateWalkModel", "arcTo", "[I", true)
  | 23 => ("GateWalkModel", "tokens", "[I", true)
  | 24 => ("GateWalkModel", "nodes", "I", false)
  | 25 => ("GateWalkModel", "arcs", "I", false)
  | 26 => ("GateWalkModel", "isDead", "Z", false)
  | 27 => ("GateWalkModel", "rings", "I", false)
  | 28 => ("GateWalkModel", "top", "J", false)
  | 29 => ("GateWalkModel", "below", "J", false)
  | 30 => ("GateWalkModel", "time", "[I", true)
  | _ => ("GateWalkModel", "toldAt", "[I", true)
def tyX12 : Nat → FieldType := fun k => match k with
  | 0 => .int
  | 1 => .array .byte
  | 2 => .int
  | 3 => .array .int
  | 4 => .array .int
  | 5 => .array .int
  | 6 => .array .int
  | 7 => .array .int
  | 8 => .array .int
  | 9 => .int
  | 10 => .array .boolean
  | 11 => .array .boolean
  | 12 => .int
  | 13 => .array .int
  | 14 => .array .int
  | 15 => .array .int
  | 16 => .array .int
  | 17 => .int
  | 18 => .array .boolean
  | 19 => .array .int
  | 20 => .array .int
  | 21 => .array .int
  | 22 => .array .int
  | 23 => .array .int
  | 24 => .int
  | 25 => .int
  | 26 => .boolean
  | 27 => .int
  | 28 => .long
  | 29 => .long
  | 30 => .array .int
  | _ => .array .int
theorem nmX12 : ∀ a, a < 32 → ∀ b, b < 32 → a ≠ b → (TX12 a).2.1 ≠ (TX12 b).2.1 := by decide +kernel
theorem tyX12_ok : ∀ k, k < 32 → parseFieldDescriptor (TX12 k).2.2.1 = some (tyX12 k) := by decide +kernel
abbrev cX12_init : ByteArray := prog_14_method_1_code
def yX12_init : MethodName := ⟨RX12, "<init>", "()V"⟩
abbrev cX12_thrown : ByteArray := prog_14_method_2_code
def yX12_thrown : MethodName := ⟨RX12, "thrown", "()I"⟩
abbrev cX12_isIn : ByteArray := prog_14_method_3_code
def yX12_isIn : MethodName := ⟨RX12, "isIn", "(III)Z"⟩
abbrev cX12_isSignal : ByteArray := prog_14_method_4_code
def yX12_isSignal : MethodName := ⟨RX12, "isSignal", "(I)Z"⟩
abbrev cX12_isState : ByteArray := prog_14_method_5_code
def yX12_isState : MethodName := ⟨RX12, "isState", "(I)Z"⟩
abbrev cX12_bytesIn : ByteArray := prog_14_method_6_code
def yX12_bytesIn : MethodName := ⟨RX12, "bytesIn", "(I)I"⟩
abbrev cX12_put : ByteArray := prog_14_method_7_code
def yX12_put : MethodName := ⟨RX12, "put", "(I)V"⟩
abbrev cX12_feed : ByteArray := prog_14_method_8_code
def yX12_feed : MethodName := ⟨RX12, "feed", "(IIIII)I"⟩
abbrev cX12_end : ByteArray := prog_14_method_9_code
def yX12_end : MethodName := ⟨RX12, "end", "(I)Z"⟩
abbrev cX12_look : ByteArray := prog_14_method_10_code
def yX12_look : MethodName := ⟨RX12, "look", "()I"⟩
abbrev cX12_isLetter : ByteArray := prog_14_method_11_code
def yX12_isLetter : MethodName := ⟨RX12, "isLetter", "(I)Z"⟩
abbrev cX12_read : ByteArray := prog_14_method_12_code
def yX12_read : MethodName := ⟨RX12, "read", "()I"⟩
abbrev cX12_equation : ByteArray := prog_14_method_13_code
def yX12_equation : MethodName := ⟨RX12, "equation", "()Z"⟩
abbrev cX12_term : ByteArray := prog_14_method_14_code
def yX12_term : MethodName := ⟨RX12, "term", "(I)Z"⟩
abbrev cX12_fault : ByteArray := prog_14_method_15_code
def yX12_fault : MethodName := ⟨RX12, "fault", "()I"⟩
abbrev cX12_circuit : ByteArray := prog_14_method_16_code
def yX12_circuit : MethodName := ⟨RX12, "circuit", "(I)Z"⟩
abbrev cX12_arbiter : ByteArray := prog_14_method_17_code
def yX12_arbiter : MethodName := ⟨RX12, "arbiter", "(IIZ)Z"⟩
abbrev cX12_stuck : ByteArray := prog_14_method_18_code
def yX12_stuck : MethodName := ⟨RX12, "stuck", "(IZ)Z"⟩
abbrev cX12_askedIn : ByteArray := prog_14_method_19_code
def yX12_askedIn : MethodName := ⟨RX12, "askedIn", "(I)I"⟩
abbrev cX12_asked : ByteArray := prog_14_method_20_code
def yX12_asked : MethodName := ⟨RX12, "asked", "(I)I"⟩
abbrev cX12_walks : ByteArray := prog_14_method_21_code
def yX12_walks : MethodName := ⟨RX12, "walks", "()V"⟩
abbrev cX12_states : ByteArray := prog_14_method_22_code
def yX12_states : MethodName := ⟨RX12, "states", "()I"⟩
abbrev cX12_state : ByteArray := prog_14_method_23_code
def yX12_state : MethodName := ⟨RX12, "state", "(I)I"⟩
abbrev cX12_place : ByteArray := prog_14_method_24_code
def yX12_place : MethodName := ⟨RX12, "place", "(I)I"⟩
abbrev cX12_hazardOf : ByteArray := prog_14_method_25_code
def yX12_hazardOf : MethodName := ⟨RX12, "hazardOf", "(II)I"⟩
abbrev cX12_hazard : ByteArray := prog_14_method_26_code
def yX12_hazard : MethodName := ⟨RX12, "hazard", "(II)I"⟩
abbrev cX12_stopOf : ByteArray := prog_14_method_27_code
def yX12_stopOf : MethodName := ⟨RX12, "stopOf", "(I)I"⟩
abbrev cX12_stop : ByteArray := prog_14_method_28_code
def yX12_stop : MethodName := ⟨RX12, "stop", "(I)I"⟩
abbrev cX12_wayLong : ByteArray := prog_14_method_29_code
def yX12_wayLong : MethodName := ⟨RX12, "wayLong", "(I)I"⟩
abbrev cX12_way : ByteArray := prog_14_method_30_code
def yX12_way : MethodName := ⟨RX12, "way", "(I)I"⟩
abbrev cX12_change : ByteArray := prog_14_method_31_code
def yX12_change : MethodName := ⟨RX12, "change", "(II)I"⟩
abbrev cX12_live : ByteArray := prog_14_method_32_code
def yX12_live : MethodName := ⟨RX12, "live", "(I)I"⟩
abbrev cX12_both : ByteArray := prog_14_method_33_code
def yX12_both : MethodName := ⟨RX12, "both", "(I)I"⟩
abbrev cX12_runs : ByteArray := prog_14_method_34_code
def yX12_runs : MethodName := ⟨RX12, "runs", "(IJ)I"⟩
abbrev cX12_run : ByteArray := prog_14_method_35_code
def yX12_run : MethodName := ⟨RX12, "run", "(IJ)I"⟩
abbrev cX12_changed : ByteArray := prog_14_method_36_code
def yX12_changed : MethodName := ⟨RX12, "changed", "(IJI)I"⟩
abbrev cX12_node : ByteArray := prog_14_method_37_code
def yX12_node : MethodName := ⟨RX12, "node", "(I)I"⟩
abbrev cX12_arc : ByteArray := prog_14_method_38_code
def yX12_arc : MethodName := ⟨RX12, "arc", "(III)I"⟩
abbrev cX12_tokens : ByteArray := prog_14_method_39_code
def yX12_tokens : MethodName := ⟨RX12, "tokens", "(II)Z"⟩
abbrev cX12_clear : ByteArray := prog_14_method_40_code
def yX12_clear : MethodName := ⟨RX12, "clear", "()V"⟩
abbrev cX12_round : ByteArray := prog_14_method_41_code
def yX12_round : MethodName := ⟨RX12, "round", "(IIIII)V"⟩
abbrev cX12_ring : ByteArray := prog_14_method_42_code
def yX12_ring : MethodName := ⟨RX12, "ring", "(II)V"⟩
abbrev cX12_goRound : ByteArray := prog_14_method_43_code
def yX12_goRound : MethodName := ⟨RX12, "goRound", "()V"⟩
abbrev cX12_dead : ByteArray := prog_14_method_44_code
def yX12_dead : MethodName := ⟨RX12, "dead", "()I"⟩
abbrev cX12_turn : ByteArray := prog_14_method_45_code
def yX12_turn : MethodName := ⟨RX12, "turn", "(I)J"⟩
abbrev cX12_times : ByteArray := prog_14_method_46_code
def yX12_times : MethodName := ⟨RX12, "times", "(I)V"⟩
abbrev cX12_time : ByteArray := prog_14_method_47_code
def yX12_time : MethodName := ⟨RX12, "time", "(II)I"⟩
abbrev cX12_helps : ByteArray := prog_14_method_48_code
def yX12_helps : MethodName := ⟨RX12, "helps", "()I"⟩
abbrev cX12_count : ByteArray := prog_14_method_49_code
def yX12_count : MethodName := ⟨RX12, "count", "(I)I"⟩
def RJ6 : String := "java/lang/Integer"
def TJ6 : u_T := fun k => match k with
  | _ => ("", "", "", false)
def tyJ6 : Nat → FieldType := fun k => match k with
  | _ => .int
abbrev cJ6_bitCount_0f7a4 : ByteArray := prog_16_method_49_code
def yJ6_bitCount_0f7a4 : MethodName := ⟨RJ6, "bitCount", "(I)I"⟩
def RJ9 : String := "java/lang/Math"
def TJ9 : u_T := fun k => match k with
  | _ => ("", "", "", false)
def tyJ9 : Nat → FieldType := fun k => match k with
  | _ => .int
abbrev cJ9_max_7cf53 : ByteArray := prog_17_method_65_code
def yJ9_max_7cf53 : MethodName := ⟨RJ9, "max", "(II)I"⟩
def RJ0 : String := "java/lang/String"
def TJ0 : u_T := fun k => match k with
  | _ => ("", "", "", false)
def tyJ0 : Nat → FieldType := fun k => match k with
  | _ => .int
def RJ7 : String := "java/util/Arrays"
def TJ7 : u_T := fun k => match k with
  | _ => ("", "", "", false)
def tyJ7 : Nat → FieldType := fun k => match k with
  | _ => .int
abbrev cJ7_fill_53178 : ByteArray := prog_21_method_103_code
def yJ7_fill_53178 : MethodName := ⟨RJ7, "fill", "([II)V"⟩
def RL : String := "GateWalkLaw"
abbrev cL_time : ByteArray := method_3_code
def yL_time : MethodName := ⟨RL, "time", "(LGateWalk;II[J)I"⟩
abbrev cL_law : ByteArray := code
def yL_law : MethodName := ⟨RL, "law", "([I)Z"⟩
