section
-- ===== PART A: goes FIRST, ahead of the names: the tables' words, and 'selects' of the private methods out of them =====
/-- a private method of a class that the tables say can be made, by its rows of tables_1 -/
def lw_okq (q : MethodName × Nat) : Prop := (q.1.cls ≠ "java/lang/invoke/MethodHandle" ∧ q.1.cls ≠ "java/lang/invoke/VarHandle") ∧ Cond.instantiable q.1.cls q.2 ∈ tables_1 ∧ Cond.privateMethod q.1 ∈ tables_1 ∧ Cond.instanceMethod q.1 ∈ tables_1
theorem lw_p0 : lw_okq (⟨"GateWalk$Reader", "isAtEnd", "()Z"⟩, 2) := ⟨⟨by decide +kernel, by decide +kernel⟩, List.mem_of_getElem? (i := 44) (by decide +kernel), List.mem_of_getElem? (i := 366) (by decide +kernel), List.mem_of_getElem? (i := 367) (by decide +kernel)⟩
theorem lw_p1 : lw_okq (⟨"GateWalk$Reader", "readEquation", "(LGateWalk$Equations;)Z"⟩, 2) := ⟨⟨by decide +kernel, by decide +kernel⟩, List.mem_of_getElem? (i := 44) (by decide +kernel), List.mem_of_getElem? (i := 371) (by decide +kernel), List.mem_of_getElem? (i := 372) (by decide +kernel)⟩
theorem lw_p2 : lw_okq (⟨"GateWalk$Reader", "signalHere", "()I"⟩, 2) := ⟨⟨by decide +kernel, by decide +kernel⟩, List.mem_of_getElem? (i := 44) (by decide +kernel), List.mem_of_getElem? (i := 375) (by decide +kernel), List.mem_of_getElem? (i := 376) (by decide +kernel)⟩
theorem lw_p3 : lw_okq (⟨"GateWalk$Reader", "step", "()V"⟩, 2) := ⟨⟨by decide +kernel, by decide +kernel⟩, List.mem_of_getElem? (i := 44) (by decide +kernel), List.mem_of_getElem? (i := 390) (by decide +kernel), List.mem_of_getElem? (i := 391) (by decide +kernel)⟩
theorem lw_p4 : lw_okq (⟨"GateWalk$Reader", "isOn", "(C)Z"⟩, 2) := ⟨⟨by decide +kernel, by decide +kernel⟩, List.mem_of_getElem? (i := 44) (by decide +kernel), List.mem_of_getElem? (i := 394) (by decide +kernel), List.mem_of_getElem? (i := 395) (by decide +kernel)⟩
theorem lw_p5 : lw_okq (⟨"GateWalk$Reader", "readTerms", "(ILGateWalk$Equations;)Z"⟩, 2) := ⟨⟨by decide +kernel, by decide +kernel⟩, List.mem_of_getElem? (i := 44) (by decide +kernel), List.mem_of_getElem? (i := 410) (by decide +kernel), List.mem_of_getElem? (i := 411) (by decide +kernel)⟩
theorem lw_p6 : lw_okq (⟨"GateWalk$Reader", "readTerm", "(ILGateWalk$Equations;)Z"⟩, 2) := ⟨⟨by decide +kernel, by decide +kernel⟩, List.mem_of_getElem? (i := 44) (by decide +kernel), List.mem_of_getElem? (i := 414) (by decide +kernel), List.mem_of_getElem? (i := 415) (by decide +kernel)⟩
theorem lw_p7 : lw_okq (⟨"GateWalk", "forgetWalk", "()V"⟩, 11) := ⟨⟨by decide +kernel, by decide +kernel⟩, List.mem_of_getElem? (i := 22) (by decide +kernel), List.mem_of_getElem? (i := 430) (by decide +kernel), List.mem_of_getElem? (i := 431) (by decide +kernel)⟩
theorem lw_p8 : lw_okq (⟨"GateWalk$Walk", "enter", "(II)V"⟩, 8) := ⟨⟨by decide +kernel, by decide +kernel⟩, List.mem_of_getElem? (i := 104) (by decide +kernel), List.mem_of_getElem? (i := 503) (by decide +kernel), List.mem_of_getElem? (i := 504) (by decide +kernel)⟩
theorem lw_p9 : lw_okq (⟨"GateWalk$Walk", "goOnFrom", "(I)V"⟩, 8) := ⟨⟨by decide +kernel, by decide +kernel⟩, List.mem_of_getElem? (i := 104) (by decide +kernel), List.mem_of_getElem? (i := 507) (by decide +kernel), List.mem_of_getElem? (i := 508) (by decide +kernel)⟩
theorem lw_p10 : lw_okq (⟨"GateWalk$Hazards", "hazardsIn", "(I)I"⟩, 5) := ⟨⟨by decide +kernel, by decide +kernel⟩, List.mem_of_getElem? (i := 135) (by decide +kernel), List.mem_of_getElem? (i := 544) (by decide +kernel), List.mem_of_getElem? (i := 545) (by decide +kernel)⟩
theorem lw_p11 : lw_okq (⟨"GateWalk$Hazards", "placeWith", "(I)I"⟩, 5) := ⟨⟨by decide +kernel, by decide +kernel⟩, List.mem_of_getElem? (i := 135) (by decide +kernel), List.mem_of_getElem? (i := 565) (by decide +kernel), List.mem_of_getElem? (i := 566) (by decide +kernel)⟩
theorem lw_p12 : lw_okq (⟨"GateWalk$Hazards", "signalOf", "(III)I"⟩, 5) := ⟨⟨by decide +kernel, by decide +kernel⟩, List.mem_of_getElem? (i := 135) (by decide +kernel), List.mem_of_getElem? (i := 569) (by decide +kernel), List.mem_of_getElem? (i := 570) (by decide +kernel)⟩
theorem lw_p13 : lw_okq (⟨"GateWalk$Liveness", "leadsThereFromAll", "(I)Z"⟩, 7) := ⟨⟨by decide +kernel, by decide +kernel⟩, List.mem_of_getElem? (i := 157) (by decide +kernel), List.mem_of_getElem? (i := 608) (by decide +kernel), List.mem_of_getElem? (i := 609) (by decide +kernel)⟩
theorem lw_p14 : lw_okq (⟨"GateWalk$Liveness", "find", "(I)V"⟩, 7) := ⟨⟨by decide +kernel, by decide +kernel⟩, List.mem_of_getElem? (i := 157) (by decide +kernel), List.mem_of_getElem? (i := 615) (by decide +kernel), List.mem_of_getElem? (i := 616) (by decide +kernel)⟩
theorem lw_p15 : lw_okq (⟨"GateWalk$Liveness", "goBackFrom", "(I)V"⟩, 7) := ⟨⟨by decide +kernel, by decide +kernel⟩, List.mem_of_getElem? (i := 157) (by decide +kernel), List.mem_of_getElem? (i := 619) (by decide +kernel), List.mem_of_getElem? (i := 620) (by decide +kernel)⟩
def lw_privs_1 : List (MethodName × Nat) := [(⟨"GateWalk$Reader", "isAtEnd", "()Z"⟩, 2), (⟨"GateWalk$Reader", "readEquation", "(LGateWalk$Equations;)Z"⟩, 2), (⟨"GateWalk$Reader", "signalHere", "()I"⟩, 2), (⟨"GateWalk$Reader", "step", "()V"⟩, 2), (⟨"GateWalk$Reader", "isOn", "(C)Z"⟩, 2), (⟨"GateWalk$Reader", "readTerms", "(ILGateWalk$Equations;)Z"⟩, 2), (⟨"GateWalk$Reader", "readTerm", "(ILGateWalk$Equations;)Z"⟩, 2), (⟨"GateWalk", "forgetWalk", "()V"⟩, 11), (⟨"GateWalk$Walk", "enter", "(II)V"⟩, 8), (⟨"GateWalk$Walk", "goOnFrom", "(I)V"⟩, 8), (⟨"GateWalk$Hazards", "hazardsIn", "(I)I"⟩, 5), (⟨"GateWalk$Hazards", "placeWith", "(I)I"⟩, 5), (⟨"GateWalk$Hazards", "signalOf", "(III)I"⟩, 5), (⟨"GateWalk$Liveness", "leadsThereFromAll", "(I)Z"⟩, 7), (⟨"GateWalk$Liveness", "find", "(I)V"⟩, 7), (⟨"GateWalk$Liveness", "goBackFrom", "(I)V"⟩, 7)]
theorem lw_r1 : ∀ q ∈ lw_privs_1, lw_okq q := List.forall_mem_cons.mpr ⟨lw_p0, List.forall_mem_cons.mpr ⟨lw_p1, List.forall_mem_cons.mpr ⟨lw_p2, List.forall_mem_cons.mpr ⟨lw_p3, List.forall_mem_cons.mpr ⟨lw_p4, List.forall_mem_cons.mpr ⟨lw_p5, List.forall_mem_cons.mpr ⟨lw_p6, List.forall_mem_cons.mpr ⟨lw_p7, List.forall_mem_cons.mpr ⟨lw_p8, List.forall_mem_cons.mpr ⟨lw_p9, List.forall_mem_cons.mpr ⟨lw_p10, List.forall_mem_cons.mpr ⟨lw_p11, List.forall_mem_cons.mpr ⟨lw_p12, List.forall_mem_cons.mpr ⟨lw_p13, List.forall_mem_cons.mpr ⟨lw_p14, List.forall_mem_cons.mpr ⟨lw_p15, fun _ h => absurd h List.not_mem_nil⟩⟩⟩⟩⟩⟩⟩⟩⟩⟩⟩⟩⟩⟩⟩⟩
theorem lw_p16 : lw_okq (⟨"GateWalk", "forgetRings", "()V"⟩, 11) := ⟨⟨by decide +kernel, by decide +kernel⟩, List.mem_of_getElem? (i := 22) (by decide +kernel), List.mem_of_getElem? (i := 661) (by decide +kernel), List.mem_of_getElem? (i := 662) (by decide +kernel)⟩
theorem lw_p17 : lw_okq (⟨"GateWalk$Net", "nodesBehindRings", "(I)I"⟩, 6) := ⟨⟨by decide +kernel, by decide +kernel⟩, List.mem_of_getElem? (i := 186) (by decide +kernel), List.mem_of_getElem? (i := 712) (by decide +kernel), List.mem_of_getElem? (i := 713) (by decide +kernel)⟩
theorem lw_p18 : lw_okq (⟨"GateWalk$Turns", "findGreatest", "(LGateWalk$Ratio;)V"⟩, 11) := ⟨⟨by decide +kernel, by decide +kernel⟩, List.mem_of_getElem? (i := 211) (by decide +kernel), List.mem_of_getElem? (i := 739) (by decide +kernel), List.mem_of_getElem? (i := 740) (by decide +kernel)⟩
theorem lw_p19 : lw_okq (⟨"GateWalk$Turns", "nodeBehindGreaterRing", "(LGateWalk$Ratio;)I"⟩, 11) := ⟨⟨by decide +kernel, by decide +kernel⟩, List.mem_of_getElem? (i := 211) (by decide +kernel), List.mem_of_getElem? (i := 748) (by decide +kernel), List.mem_of_getElem? (i := 749) (by decide +kernel)⟩
theorem lw_p20 : lw_okq (⟨"GateWalk$Turns", "growPaths", "(LGateWalk$Ratio;)I"⟩, 11) := ⟨⟨by decide +kernel, by decide +kernel⟩, List.mem_of_getElem? (i := 211) (by decide +kernel), List.mem_of_getElem? (i := 757) (by decide +kernel), List.mem_of_getElem? (i := 758) (by decide +kernel)⟩
theorem lw_p21 : lw_okq (⟨"GateWalk$Turns", "tokensOn", "(I)I"⟩, 11) := ⟨⟨by decide +kernel, by decide +kernel⟩, List.mem_of_getElem? (i := 211) (by decide +kernel), List.mem_of_getElem? (i := 781) (by decide +kernel), List.mem_of_getElem? (i := 782) (by decide +kernel)⟩
theorem lw_p22 : lw_okq (⟨"GateWalk$Turns", "nodeOnRing", "(I)I"⟩, 11) := ⟨⟨by decide +kernel, by decide +kernel⟩, List.mem_of_getElem? (i := 211) (by decide +kernel), List.mem_of_getElem? (i := 793) (by decide +kernel), List.mem_of_getElem? (i := 794) (by decide +kernel)⟩
theorem lw_p23 : lw_okq (⟨"GateWalk$Turns", "putRing", "(ILGateWalk$Ratio;)V"⟩, 11) := ⟨⟨by decide +kernel, by decide +kernel⟩, List.mem_of_getElem? (i := 211) (by decide +kernel), List.mem_of_getElem? (i := 797) (by decide +kernel), List.mem_of_getElem? (i := 798) (by decide +kernel)⟩
theorem lw_p24 : lw_okq (⟨"java/lang/Throwable", "fillInStackTrace", "(I)Ljava/lang/Throwable;"⟩, 6) := ⟨⟨by decide +kernel, by decide +kernel⟩, List.mem_of_getElem? (i := 904) (by decide +kernel), List.mem_of_getElem? (i := 902) (by decide +kernel), List.mem_of_getElem? (i := 903) (by decide +kernel)⟩
theorem lw_p25 : lw_okq (⟨"GateWalk$Timetable", "orderArcs", "()V"⟩, 6) := ⟨⟨by decide +kernel, by decide +kernel⟩, List.mem_of_getElem? (i := 264) (by decide +kernel), List.mem_of_getElem? (i := 938) (by decide +kernel), List.mem_of_getElem? (i := 939) (by decide +kernel)⟩
theorem lw_p26 : lw_okq (⟨"GateWalk$Timetable", "appendArcsTo", "(I)V"⟩, 6) := ⟨⟨by decide +kernel, by decide +kernel⟩, List.mem_of_getElem? (i := 264) (by decide +kernel), List.mem_of_getElem? (i := 944) (by decide +kernel), List.mem_of_getElem? (i := 945) (by decide +kernel)⟩
theorem lw_p27 : lw_okq (⟨"GateWalk$Timetable", "fill", "(I)V"⟩, 6) := ⟨⟨by decide +kernel, by decide +kernel⟩, List.mem_of_getElem? (i := 264) (by decide +kernel), List.mem_of_getElem? (i := 951) (by decide +kernel), List.mem_of_getElem? (i := 952) (by decide +kernel)⟩
theorem lw_p28 : lw_okq (⟨"GateWalkModel", "put", "(I)V"⟩, 32) := ⟨⟨by decide +kernel, by decide +kernel⟩, List.mem_of_getElem? (i := 970) (by decide +kernel), List.mem_of_getElem? (i := 1084) (by decide +kernel), List.mem_of_getElem? (i := 1085) (by decide +kernel)⟩
theorem lw_p29 : lw_okq (⟨"GateWalkModel", "read", "()I"⟩, 32) := ⟨⟨by decide +kernel, by decide +kernel⟩, List.mem_of_getElem? (i := 970) (by decide +kernel), List.mem_of_getElem? (i := 1096) (by decide +kernel), List.mem_of_getElem? (i := 1097) (by decide +kernel)⟩
theorem lw_p30 : lw_okq (⟨"GateWalkModel", "look", "()I"⟩, 32) := ⟨⟨by decide +kernel, by decide +kernel⟩, List.mem_of_getElem? (i := 970) (by decide +kernel), List.mem_of_getElem? (i := 1100) (by decide +kernel), List.mem_of_getElem? (i := 1101) (by decide +kernel)⟩
theorem lw_p31 : lw_okq (⟨"GateWalkModel", "equation", "()Z"⟩, 32) := ⟨⟨by decide +kernel, by decide +kernel⟩, List.mem_of_getElem? (i := 970) (by decide +kernel), List.mem_of_getElem? (i := 1104) (by decide +kernel), List.mem_of_getElem? (i := 1105) (by decide +kernel)⟩
def lw_privs_2 : List (MethodName × Nat) := [(⟨"GateWalk", "forgetRings", "()V"⟩, 11), (⟨"GateWalk$Net", "nodesBehindRings", "(I)I"⟩, 6), (⟨"GateWalk$Turns", "findGreatest", "(LGateWalk$Ratio;)V"⟩, 11), (⟨"GateWalk$Turns", "nodeBehindGreaterRing", "(LGateWalk$Ratio;)I"⟩, 11), (⟨"GateWalk$Turns", "growPaths", "(LGateWalk$Ratio;)I"⟩, 11), (⟨"GateWalk$Turns", "tokensOn", "(I)I"⟩, 11), (⟨"GateWalk$Turns", "nodeOnRing", "(I)I"⟩, 11), (⟨"GateWalk$Turns", "putRing", "(ILGateWalk$Ratio;)V"⟩, 11), (⟨"java/lang/Throwable", "fillInStackTrace", "(I)Ljava/lang/Throwable;"⟩, 6), (⟨"GateWalk$Timetable", "orderArcs", "()V"⟩, 6), (⟨"GateWalk$Timetable", "appendArcsTo", "(I)V"⟩, 6), (⟨"GateWalk$Timetable", "fill", "(I)V"⟩, 6), (⟨"GateWalkModel", "put", "(I)V"⟩, 32), (⟨"GateWalkModel", "read", "()I"⟩, 32), (⟨"GateWalkModel", "look", "()I"⟩, 32), (⟨"GateWalkModel", "equation", "()Z"⟩, 32)]
theorem lw_r2 : ∀ q ∈ lw_privs_2, lw_okq q := List.forall_mem_cons.mpr ⟨lw_p16, List.forall_mem_cons.mpr ⟨lw_p17, List.forall_mem_cons.mpr ⟨lw_p18, List.forall_mem_cons.mpr ⟨lw_p19, List.forall_mem_cons.mpr ⟨lw_p20, List.forall_mem_cons.mpr ⟨lw_p21, List.forall_mem_cons.mpr ⟨lw_p22, List.forall_mem_cons.mpr ⟨lw_p23, List.forall_mem_cons.mpr ⟨lw_p24, List.forall_mem_cons.mpr ⟨lw_p25, List.forall_mem_cons.mpr ⟨lw_p26, List.forall_mem_cons.mpr ⟨lw_p27, List.forall_mem_cons.mpr ⟨lw_p28, List.forall_mem_cons.mpr ⟨lw_p29, List.forall_mem_cons.mpr ⟨lw_p30, List.forall_mem_cons.mpr ⟨lw_p31, fun _ h => absurd h List.not_mem_nil⟩⟩⟩⟩⟩⟩⟩⟩⟩⟩⟩⟩⟩⟩⟩⟩
theorem lw_p32 : lw_okq (⟨"GateWalkModel", "term", "(I)Z"⟩, 32) := ⟨⟨by decide +kernel, by decide +kernel⟩, List.mem_of_getElem? (i := 970) (by decide +kernel), List.mem_of_getElem? (i := 1111) (by decide +kernel), List.mem_of_getElem? (i := 1112) (by decide +kernel)⟩
theorem lw_p33 : lw_okq (⟨"GateWalkModel", "askedIn", "(I)I"⟩, 32) := ⟨⟨by decide +kernel, by decide +kernel⟩, List.mem_of_getElem? (i := 970) (by decide +kernel), List.mem_of_getElem? (i := 1137) (by decide +kernel), List.mem_of_getElem? (i := 1138) (by decide +kernel)⟩
theorem lw_p34 : lw_okq (⟨"GateWalkModel", "walks", "()V"⟩, 32) := ⟨⟨by decide +kernel, by decide +kernel⟩, List.mem_of_getElem? (i := 970) (by decide +kernel), List.mem_of_getElem? (i := 1145) (by decide +kernel), List.mem_of_getElem? (i := 1146) (by decide +kernel)⟩
theorem lw_p35 : lw_okq (⟨"GateWalkModel", "hazardOf", "(II)I"⟩, 32) := ⟨⟨by decide +kernel, by decide +kernel⟩, List.mem_of_getElem? (i := 970) (by decide +kernel), List.mem_of_getElem? (i := 1161) (by decide +kernel), List.mem_of_getElem? (i := 1162) (by decide +kernel)⟩
theorem lw_p36 : lw_okq (⟨"GateWalkModel", "stopOf", "(I)I"⟩, 32) := ⟨⟨by decide +kernel, by decide +kernel⟩, List.mem_of_getElem? (i := 970) (by decide +kernel), List.mem_of_getElem? (i := 1169) (by decide +kernel), List.mem_of_getElem? (i := 1170) (by decide +kernel)⟩
theorem lw_p37 : lw_okq (⟨"GateWalkModel", "wayLong", "(I)I"⟩, 32) := ⟨⟨by decide +kernel, by decide +kernel⟩, List.mem_of_getElem? (i := 970) (by decide +kernel), List.mem_of_getElem? (i := 1177) (by decide +kernel), List.mem_of_getElem? (i := 1178) (by decide +kernel)⟩
theorem lw_p38 : lw_okq (⟨"GateWalkModel", "runs", "(IJ)I"⟩, 32) := ⟨⟨by decide +kernel, by decide +kernel⟩, List.mem_of_getElem? (i := 970) (by decide +kernel), List.mem_of_getElem? (i := 1200) (by decide +kernel), List.mem_of_getElem? (i := 1201) (by decide +kernel)⟩
theorem lw_p39 : lw_okq (⟨"GateWalkModel", "goRound", "()V"⟩, 32) := ⟨⟨by decide +kernel, by decide +kernel⟩, List.mem_of_getElem? (i := 970) (by decide +kernel), List.mem_of_getElem? (i := 1231) (by decide +kernel), List.mem_of_getElem? (i := 1232) (by decide +kernel)⟩
theorem lw_p40 : lw_okq (⟨"GateWalkModel", "round", "(IIIII)V"⟩, 32) := ⟨⟨by decide +kernel, by decide +kernel⟩, List.mem_of_getElem? (i := 970) (by decide +kernel), List.mem_of_getElem? (i := 1236) (by decide +kernel), List.mem_of_getElem? (i := 1237) (by decide +kernel)⟩
theorem lw_p41 : lw_okq (⟨"GateWalkModel", "ring", "(II)V"⟩, 32) := ⟨⟨by decide +kernel, by decide +kernel⟩, List.mem_of_getElem? (i := 970) (by decide +kernel), List.mem_of_getElem? (i := 1240) (by decide +kernel), List.mem_of_getElem? (i := 1241) (by decide +kernel)⟩
theorem lw_p42 : lw_okq (⟨"GateWalkModel", "times", "(I)V"⟩, 32) := ⟨⟨by decide +kernel, by decide +kernel⟩, List.mem_of_getElem? (i := 970) (by decide +kernel), List.mem_of_getElem? (i := 1252) (by decide +kernel), List.mem_of_getElem? (i := 1253) (by decide +kernel)⟩
def lw_privs_3 : List (MethodName × Nat) := [(⟨"GateWalkModel", "term", "(I)Z"⟩, 32), (⟨"GateWalkModel", "askedIn", "(I)I"⟩, 32), (⟨"GateWalkModel", "walks", "()V"⟩, 32), (⟨"GateWalkModel", "hazardOf", "(II)I"⟩, 32), (⟨"GateWalkModel", "stopOf", "(I)I"⟩, 32), (⟨"GateWalkModel", "wayLong", "(I)I"⟩, 32), (⟨"GateWalkModel", "runs", "(IJ)I"⟩, 32), (⟨"GateWalkModel", "goRound", "()V"⟩, 32), (⟨"GateWalkModel", "round", "(IIIII)V"⟩, 32), (⟨"GateWalkModel", "ring", "(II)V"⟩, 32), (⟨"GateWalkModel", "times", "(I)V"⟩, 32)]
theorem lw_r3 : ∀ q ∈ lw_privs_3, lw_okq q := List.forall_mem_cons.mpr ⟨lw_p32, List.forall_mem_cons.mpr ⟨lw_p33, List.forall_mem_cons.mpr ⟨lw_p34, List.forall_mem_cons.mpr ⟨lw_p35, List.forall_mem_cons.mpr ⟨lw_p36, List.forall_mem_cons.mpr ⟨lw_p37, List.forall_mem_cons.mpr ⟨lw_p38, List.forall_mem_cons.mpr ⟨lw_p39, List.forall_mem_cons.mpr ⟨lw_p40, List.forall_mem_cons.mpr ⟨lw_p41, List.forall_mem_cons.mpr ⟨lw_p42, fun _ h => absurd h List.not_mem_nil⟩⟩⟩⟩⟩⟩⟩⟩⟩⟩⟩
def lw_privs : List (MethodName × Nat) := lw_privs_1 ++ (lw_privs_2 ++ (lw_privs_3))
def lw_tbl : List Cond := k2_sels lw_privs ++ tables_1
theorem lw_privs_ok : ∀ q ∈ lw_privs, lw_okq q := by
  show ∀ q ∈ lw_privs_1 ++ (lw_privs_2 ++ (lw_privs_3)), lw_okq q
  exact List.forall_mem_append.mpr ⟨lw_r1, List.forall_mem_append.mpr ⟨lw_r2, lw_r3⟩⟩
def RX0 : String := "GateWalk$Circuit"
def TX0 : u_T := fun k => match k with
  | 0 => ("GateWalk$Circuit", "values", "[I", true)
  | 1 => ("GateWalk$Circuit", "partners", "[I", true)
  | 2 => ("GateWalk$Circuit", "text", "LGateWalk$Equations;", false)
  | 3 => ("GateWalk$Circuit", "reset", "I", false)
  | _ => ("GateWalk$Circuit", "stuckSet", "I", false)
def tyX0 : Nat → FieldType := fun k => match k with
  | 0 => .array .int
  | 1 => .array .int
  | 2 => .object "GateWalk$Equations"
  | 3 => .int
  | _ => .int
theorem nmX0 : ∀ a, a < 5 → ∀ b, b < 5 → a ≠ b → (TX0 a).2.1 ≠ (TX0 b).2.1 := by decide +kernel
theorem tyX0_ok : ∀ k, k < 5 → parseFieldDescriptor (TX0 k).2.2.1 = some (tyX0 k) := by decide +kernel
abbrev cX0_init : ByteArray := prog_2_method_1_code
def yX0_init : MethodName := ⟨RX0, "<init>", "()V"⟩
abbrev cX0_begin : ByteArray := prog_2_method_2_code
def yX0_begin : MethodName := ⟨RX0, "begin", "(LGateWalk$Equations;I)LGateWalk$Equations;"⟩
abbrev cX0_equations : ByteArray := prog_2_method_3_code
def yX0_equations : MethodName := ⟨RX0, "equations", "()I"⟩
abbrev cX0_terms : ByteArray := prog_2_method_4_code
def yX0_terms : MethodName := ⟨RX0, "terms", "()I"⟩
abbrev cX0_resetState : ByteArray := prog_2_method_5_code
def yX0_resetState : MethodName := ⟨RX0, "resetState", "()I"⟩
abbrev cX0_isPair : ByteArray := prog_2_method_6_code
def yX0_isPair : MethodName := ⟨RX0, "isPair", "(II)Z"⟩
abbrev cX0_turnPair : ByteArray := prog_2_method_7_code
def yX0_turnPair : MethodName := ⟨RX0, "turnPair", "(II)V"⟩
abbrev cX0_isStuck : ByteArray := prog_2_method_8_code
def yX0_isStuck : MethodName := ⟨RX0, "isStuck", "(I)Z"⟩
abbrev cX0_turnStuck : ByteArray := prog_2_method_9_code
def yX0_turnStuck : MethodName := ⟨RX0, "turnStuck", "(I)V"⟩
abbrev cX0_askedIn : ByteArray := prog_2_method_10_code
def yX0_askedIn : MethodName := ⟨RX0, "askedIn", "(I)I"⟩
abbrev cX0_takenBackBy : ByteArray := prog_2_method_11_code
def yX0_takenBackBy : MethodName := ⟨RX0, "takenBackBy", "(II)I"⟩
abbrev cX0_runByLots : ByteArray := prog_2_method_12_code
def yX0_runByLots : MethodName := ⟨RX0, "runByLots", "(IJ[I)I"⟩
abbrev cX0_signalInPlace : ByteArray := prog_2_method_13_code
def yX0_signalInPlace : MethodName := ⟨RX0, "signalInPlace", "(II)I"⟩
def RX1 : String := "GateWalk$Equations"
def TX1 : u_T := fun k => match k with
  | 0 => ("GateWalk$Equations", "owner", "[I", true)
  | 1 => ("GateWalk$Equations", "ones", "[I", true)
  | 2 => ("GateWalk$Equations", "zeros", "[I", true)
  | 3 => ("GateWalk$Equations", "terms", "I", false)
  | _ => ("GateWalk$Equations", "signals", "I", false)
def tyX1 : Nat → FieldType := fun k => match k with
  | 0 => .array .int
  | 1 => .array .int
  | 2 => .array .int
  | 3 => .int
  | _ => .int
theorem nmX1 : ∀ a, a < 5 → ∀ b, b < 5 → a ≠ b → (TX1 a).2.1 ≠ (TX1 b).2.1 := by decide +kernel
theorem tyX1_ok : ∀ k, k < 5 → parseFieldDescriptor (TX1 k).2.2.1 = some (tyX1 k) := by decide +kernel
abbrev cX1_init : ByteArray := prog_3_method_1_code
def yX1_init : MethodName := ⟨RX1, "<init>", "()V"⟩
abbrev cX1_removeAll : ByteArray := prog_3_method_2_code
def yX1_removeAll : MethodName := ⟨RX1, "removeAll", "()V"⟩
abbrev cX1_has : ByteArray := prog_3_method_3_code
def yX1_has : MethodName := ⟨RX1, "has", "(I)Z"⟩
abbrev cX1_addEquation : ByteArray := prog_3_method_4_code
def yX1_addEquation : MethodName := ⟨RX1, "addEquation", "(I)V"⟩
abbrev cX1_addConstant : ByteArray := prog_3_method_5_code
def yX1_addConstant : MethodName := ⟨RX1, "addConstant", "(IZ)V"⟩
abbrev cX1_addTerm : ByteArray := prog_3_method_6_code
def yX1_addTerm : MethodName := ⟨RX1, "addTerm", "(III)V"⟩
abbrev cX1_terms : ByteArray := prog_3_method_7_code
def yX1_terms : MethodName := ⟨RX1, "terms", "()I"⟩
abbrev cX1_signals : ByteArray := prog_3_method_8_code
def yX1_signals : MethodName := ⟨RX1, "signals", "()I"⟩
abbrev cX1_valuesIn : ByteArray := prog_3_method_9_code
def yX1_valuesIn : MethodName := ⟨RX1, "valuesIn", "(I)I"⟩
def RX2 : String := "GateWalk$Hazards"
def TX2 : u_T := fun k => match k with
  | 0 => ("GateWalk$Hazards", "gates", "LGateWalk$Circuit;", true)
  | 1 => ("GateWalk$Hazards", "walk", "LGateWalk$Walk;", true)
  | 2 => ("GateWalk$Hazards", "upTo", "[I", true)
  | 3 => ("GateWalk$Hazards", "size", "I", false)
  | _ => ("GateWalk$Hazards", "made", "Z", false)
def tyX2 : Nat → FieldType := fun k => match k with
  | 0 => .object "GateWalk$Circuit"
  | 1 => .object "GateWalk$Walk"
  | 2 => .array .int
  | 3 => .int
  | _ => .boolean
theorem nmX2 : ∀ a, a < 5 → ∀ b, b < 5 → a ≠ b → (TX2 a).2.1 ≠ (TX2 b).2.1 := by decide +kernel
theorem tyX2_ok : ∀ k, k < 5 → parseFieldDescriptor (TX2 k).2.2.1 = some (tyX2 k) := by decide +kernel
abbrev cX2_init : ByteArray := prog_4_method_1_code
def yX2_init : MethodName := ⟨RX2, "<init>", "(LGateWalk$Circuit;LGateWalk$Walk;)V"⟩
abbrev cX2_forget : ByteArray := prog_4_method_2_code
def yX2_forget : MethodName := ⟨RX2, "forget", "()V"⟩
abbrev cX2_renew : ByteArray := prog_4_method_3_code
def yX2_renew : MethodName := ⟨RX2, "renew", "()V"⟩
abbrev cX2_hazardsIn : ByteArray := prog_4_method_4_code
def yX2_hazardsIn : MethodName := ⟨RX2, "hazardsIn", "(I)I"⟩
abbrev cX2_size : ByteArray := prog_4_method_5_code
def yX2_size : MethodName := ⟨RX2, "size", "()I"⟩
abbrev cX2_partOf : ByteArray := prog_4_method_6_code
def yX2_partOf : MethodName := ⟨RX2, "partOf", "(II)I"⟩
abbrev cX2_placeWith : ByteArray := prog_4_method_7_code
def yX2_placeWith : MethodName := ⟨RX2, "placeWith", "(I)I"⟩
abbrev cX2_signalOf : ByteArray := prog_4_method_8_code
def yX2_signalOf : MethodName := ⟨RX2, "signalOf", "(III)I"⟩
def RX3 : String := "GateWalk$Liveness"
def TX3 : u_T := fun k => match k with
  | 0 => ("GateWalk$Liveness", "gates", "LGateWalk$Circuit;", true)
  | 1 => ("GateWalk$Liveness", "walk", "LGateWalk$Walk;", true)
  | 2 => ("GateWalk$Liveness", "found", "[Z", true)
  | 3 => ("GateWalk$Liveness", "queue", "[I", true)
  | 4 => ("GateWalk$Liveness", "queued", "I", false)
  | 5 => ("GateWalk$Liveness", "knownSet", "I", false)
  | _ => ("GateWalk$Liveness", "liveSet", "I", false)
def tyX3 : Nat → FieldType := fun k => match k with
  | 0 => .object "GateWalk$Circuit"
  | 1 => .object "GateWalk$Walk"
  | 2 => .array .boolean
  | 3 => .array .int
  | 4 => .int
  | 5 => .int
  | _ => .int
theorem nmX3 : ∀ a, a < 7 → ∀ b, b < 7 → a ≠ b → (TX3 a).2.1 ≠ (TX3 b).2.1 := by decide +kernel
theorem tyX3_ok : ∀ k, k < 7 → parseFieldDescriptor (TX3 k).2.2.1 = some (tyX3 k) := by decide +kernel
abbrev cX3_init : ByteArray := prog_5_method_1_code
def yX3_init : MethodName := ⟨RX3, "<init>", "(LGateWalk$Circuit;LGateWalk$Walk;)V"⟩
abbrev cX3_forget : ByteArray := prog_5_method_2_code
def yX3_forget : MethodName := ⟨RX3, "forget", "()V"⟩
abbrev cX3_isLive : ByteArray := prog_5_method_3_code
def yX3_isLive : MethodName := ⟨RX3, "isLive", "(I)Z"⟩
abbrev cX3_leadsThereFromAll : ByteArray := prog_5_method_4_code
def yX3_leadsThereFromAll : MethodName := ⟨RX3, "leadsThereFromAll", "(I)Z"⟩
abbrev cX3_goBackFrom : ByteArray := prog_5_method_5_code
def yX3_goBackFrom : MethodName := ⟨RX3, "goBackFrom", "(I)V"⟩
abbrev cX3_find : ByteArray := prog_5_method_6_code
def yX3_find : MethodName := ⟨RX3, "find", "(I)V"⟩
def RX4 : String := "GateWalk$Net"
def TX4 : u_T := fun k => match k with
  | 0 => ("GateWalk$Net", "delays", "[I", true)
  | 1 => ("GateWalk$Net", "sources", "[I", true)
  | 2 => ("GateWalk$Net", "targets", "[I", true)
  | 3 => ("GateWalk$Net", "held", "[I", true)
  | 4 => ("GateWalk$Net", "nodes", "I", false)
  | _ => ("GateWalk$Net", "arcs", "I", false)
def tyX4 : Nat → FieldType := fun k => match k with
  | 0 => .array .int
  | 1 => .array .int
  | 2 => .array .int
  | 3 => .array .int
  | 4 => .int
  | _ => .int
theorem nmX4 : ∀ a, a < 6 → ∀ b, b < 6 → a ≠ b → (TX4 a).2.1 ≠ (TX4 b).2.1 := by decide +kernel
theorem tyX4_ok : ∀ k, k < 6 → parseFieldDescriptor (TX4 k).2.2.1 = some (tyX4 k) := by decide +kernel
abbrev cX4_init : ByteArray := prog_6_method_1_code
def yX4_init : MethodName := ⟨RX4, "<init>", "()V"⟩
abbrev cX4_removeAll : ByteArray := prog_6_method_2_code
def yX4_removeAll : MethodName := ⟨RX4, "removeAll", "()V"⟩
abbrev cX4_addNode : ByteArray := prog_6_method_3_code
def yX4_addNode : MethodName := ⟨RX4, "addNode", "(I)I"⟩
abbrev cX4_addArc : ByteArray := prog_6_method_4_code
def yX4_addArc : MethodName := ⟨RX4, "addArc", "(III)I"⟩
abbrev cX4_putTokens : ByteArray := prog_6_method_5_code
def yX4_putTokens : MethodName := ⟨RX4, "putTokens", "(II)Z"⟩
abbrev cX4_isTokens : ByteArray := prog_6_method_6_code
def yX4_isTokens : MethodName := ⟨RX4, "isTokens", "(I)Z"⟩
abbrev cX4_isNode : ByteArray := prog_6_method_7_code
def yX4_isNode : MethodName := ⟨RX4, "isNode", "(I)Z"⟩
abbrev cX4_nodes : ByteArray := prog_6_method_8_code
def yX4_nodes : MethodName := ⟨RX4, "nodes", "()I"⟩
abbrev cX4_arcs : ByteArray := prog_6_method_9_code
def yX4_arcs : MethodName := ⟨RX4, "arcs", "()I"⟩
abbrev cX4_delayOf : ByteArray := prog_6_method_10_code
def yX4_delayOf : MethodName := ⟨RX4, "delayOf", "(I)I"⟩
abbrev cX4_sourceOf : ByteArray := prog_6_method_11_code
def yX4_sourceOf : MethodName := ⟨RX4, "sourceOf", "(I)I"⟩
abbrev cX4_targetOf : ByteArray := prog_6_method_12_code
def yX4_targetOf : MethodName := ⟨RX4, "targetOf", "(I)I"⟩
abbrev cX4_tokensOf : ByteArray := prog_6_method_13_code
def yX4_tokensOf : MethodName := ⟨RX4, "tokensOf", "(I)I"⟩
abbrev cX4_allNodes : ByteArray := prog_6_method_14_code
def yX4_allNodes : MethodName := ⟨RX4, "allNodes", "()I"⟩
abbrev cX4_hasDeadRing : ByteArray := prog_6_method_15_code
def yX4_hasDeadRing : MethodName := ⟨RX4, "hasDeadRing", "()Z"⟩
abbrev cX4_hasRing : ByteArray := prog_6_method_16_code
def yX4_hasRing : MethodName := ⟨RX4, "hasRing", "()Z"⟩
abbrev cX4_nodesBehindRings : ByteArray := prog_6_method_17_code
def yX4_nodesBehindRings : MethodName := ⟨RX4, "nodesBehindRings", "(I)I"⟩
abbrev cX4_freedBy : ByteArray := prog_6_method_18_code
def yX4_freedBy : MethodName := ⟨RX4, "freedBy", "(II)I"⟩
def RX5 : String := "GateWalk$Ratio"
def TX5 : u_T := fun k => match k with
  | 0 => ("GateWalk$Ratio", "top", "I", false)
  | _ => ("GateWalk$Ratio", "bottom", "I", false)
def tyX5 : Nat → FieldType := fun k => match k with
  | 0 => .int
  | _ => .int
theorem nmX5 : ∀ a, a < 2 → ∀ b, b < 2 → a ≠ b → (TX5 a).2.1 ≠ (TX5 b).2.1 := by decide +kernel
theorem tyX5_ok : ∀ k, k < 2 → parseFieldDescriptor (TX5 k).2.2.1 = some (tyX5 k) := by decide +kernel
abbrev cX5_init : ByteArray := prog_7_method_1_code
def yX5_init : MethodName := ⟨RX5, "<init>", "()V"⟩
abbrev cX5_putBelowAll : ByteArray := prog_7_method_2_code
def yX5_putBelowAll : MethodName := ⟨RX5, "putBelowAll", "()V"⟩
abbrev cX5_put : ByteArray := prog_7_method_3_code
def yX5_put : MethodName := ⟨RX5, "put", "(II)V"⟩
abbrev cX5_putAs : ByteArray := prog_7_method_4_code
def yX5_putAs : MethodName := ⟨RX5, "putAs", "(LGateWalk$Ratio;)V"⟩
abbrev cX5_top : ByteArray := prog_7_method_5_code
def yX5_top : MethodName := ⟨RX5, "top", "()I"⟩
abbrev cX5_bottom : ByteArray := prog_7_method_6_code
def yX5_bottom : MethodName := ⟨RX5, "bottom", "()I"⟩
abbrev cX5_isLess : ByteArray := prog_7_method_7_code
def yX5_isLess : MethodName := ⟨RX5, "isLess", "(LGateWalk$Ratio;)Z"⟩
abbrev cX5_commonDivisor : ByteArray := prog_7_method_8_code
def yX5_commonDivisor : MethodName := ⟨RX5, "commonDivisor", "(II)I"⟩
def RX6 : String := "GateWalk$Reader"
def TX6 : u_T := fun k => match k with
  | 0 => ("GateWalk$Reader", "tape", "LGateWalk$Tape;", true)
  | _ => ("GateWalk$Reader", "at", "I", false)
def tyX6 : Nat → FieldType := fun k => match k with
  | 0 => .object "GateWalk$Tape"
  | _ => .int
theorem nmX6 : ∀ a, a < 2 → ∀ b, b < 2 → a ≠ b → (TX6 a).2.1 ≠ (TX6 b).2.1 := by decide +kernel
theorem tyX6_ok : ∀ k, k < 2 → parseFieldDescriptor (TX6 k).2.2.1 = some (tyX6 k) := by decide +kernel
abbrev cX6_init : ByteArray := prog_8_method_1_code
def yX6_init : MethodName := ⟨RX6, "<init>", "(LGateWalk$Tape;)V"⟩
abbrev cX6_read : ByteArray := prog_8_method_2_code
def yX6_read : MethodName := ⟨RX6, "read", "(LGateWalk$Equations;)I"⟩
abbrev cX6_readEquation : ByteArray := prog_8_method_3_code
def yX6_readEquation : MethodName := ⟨RX6, "readEquation", "(LGateWalk$Equations;)Z"⟩
abbrev cX6_readTerms : ByteArray := prog_8_method_4_code
def yX6_readTerms : MethodName := ⟨RX6, "readTerms", "(ILGateWalk$Equations;)Z"⟩
abbrev cX6_readTerm : ByteArray := prog_8_method_5_code
def yX6_readTerm : MethodName := ⟨RX6, "readTerm", "(ILGateWalk$Equations;)Z"⟩
abbrev cX6_signalHere : ByteArray := prog_8_method_6_code
def yX6_signalHere : MethodName := ⟨RX6, "signalHere", "()I"⟩
abbrev cX6_isOn : ByteArray := prog_8_method_7_code
def yX6_isOn : MethodName := ⟨RX6, "isOn", "(C)Z"⟩
abbrev cX6_isAtEnd : ByteArray := prog_8_method_8_code
def yX6_isAtEnd : MethodName := ⟨RX6, "isAtEnd", "()Z"⟩
abbrev cX6_step : ByteArray := prog_8_method_9_code
def yX6_step : MethodName := ⟨RX6, "step", "()V"⟩
def RX7 : String := "GateWalk$Tape"
def TX7 : u_T := fun k => match k with
  | 0 => ("GateWalk$Tape", "bytes", "[I", true)
  | _ => ("GateWalk$Tape", "size", "I", false)
def tyX7 : Nat → FieldType := fun k => match k with
  | 0 => .array .int
  | _ => .int
theorem nmX7 : ∀ a, a < 2 → ∀ b, b < 2 → a ≠ b → (TX7 a).2.1 ≠ (TX7 b).2.1 := by decide +kernel
theorem tyX7_ok : ∀ k, k < 2 → parseFieldDescriptor (TX7 k).2.2.1 = some (tyX7 k) := by decide +kernel
abbrev cX7_init : ByteArray := prog_9_method_1_code
def yX7_init : MethodName := ⟨RX7, "<init>", "()V"⟩
abbrev cX7_bytesIn : ByteArray := prog_9_method_2_code
def yX7_bytesIn : MethodName := ⟨RX7, "bytesIn", "(I)I"⟩
abbrev cX7_append : ByteArray := prog_9_method_3_code
def yX7_append : MethodName := ⟨RX7, "append", "(I)V"⟩
abbrev cX7_cut : ByteArray := prog_9_method_4_code
def yX7_cut : MethodName := ⟨RX7, "cut", "(I)V"⟩
abbrev cX7_size : ByteArray := prog_9_method_5_code
def yX7_size : MethodName := ⟨RX7, "size", "()I"⟩
abbrev cX7_byteAt : ByteArray := prog_9_method_6_code
def yX7_byteAt : MethodName := ⟨RX7, "byteAt", "(I)I"⟩
abbrev cX7_pastBlanks : ByteArray := prog_9_method_7_code
def yX7_pastBlanks : MethodName := ⟨RX7, "pastBlanks", "(I)I"⟩
def RX8 : String := "GateWalk$Timetable"
def TX8 : u_T := fun k => match k with
  | 0 => ("GateWalk$Timetable", "net", "LGateWalk$Net;", true)
  | 1 => ("GateWalk$Timetable", "begins", "[[I", true)
  | 2 => ("GateWalk$Timetable", "arcOrder", "[I", true)
  | 3 => ("GateWalk$Timetable", "ordered", "I", false)
  | 4 => ("GateWalk$Timetable", "freeNodes", "I", false)
  | _ => ("GateWalk$Timetable", "filled", "I", false)
def tyX8 : Nat → FieldType := fun k => match k with
  | 0 => .object "GateWalk$Net"
  | 1 => .array (.array .int)
  | 2 => .array .int
  | 3 => .int
  | 4 => .int
  | _ => .int
theorem nmX8 : ∀ a, a < 6 → ∀ b, b < 6 → a ≠ b → (TX8 a).2.1 ≠ (TX8 b).2.1 := by decide +kernel
theorem tyX8_ok : ∀ k, k < 6 → parseFieldDescriptor (TX8 k).2.2.1 = some (tyX8 k) := by decide +kernel
abbrev cX8_init : ByteArray := prog_10_method_1_code
def yX8_init : MethodName := ⟨RX8, "<init>", "(LGateWalk$Net;)V"⟩
abbrev cX8_forget : ByteArray := prog_10_method_2_code
def yX8_forget : MethodName := ⟨RX8, "forget", "()V"⟩
abbrev cX8_fillTo : ByteArray := prog_10_method_3_code
def yX8_fillTo : MethodName := ⟨RX8, "fillTo", "(I)V"⟩
abbrev cX8_doneAt : ByteArray := prog_10_method_4_code
def yX8_doneAt : MethodName := ⟨RX8, "doneAt", "(II)I"⟩
abbrev cX8_orderArcs : ByteArray := prog_10_method_5_code
def yX8_orderArcs : MethodName := ⟨RX8, "orderArcs", "()V"⟩
abbrev cX8_appendArcsTo : ByteArray := prog_10_method_6_code
def yX8_appendArcsTo : MethodName := ⟨RX8, "appendArcsTo", "(I)V"⟩
abbrev cX8_fill : ByteArray := prog_10_method_7_code
def yX8_fill : MethodName := ⟨RX8, "fill", "(I)V"⟩
abbrev cX8_later : ByteArray := prog_10_method_8_code
def yX8_later : MethodName := ⟨RX8, "later", "(II)I"⟩
def RX9 : String := "GateWalk$Turns"
def TX9 : u_T := fun k => match k with
  | 0 => ("GateWalk$Turns", "net", "LGateWalk$Net;", true)
  | 1 => ("GateWalk$Turns", "turn", "LGateWalk$Ratio;", true)
  | 2 => ("GateWalk$Turns", "trial", "LGateWalk$Ratio;", true)
  | 3 => ("GateWalk$Turns", "least", "LGateWalk$Ratio;", true)
  | 4 => ("GateWalk$Turns", "lengths", "[I", true)
  | 5 => ("GateWalk$Turns", "cameOver", "[I", true)
  | 6 => ("GateWalk$Turns", "made", "Z", false)
  | 7 => ("GateWalk$Turns", "there", "Z", false)
  | 8 => ("GateWalk$Turns", "helperMade", "Z", false)
  | 9 => ("GateWalk$Turns", "helper", "I", false)
  | _ => ("GateWalk$Turns", "richer", "I", false)
def tyX9 : Nat → FieldType := fun k => match k with
  | 0 => .object "GateWalk$Net"
  | 1 => .object "GateWalk$Ratio"
  | 2 => .object "GateWalk$Ratio"
  | 3 => .object "GateWalk$Ratio"
  | 4 => .array .int
  | 5 => .array .int
  | 6 => .boolean
  | 7 => .boolean
  | 8 => .boolean
  | 9 => .int
  | _ => .int
theorem nmX9 : ∀ a, a < 11 → ∀ b, b < 11 → a ≠ b → (TX9 a).2.1 ≠ (TX9 b).2.1 := by decide +kernel
theorem tyX9_ok : ∀ k, k < 11 → parseFieldDescriptor (TX9 k).2.2.1 = some (tyX9 k) := by decide +kernel
abbrev cX9_init : ByteArray := prog_11_method_1_code
def yX9_init : MethodName := ⟨RX9, "<init>", "(LGateWalk$Net;)V"⟩
abbrev cX9_forget : ByteArray := prog_11_method_2_code
def yX9_forget : MethodName := ⟨RX9, "forget", "()V"⟩
abbrev cX9_renew : ByteArray := prog_11_method_3_code
def yX9_renew : MethodName := ⟨RX9, "renew", "()V"⟩
abbrev cX9_numerator : ByteArray := prog_11_method_4_code
def yX9_numerator : MethodName := ⟨RX9, "numerator", "()I"⟩
abbrev cX9_denominator : ByteArray := prog_11_method_5_code
def yX9_denominator : MethodName := ⟨RX9, "denominator", "()I"⟩
abbrev cX9_helper : ByteArray := prog_11_method_6_code
def yX9_helper : MethodName := ⟨RX9, "helper", "()I"⟩
abbrev cX9_findGreatest : ByteArray := prog_11_method_7_code
def yX9_findGreatest : MethodName := ⟨RX9, "findGreatest", "(LGateWalk$Ratio;)V"⟩
abbrev cX9_nodeBehindGreaterRing : ByteArray := prog_11_method_8_code
def yX9_nodeBehindGreaterRing : MethodName := ⟨RX9, "nodeBehindGreaterRing", "(LGateWalk$Ratio;)I"⟩
abbrev cX9_growPaths : ByteArray := prog_11_method_9_code
def yX9_growPaths : MethodName := ⟨RX9, "growPaths", "(LGateWalk$Ratio;)I"⟩
abbrev cX9_tokensOn : ByteArray := prog_11_method_10_code
def yX9_tokensOn : MethodName := ⟨RX9, "tokensOn", "(I)I"⟩
abbrev cX9_nodeOnRing : ByteArray := prog_11_method_11_code
def yX9_nodeOnRing : MethodName := ⟨RX9, "nodeOnRing", "(I)I"⟩
abbrev cX9_putRing : ByteArray := prog_11_method_12_code
def yX9_putRing : MethodName := ⟨RX9, "putRing", "(ILGateWalk$Ratio;)V"⟩
def RX10 : String := "GateWalk$Walk"
def TX10 : u_T := fun k => match k with
  | 0 => ("GateWalk$Walk", "gates", "LGateWalk$Circuit;", true)
  | 1 => ("GateWalk$Walk", "order", "[I", true)
  | 2 => ("GateWalk$Walk", "places", "[I", true)
  | 3 => ("GateWalk$Walk", "cameBy", "[I", true)
  | 4 => ("GateWalk$Walk", "stopStates", "[I", true)
  | 5 => ("GateWalk$Walk", "size", "I", false)
  | 6 => ("GateWalk$Walk", "stops", "I", false)
  | _ => ("GateWalk$Walk", "made", "Z", false)
def tyX10 : Nat → FieldType := fun k => match k with
  | 0 => .object "GateWalk$Circuit"
  | 1 => .array .int
  | 2 => .array .int
  | 3 => .array .int
  | 4 => .array .int
  | 5 => .int
  | 6 => .int
  | _ => .boolean
theorem nmX10 : ∀ a, a < 8 → ∀ b, b < 8 → a ≠ b → (TX10 a).2.1 ≠ (TX10 b).2.1 := by decide +kernel
theorem tyX10_ok : ∀ k, k < 8 → parseFieldDescriptor (TX10 k).2.2.1 = some (tyX10 k) := by decide +kernel
abbrev cX10_init : ByteArray := prog_12_method_1_code
def yX10_init : MethodName := ⟨RX10, "<init>", "(LGateWalk$Circuit;)V"⟩
abbrev cX10_forget : ByteArray := prog_12_method_2_code
def yX10_forget : MethodName := ⟨RX10, "forget", "()V"⟩
abbrev cX10_renew : ByteArray := prog_12_method_3_code
def yX10_renew : MethodName := ⟨RX10, "renew", "()V"⟩
abbrev cX10_goOnFrom : ByteArray := prog_12_method_4_code
def yX10_goOnFrom : MethodName := ⟨RX10, "goOnFrom", "(I)V"⟩
abbrev cX10_enter : ByteArray := prog_12_method_5_code
def yX10_enter : MethodName := ⟨RX10, "enter", "(II)V"⟩
abbrev cX10_size : ByteArray := prog_12_method_6_code
def yX10_size : MethodName := ⟨RX10, "size", "()I"⟩
abbrev cX10_stops : ByteArray := prog_12_method_7_code
def yX10_stops : MethodName := ⟨RX10, "stops", "()I"⟩
abbrev cX10_stateAt : ByteArray := prog_12_method_8_code
def yX10_stateAt : MethodName := ⟨RX10, "stateAt", "(I)I"⟩
abbrev cX10_stopAt : ByteArray := prog_12_method_9_code
def yX10_stopAt : MethodName := ⟨RX10, "stopAt", "(I)I"⟩
abbrev cX10_placeOf : ByteArray := prog_12_method_10_code
def yX10_placeOf : MethodName := ⟨RX10, "placeOf", "(I)I"⟩
abbrev cX10_wayLength : ByteArray := prog_12_method_11_code
def yX10_wayLength : MethodName := ⟨RX10, "wayLength", "(I)I"⟩
abbrev cX10_wayStep : ByteArray := prog_12_method_12_code
def yX10_wayStep : MethodName := ⟨RX10, "wayStep", "(II)I"⟩
abbrev cX10_firstWithAll : ByteArray := prog_12_method_13_code
def yX10_firstWithAll : MethodName := ⟨RX10, "firstWithAll", "(I)I"⟩
def RX11 : String := "GateWalk"
def TX11 : u_T := fun k => match k with
  | 0 => ("GateWalk", "tape", "LGateWalk$Tape;", true)
  | 1 => ("GateWalk", "reader", "LGateWalk$Reader;", true)
  | 2 => ("GateWalk", "gates", "LGateWalk$Circuit;", true)
  | 3 => ("GateWalk", "walk", "LGateWalk$Walk;", true)
  | 4 => ("GateWalk", "hazards", "LGateWalk$Hazards;", true)
  | 5 => ("GateWalk", "liveness", "LGateWalk$Liveness;", true)
  | 6 => ("GateWalk", "lotChanges", "[I", true)
  | 7 => ("GateWalk", "net", "LGateWalk$Net;", true)
  | 8 => ("GateWalk", "turns", "LGateWalk$Turns;", true)
  | 9 => ("GateWalk", "timetable", "LGateWalk$Timetable;", true)
  | _ => ("GateWalk", "draft", "LGateWalk$Equations;", false)
def tyX11 : Nat → FieldType := fun k => match k with
  | 0 => .object "GateWalk$Tape"
  | 1 => .object "GateWalk$Reader"
  | 2 => .object "GateWalk$Circuit"
  | 3 => .object "GateWalk$Walk"
  | 4 => .object "GateWalk$Hazards"
  | 5 => .object "GateWalk$Liveness"
  | 6 => .array .int
  | 7 => .object "GateWalk$Net"
  | 8 => .object "GateWalk$Turns"
  | 9 => .object "GateWalk$Timetable"
  | _ => .object "GateWalk$Equations"
theorem nmX11 : ∀ a, a < 11 → ∀ b, b < 11 → a ≠ b → (TX11 a).2.1 ≠ (TX11 b).2.1 := by decide +kernel
theorem tyX11_ok : ∀ k, k < 11 → parseFieldDescriptor (TX11 k).2.2.1 = some (tyX11 k) := by decide +kernel
abbrev cX11_init : ByteArray := prog_1_method_1_code
def yX11_init : MethodName := ⟨RX11, "<init>", "()V"⟩
abbrev cX11_feed : ByteArray := prog_1_method_2_code
def yX11_feed : MethodName := ⟨RX11, "feed", "(IIIII)I"⟩
abbrev cX11_end : ByteArray := prog_1_method_3_code
def yX11_end : MethodName := ⟨RX11, "end", "(I)Z"⟩
abbrev cX11_fault : ByteArray := prog_1_method_4_code
def yX11_fault : MethodName := ⟨RX11, "fault", "()I"⟩
abbrev cX11_circuit : ByteArray := prog_1_method_5_code
def yX11_circuit : MethodName := ⟨RX11, "circuit", "(I)Z"⟩
abbrev cX11_arbiter : ByteArray := prog_1_method_6_code
def yX11_arbiter : MethodName := ⟨RX11, "arbiter", "(IIZ)Z"⟩
abbrev cX11_stuck : ByteArray := prog_1_method_7_code
def yX11_stuck : MethodName := ⟨RX11, "stuck", "(IZ)Z"⟩
abbrev cX11_asked : ByteArray := prog_1_method_8_code
def yX11_asked : MethodName := ⟨RX11, "asked", "(I)I"⟩
abbrev cX11_states : ByteArray := prog_1_method_9_code
def yX11_states : MethodName := ⟨RX11, "states", "()I"⟩
abbrev cX11_state : ByteArray := prog_1_method_10_code
def yX11_state : MethodName := ⟨RX11, "state", "(I)I"⟩
abbrev cX11_place : ByteArray := prog_1_method_11_code
def yX11_place : MethodName := ⟨RX11, "place", "(I)I"⟩
abbrev cX11_hazard : ByteArray := prog_1_method_12_code
def yX11_hazard : MethodName := ⟨RX11, "hazard", "(II)I"⟩
abbrev cX11_stop : ByteArray := prog_1_method_13_code
def yX11_stop : MethodName := ⟨RX11, "stop", "(I)I"⟩
abbrev cX11_way : ByteArray := prog_1_method_14_code
def yX11_way : MethodName := ⟨RX11, "way", "(I)I"⟩
abbrev cX11_change : ByteArray := prog_1_method_15_code
def yX11_change : MethodName := ⟨RX11, "change", "(II)I"⟩
abbrev cX11_live : ByteArray := prog_1_method_16_code
def yX11_live : MethodName := ⟨RX11, "live", "(I)I"⟩
abbrev cX11_both : ByteArray := prog_1_method_17_code
def yX11_both : MethodName := ⟨RX11, "both", "(I)I"⟩
abbrev cX11_run : ByteArray := prog_1_method_18_code
def yX11_run : MethodName := ⟨RX11, "run", "(IJ)I"⟩
abbrev cX11_changed : ByteArray := prog_1_method_19_code
def yX11_changed : MethodName := ⟨RX11, "changed", "(IJI)I"⟩
abbrev cX11_node : ByteArray := prog_1_method_20_code
def yX11_node : MethodName := ⟨RX11, "node", "(I)I"⟩
abbrev cX11_arc : ByteArray := prog_1_method_21_code
def yX11_arc : MethodName := ⟨RX11, "arc", "(III)I"⟩
abbrev cX11_tokens : ByteArray := prog_1_method_22_code
def yX11_tokens : MethodName := ⟨RX11, "tokens", "(II)Z"⟩
abbrev cX11_clear : ByteArray := prog_1_method_23_code
def yX11_clear : MethodName := ⟨RX11, "clear", "()V"⟩
abbrev cX11_dead : ByteArray := prog_1_method_24_code
def yX11_dead : MethodName := ⟨RX11, "dead", "()I"⟩
abbrev cX11_turn : ByteArray := prog_1_method_25_code
def yX11_turn : MethodName := ⟨RX11, "turn", "(I)J"⟩
abbrev cX11_time : ByteArray := prog_1_method_26_code
def yX11_time : MethodName := ⟨RX11, "time", "(II)I"⟩
abbrev cX11_helps : ByteArray := prog_1_method_27_code
def yX11_helps : MethodName := ⟨RX11, "helps", "()I"⟩
abbrev cX11_count : ByteArray := prog_1_method_28_code
def yX11_count : MethodName := ⟨RX11, "count", "(I)I"⟩
abbrev cX11_forgetWalk : ByteArray := prog_1_method_29_code
def yX11_forgetWalk : MethodName := ⟨RX11, "forgetWalk", "()V"⟩
abbrev cX11_forgetRings : ByteArray := prog_1_method_30_code
def yX11_forgetRings : MethodName := ⟨RX11, "forgetRings", "()V"⟩
abbrev cX11_isSignal : ByteArray := prog_1_method_31_code
def yX11_isSignal : MethodName := ⟨RX11, "isSignal", "(I)Z"⟩
abbrev cX11_isState : ByteArray := prog_1_method_32_code
def yX11_isState : MethodName := ⟨RX11, "isState", "(I)Z"⟩
abbrev cX11_isRunLength : ByteArray := prog_1_method_33_code
def yX11_isRunLength : MethodName := ⟨RX11, "isRunLength", "(I)Z"⟩
abbrev cX11_isIn : ByteArray := prog_1_method_34_code
def yX11_isIn : MethodName := ⟨RX11, "isIn", "(II)Z"⟩
def RX12 : String := "GateWalkModel"
def TX12 : u_T := fun k => match k with
  | 0 => ("GateWalkModel", "thrown", "I", false)
  | 1 => ("GateWalkModel", "tape", "[B", true)
  | 2 => ("GateWalkModel", "length", "I", false)
  | 3 => ("GateWalkModel", "terms", "[I", true)
  | 4 => ("GateWalkModel", "one", "[I", true)
  | 5 => ("GateWalkModel", "zero", "[I", true)
  | 6 => ("GateWalkModel", "newTerms", "[I", true)
  | 7 => ("GateWalkModel", "newOne", "[I", true)
  | 8 => ("GateWalkModel", "newZero", "[I", true)
  | 9 => ("GateWalkModel", "reset", "I", false)
  | 10 => ("GateWalkModel", "isStuck", "[Z", true)
  | 11 => ("GateWalkModel", "isArbiter", "[Z", true)
  | 12 => ("GateWalkModel", "at", "I", false)
  | 13 => ("GateWalkModel", "walk", "[I", true)
  | 14 => ("GateWalkModel", "place", "[I", true)
  | 15 => ("GateWalkModel", "from", "[I", true)
  | 16 => ("GateWalkModel", "by", "[I", true)
  | 17 => ("GateWalkModel", "many", "I", false)
  | 18 => ("GateWalkModel", "leads", "[Z", true)
  | 19 => ("GateWalkModel", "changes", "[I", true)
  | 20 => ("GateWalkModel", "delay", "[I", true)
  | 21 => ("GateWalkModel", "arcFrom", "[I", true)
  | 22 => ("GateWalkModel", "arcTo", "[I", true)
  | 23 => ("GateWalkModel", "tokens", "[I", true)
  | 24 => ("GateWalkModel", "nodes", "I", false)
  | 25 => ("GateWalkModel", "arcs", "I", false)
  | 26 => ("GateWalkModel", "isDead", "Z", false)
  | 27 => ("GateWalkModel", "rings", "I", false)
  | 28 => ("GateWalkModel", "top", "J", false)
  | 29 => ("GateWalkModel", "below", "J", false)
  | 30 => ("GateWalkModel", "time", "[I", true)
  | _ => ("GateWalkModel", "toldAt", "[I", true)
def tyX12 : Nat → FieldType := fun k => match k with
  | 0 => .int
  | 1 => .array .byte
  | 2 => .int
  | 3 => .array .int
  | 4 => .array .int
  | 5 => .array .int
  | 6 => .array .int
  | 7 => .array .int
  | 8 => .array .int
  | 9 => .int
  | 10 => .array .boolean
  | 11 => .array .boolean
  | 12 => .int
  | 13 => .array .int
  | 14 => .array .int
  | 15 => .array .int
  | 16 => .array .int
  | 17 => .int
  | 18 => .array .boolean
  | 19 => .array .int
  | 20 => .array .int
  | 21 => .array .int
  | 22 => .array .int
  | 23 => .array .int
  | 24 => .int
  | 25 => .int
  | 26 => .boolean
  | 27 => .int
  | 28 => .long
  | 29 => .long
  | 30 => .array .int
  | _ => .array .int
theorem nmX12 : ∀ a, a < 32 → ∀ b, b < 32 → a ≠ b → (TX12 a).2.1 ≠ (TX12 b).2.1 := by decide +kernel
theorem tyX12_ok : ∀ k, k < 32 → parseFieldDescriptor (TX12 k).2.2.1 = some (tyX12 k) := by decide +kernel
abbrev cX12_init : ByteArray := prog_14_method_1_code
def yX12_init : MethodName := ⟨RX12, "<init>", "()V"⟩
abbrev cX12_thrown : ByteArray := prog_14_method_2_code
def yX12_thrown : MethodName := ⟨RX12, "thrown", "()I"⟩
abbrev cX12_isIn : ByteArray := prog_14_method_3_code
def yX12_isIn : MethodName := ⟨RX12, "isIn", "(III)Z"⟩
abbrev cX12_isSignal : ByteArray := prog_14_method_4_code
def yX12_isSignal : MethodName := ⟨RX12, "isSignal", "(I)Z"⟩
abbrev cX12_isState : ByteArray := prog_14_method_5_code
def yX12_isState : MethodName := ⟨RX12, "isState", "(I)Z"⟩
abbrev cX12_bytesIn : ByteArray := prog_14_method_6_code
def yX12_bytesIn : MethodName := ⟨RX12, "bytesIn", "(I)I"⟩
abbrev cX12_put : ByteArray := prog_14_method_7_code
def yX12_put : MethodName := ⟨RX12, "put", "(I)V"⟩
abbrev cX12_feed : ByteArray := prog_14_method_8_code
def yX12_feed : MethodName := ⟨RX12, "feed", "(IIIII)I"⟩
abbrev cX12_end : ByteArray := prog_14_method_9_code
def yX12_end : MethodName := ⟨RX12, "end", "(I)Z"⟩
abbrev cX12_look : ByteArray := prog_14_method_10_code
def yX12_look : MethodName := ⟨RX12, "look", "()I"⟩
abbrev cX12_isLetter : ByteArray := prog_14_method_11_code
def yX12_isLetter : MethodName := ⟨RX12, "isLetter", "(I)Z"⟩
abbrev cX12_read : ByteArray := prog_14_method_12_code
def yX12_read : MethodName := ⟨RX12, "read", "()I"⟩
abbrev cX12_equation : ByteArray := prog_14_method_13_code
def yX12_equation : MethodName := ⟨RX12, "equation", "()Z"⟩
abbrev cX12_term : ByteArray := prog_14_method_14_code
def yX12_term : MethodName := ⟨RX12, "term", "(I)Z"⟩
abbrev cX12_fault : ByteArray := prog_14_method_15_code
def yX12_fault : MethodName := ⟨RX12, "fault", "()I"⟩
abbrev cX12_circuit : ByteArray := prog_14_method_16_code
def yX12_circuit : MethodName := ⟨RX12, "circuit", "(I)Z"⟩
abbrev cX12_arbiter : ByteArray := prog_14_method_17_code
def yX12_arbiter : MethodName := ⟨RX12, "arbiter", "(IIZ)Z"⟩
abbrev cX12_stuck : ByteArray := prog_14_method_18_code
def yX12_stuck : MethodName := ⟨RX12, "stuck", "(IZ)Z"⟩
abbrev cX12_askedIn : ByteArray := prog_14_method_19_code
def yX12_askedIn : MethodName := ⟨RX12, "askedIn", "(I)I"⟩
abbrev cX12_asked : ByteArray := prog_14_method_20_code
def yX12_asked : MethodName := ⟨RX12, "asked", "(I)I"⟩
abbrev cX12_walks : ByteArray := prog_14_method_21_code
def yX12_walks : MethodName := ⟨RX12, "walks", "()V"⟩
abbrev cX12_states : ByteArray := prog_14_method_22_code
def yX12_states : MethodName := ⟨RX12, "states", "()I"⟩
abbrev cX12_state : ByteArray := prog_14_method_23_code
def yX12_state : MethodName := ⟨RX12, "state", "(I)I"⟩
abbrev cX12_place : ByteArray := prog_14_method_24_code
def yX12_place : MethodName := ⟨RX12, "place", "(I)I"⟩
abbrev cX12_hazardOf : ByteArray := prog_14_method_25_code
def yX12_hazardOf : MethodName := ⟨RX12, "hazardOf", "(II)I"⟩
abbrev cX12_hazard : ByteArray := prog_14_method_26_code
def yX12_hazard : MethodName := ⟨RX12, "hazard", "(II)I"⟩
abbrev cX12_stopOf : ByteArray := prog_14_method_27_code
def yX12_stopOf : MethodName := ⟨RX12, "stopOf", "(I)I"⟩
abbrev cX12_stop : ByteArray := prog_14_method_28_code
def yX12_stop : MethodName := ⟨RX12, "stop", "(I)I"⟩
abbrev cX12_wayLong : ByteArray := prog_14_method_29_code
def yX12_wayLong : MethodName := ⟨RX12, "wayLong", "(I)I"⟩
abbrev cX12_way : ByteArray := prog_14_method_30_code
def yX12_way : MethodName := ⟨RX12, "way", "(I)I"⟩
abbrev cX12_change : ByteArray := prog_14_method_31_code
def yX12_change : MethodName := ⟨RX12, "change", "(II)I"⟩
abbrev cX12_live : ByteArray := prog_14_method_32_code
def yX12_live : MethodName := ⟨RX12, "live", "(I)I"⟩
abbrev cX12_both : ByteArray := prog_14_method_33_code
def yX12_both : MethodName := ⟨RX12, "both", "(I)I"⟩
abbrev cX12_runs : ByteArray := prog_14_method_34_code
def yX12_runs : MethodName := ⟨RX12, "runs", "(IJ)I"⟩
abbrev cX12_run : ByteArray := prog_14_method_35_code
def yX12_run : MethodName := ⟨RX12, "run", "(IJ)I"⟩
abbrev cX12_changed : ByteArray := prog_14_method_36_code
def yX12_changed : MethodName := ⟨RX12, "changed", "(IJI)I"⟩
abbrev cX12_node : ByteArray := prog_14_method_37_code
def yX12_node : MethodName := ⟨RX12, "node", "(I)I"⟩
abbrev cX12_arc : ByteArray := prog_14_method_38_code
def yX12_arc : MethodName := ⟨RX12, "arc", "(III)I"⟩
abbrev cX12_tokens : ByteArray := prog_14_method_39_code
def yX12_tokens : MethodName := ⟨RX12, "tokens", "(II)Z"⟩
abbrev cX12_clear : ByteArray := prog_14_method_40_code
def yX12_clear : MethodName := ⟨RX12, "clear", "()V"⟩
abbrev cX12_round : ByteArray := prog_14_method_41_code
def yX12_round : MethodName := ⟨RX12, "round", "(IIIII)V"⟩
abbrev cX12_ring : ByteArray := prog_14_method_42_code
def yX12_ring : MethodName := ⟨RX12, "ring", "(II)V"⟩
abbrev cX12_goRound : ByteArray := prog_14_method_43_code
def yX12_goRound : MethodName := ⟨RX12, "goRound", "()V"⟩
abbrev cX12_dead : ByteArray := prog_14_method_44_code
def yX12_dead : MethodName := ⟨RX12, "dead", "()I"⟩
abbrev cX12_turn : ByteArray := prog_14_method_45_code
def yX12_turn : MethodName := ⟨RX12, "turn", "(I)J"⟩
abbrev cX12_times : ByteArray := prog_14_method_46_code
def yX12_times : MethodName := ⟨RX12, "times", "(I)V"⟩
abbrev cX12_time : ByteArray := prog_14_method_47_code
def yX12_time : MethodName := ⟨RX12, "time", "(II)I"⟩
abbrev cX12_helps : ByteArray := prog_14_method_48_code
def yX12_helps : MethodName := ⟨RX12, "helps", "()I"⟩
abbrev cX12_count : ByteArray := prog_14_method_49_code
def yX12_count : MethodName := ⟨RX12, "count", "(I)I"⟩
def RJ6 : String := "java/lang/Integer"
def TJ6 : u_T := fun k => match k with
  | _ => ("", "", "", false)
def tyJ6 : Nat → FieldType := fun k => match k with
  | _ => .int
abbrev cJ6_bitCount_0f7a4 : ByteArray := prog_16_method_49_code
def yJ6_bitCount_0f7a4 : MethodName := ⟨RJ6, "bitCount", "(I)I"⟩
def RJ9 : String := "java/lang/Math"
def TJ9 : u_T := fun k => match k with
  | _ => ("", "", "", false)
def tyJ9 : Nat → FieldType := fun k => match k with
  | _ => .int
abbrev cJ9_max_7cf53 : ByteArray := prog_17_method_65_code
def yJ9_max_7cf53 : MethodName := ⟨RJ9, "max", "(II)I"⟩
def RJ0 : String := "java/lang/String"
def TJ0 : u_T := fun k => match k with
  | _ => ("", "", "", false)
def tyJ0 : Nat → FieldType := fun k => match k with
  | _ => .int
def RJ7 : String := "java/util/Arrays"
def TJ7 : u_T := fun k => match k with
  | _ => ("", "", "", false)
def tyJ7 : Nat → FieldType := fun k => match k with
  | _ => .int
abbrev cJ7_fill_53178 : ByteArray := prog_21_method_103_code
def yJ7_fill_53178 : MethodName := ⟨RJ7, "fill", "([II)V"⟩
def RL : String := "GateWalkLaw"
abbrev cL_time : ByteArray := method_3_code
def yL_time : MethodName := ⟨RL, "time", "(LGateWalk;II[J)I"⟩
abbrev cL_law : ByteArray := code
def yL_law : MethodName := ⟨RL, "law", "([I)Z"⟩
end
section
theorem dX0_init_0 : decode cX0_init 0 = .ok (.aload_n 0, 1) := by decide +kernel
theorem dX0_init_1 : decode cX0_init 1 = .ok (.invokespecial 3, 3) := by decide +kernel
theorem dX0_init_4 : decode cX0_init 4 = .ok (.aload_n 0, 1) := by decide +kernel
theorem dX0_init_5 : decode cX0_init 5 = .ok (.sipush 4096, 3) := by decide +kernel
theorem dX0_init_8 : decode cX0_init 8 = .ok (.newarray .int, 2) := by decide +kernel
theorem dX0_init_10 : decode cX0_init 10 = .ok (.putfield 9, 3) := by decide +kernel
theorem dX0_init_13 : decode cX0_init 13 = .ok (.aload_n 0, 1) := by decide +kernel
theorem dX0_init_14 : decode cX0_init 14 = .ok (.bipush 12, 2) := by decide +kernel
theorem dX0_init_16 : decode cX0_init 16 = .ok (.newarray .int, 2) := by decide +kernel
theorem dX0_init_18 : decode cX0_init 18 = .ok (.putfield 15, 3) := by decide +kernel
theorem dX0_init_21 : decode cX0_init 21 = .ok (.aload_n 0, 1) := by decide +kernel
theorem dX0_init_22 : decode cX0_init 22 = .ok (.new 18, 3) := by decide +kernel
theorem dX0_init_25 : decode cX0_init 25 = .ok (.dup, 1) := by decide +kernel
theorem dX0_init_26 : decode cX0_init 26 = .ok (.invokespecial 20, 3) := by decide +kernel
theorem dX0_init_29 : decode cX0_init 29 = .ok (.putfield 21, 3) := by decide +kernel
theorem dX0_init_32 : decode cX0_init 32 = .ok (.aload_n 0, 1) := by decide +kernel
theorem dX0_init_33 : decode cX0_init 33 = .ok (.getfield 9, 3) := by decide +kernel
theorem dX0_init_36 : decode cX0_init 36 = .ok (.iconst (-1), 1) := by decide +kernel
theorem dX0_init_37 : decode cX0_init 37 = .ok (.invokestatic 25, 3) := by decide +kernel
theorem dX0_init_40 : decode cX0_init 40 = .ok (.return_, 1) := by decide +kernel
theorem dX0_begin_0 : decode cX0_begin 0 = .ok (.aload_n 0, 1) := by decide +kernel
theorem dX0_begin_1 : decode cX0_begin 1 = .ok (.getfield 21, 3) := by decide +kernel
theorem dX0_begin_4 : decode cX0_begin 4 = .ok (.astore_n 3, 1) := by decide +kernel
theorem dX0_begin_5 : decode cX0_begin 5 = .ok (.aload_n 0, 1) := by decide +kernel
theorem dX0_begin_6 : decode cX0_begin 6 = .ok (.aload_n 1, 1) := by decide +kernel
theorem dX0_begin_7 : decode cX0_begin 7 = .ok (.putfield 21, 3) := by decide +kernel
theorem dX0_begin_10 : decode cX0_begin 10 = .ok (.aload_n 0, 1) := by decide +kernel
theorem dX0_begin_11 : decode cX0_begin 11 = .ok (.iload_n 2, 1) := by decide +kernel
theorem dX0_begin_12 : decode cX0_begin 12 = .ok (.putfield 31, 3) := by decide +kernel
theorem dX0_begin_15 : decode cX0_begin 15 = .ok (.aload_n 0, 1) := by decide +kernel
theorem dX0_begin_16 : decode cX0_begin 16 = .ok (.iconst 0, 1) := by decide +kernel
theorem dX0_begin_17 : decode cX0_begin 17 = .ok (.putfield 35, 3) := by decide +kernel
theorem dX0_begin_20 : decode cX0_begin 20 = .ok (.aload_n 0, 1) := by decide +kernel
theorem dX0_begin_21 : decode cX0_begin 21 = .ok (.getfield 9, 3) := by decide +kernel
theorem dX0_begin_24 : decode cX0_begin 24 = .ok (.iconst (-1), 1) := by decide +kernel
theorem dX0_begin_25 : decode cX0_begin 25 = .ok (.invokestatic 25, 3) := by decide +kernel
theorem dX0_begin_28 : decode cX0_begin 28 = .ok (.aload_n 0, 1) := by decide +kernel
theorem dX0_begin_29 : decode cX0_begin 29 = .ok (.getfield 15, 3) := by decide +kernel
theorem dX0_begin_32 : decode cX0_begin 32 = .ok (.iconst 0, 1) := by decide +kernel
theorem dX0_begin_33 : decode cX0_begin 33 = .ok (.invokestatic 25, 3) := by decide +kernel
theorem dX0_begin_36 : decode cX0_begin 36 = .ok (.aload_n 3, 1) := by decide +kernel
theorem dX0_begin_37 : decode cX0_begin 37 = .ok (.areturn, 1) := by decide +kernel
theorem dX0_equations_0 : decode cX0_equations 0 = .ok (.aload_n 0, 1) := by decide +kernel
theorem dX0_equations_1 : decode cX0_equations 1 = .ok (.getfield 21, 3) := by decide +kernel
theorem dX0_equations_4 : decode cX0_equations 4 = .ok (.invokevirtual 38, 3) := by decide +kernel
theorem dX0_equations_7 : decode cX0_equations 7 = .ok (.invokestatic 42, 3) := by decide +kernel
theorem dX0_equations_10 : decode cX0_equations 10 = .ok (.ireturn, 1) := by decide +kernel
theorem dX0_terms_0 : decode cX0_terms 0 = .ok (.aload_n 0, 1) := by decide +kernel
theorem dX0_terms_1 : decode cX0_terms 1 = .ok (.getfield 21, 3) := by decide +kernel
theorem dX0_terms_4 : decode cX0_terms 4 = .ok (.invokevirtual 48, 3) := by decide +kernel
theorem dX0_terms_7 : decode cX0_terms 7 = .ok (.ireturn, 1) := by decide +kernel
theorem dX0_resetState_0 : decode cX0_resetState 0 = .ok (.aload_n 0, 1) := by decide +kernel
theorem dX0_resetState_1 : decode cX0_resetState 1 = .ok (.getfield 31, 3) := by decide +kernel
theorem dX0_resetState_4 : decode cX0_resetState 4 = .ok (.ireturn, 1) := by decide +kernel
theorem dX0_isPair_0 : decode cX0_isPair 0 = .ok (.aload_n 0, 1) := by decide +kernel
theorem dX0_isPair_1 : decode cX0_isPair 1 = .ok (.getfield 15, 3) := by decide +kernel
theorem dX0_isPair_4 : decode cX0_isPair 4 = .ok (.iload_n 1, 1) := by decide +kernel
theorem dX0_isPair_5 : decode cX0_isPair 5 = .ok (.iaload, 1) := by decide +kernel
theorem dX0_isPair_6 : decode cX0_isPair 6 = .ok (.iload_n 2, 1) := by decide +kernel
theorem dX0_isPair_7 : decode cX0_isPair 7 = .ok (.invokestatic 51, 3) := by decide +kernel
theorem dX0_isPair_10 : decode cX0_isPair 10 = .ok (.ireturn, 1) := by decide +kernel
theorem dX0_turnPair_0 : decode cX0_turnPair 0 = .ok (.aload_n 0, 1) := by decide +kernel
theorem dX0_turnPair_1 : decode cX0_turnPair 1 = .ok (.getfield 15, 3) := by decide +kernel
theorem dX0_turnPair_4 : decode cX0_turnPair 4 = .ok (.iload_n 1, 1) := by decide +kernel
theorem dX0_turnPair_5 : decode cX0_turnPair 5 = .ok (.dup2, 1) := by decide +kernel
theorem dX0_turnPair_6 : decode cX0_turnPair 6 = .ok (.iaload, 1) := by decide +kernel
theorem dX0_turnPair_7 : decode cX0_turnPair 7 = .ok (.iconst 1, 1) := by decide +kernel
theorem dX0_turnPair_8 : decode cX0_turnPair 8 = .ok (.iload_n 2, 1) := by decide +kernel
theorem dX0_turnPair_9 : decode cX0_turnPair 9 = .ok (.ishl, 1) := by decide +kernel
theorem dX0_turnPair_10 : decode cX0_turnPair 10 = .ok (.ixor, 1) := by decide +kernel
theorem dX0_turnPair_11 : decode cX0_turnPair 11 = .ok (.iastore, 1) := by decide +kernel
theorem dX0_turnPair_12 : decode cX0_turnPair 12 = .ok (.aload_n 0, 1) := by decide +kernel
theorem dX0_turnPair_13 : decode cX0_turnPair 13 = .ok (.getfield 15, 3) := by decide +kernel
theorem dX0_turnPair_16 : decode cX0_turnPair 16 = .ok (.iload_n 2, 1) := by decide +kernel
theorem dX0_turnPair_17 : decode cX0_turnPair 17 = .ok (.dup2, 1) := by decide +kernel
theorem dX0_turnPair_18 : decode cX0_turnPair 18 = .ok (.iaload, 1) := by decide +kernel
theorem dX0_turnPair_19 : decode cX0_turnPair 19 = .ok (.iconst 1, 1) := by decide +kernel
theorem dX0_turnPair_20 : decode cX0_turnPair 20 = .ok (.iload_n 1, 1) := by decide +kernel
theorem dX0_turnPair_21 : decode cX0_turnPair 21 = .ok (.ishl, 1) := by decide +kernel
theorem dX0_turnPair_22 : decode cX0_turnPair 22 = .ok (.ixor, 1) := by decide +kernel
theorem dX0_turnPair_23 : decode cX0_turnPair 23 = .ok (.iastore, 1) := by decide +kernel
theorem dX0_turnPair_24 : decode cX0_turnPair 24 = .ok (.return_, 1) := by decide +kernel
theorem dX0_isStuck_0 : decode cX0_isStuck 0 = .ok (.aload_n 0, 1) := by decide +kernel
theorem dX0_isStuck_1 : decode cX0_isStuck 1 = .ok (.getfield 35, 3) := by decide +kernel
theorem dX0_isStuck_4 : decode cX0_isStuck 4 = .ok (.iload_n 1, 1) := by decide +kernel
theorem dX0_isStuck_5 : decode cX0_isStuck 5 = .ok (.invokestatic 51, 3) := by decide +kernel
theorem dX0_isStuck_8 : decode cX0_isStuck 8 = .ok (.ireturn, 1) := by decide +kernel
theorem dX0_turnStuck_0 : decode cX0_turnStuck 0 = .ok (.aload_n 0, 1) := by decide +kernel
theorem dX0_turnStuck_1 : decode cX0_turnStuck 1 = .ok (.dup, 1) := by decide +kernel
theorem dX0_turnStuck_2 : decode cX0_turnStuck 2 = .ok (.getfield 35, 3) := by decide +kernel
theorem dX0_turnStuck_5 : decode cX0_turnStuck 5 = .ok (.iconst 1, 1) := by decide +kernel
theorem dX0_turnStuck_6 : decode cX0_turnStuck 6 = .ok (.iload_n 1, 1) := by decide +kernel
theorem dX0_turnStuck_7 : decode cX0_turnStuck 7 = .ok (.ishl, 1) := by decide +kernel
theorem dX0_turnStuck_8 : decode cX0_turnStuck 8 = .ok (.ixor, 1) := by decide +kernel
theorem dX0_turnStuck_9 : decode cX0_turnStuck 9 = .ok (.putfield 35, 3) := by decide +kernel
theorem dX0_turnStuck_12 : decode cX0_turnStuck 12 = .ok (.return_, 1) := by decide +kernel
theorem dX0_askedIn_0 : decode cX0_askedIn 0 = .ok (.aload_n 0, 1) := by decide +kernel
theorem dX0_askedIn_1 : decode cX0_askedIn 1 = .ok (.getfield 9, 3) := by decide +kernel
theorem dX0_askedIn_4 : decode cX0_askedIn 4 = .ok (.iload_n 1, 1) := by decide +kernel
theorem dX0_askedIn_5 : decode cX0_askedIn 5 = .ok (.iaload, 1) := by decide +kernel
theorem dX0_askedIn_6 : decode cX0_askedIn 6 = .ok (.iconst (-1), 1) := by decide +kernel
theorem dX0_askedIn_7 : decode cX0_askedIn 7 = .ok (.if_icmp .ne 17, 3) := by decide +kernel
theorem dX0_askedIn_10 : decode cX0_askedIn 10 = .ok (.aload_n 0, 1) := by decide +kernel
theorem dX0_askedIn_11 : decode cX0_askedIn 11 = .ok (.getfield 9, 3) := by decide +kernel
theorem dX0_askedIn_14 : decode cX0_askedIn 14 = .ok (.iload_n 1, 1) := by decide +kernel
theorem dX0_askedIn_15 : decode cX0_askedIn 15 = .ok (.aload_n 0, 1) := by decide +kernel
theorem dX0_askedIn_16 : decode cX0_askedIn 16 = .ok (.getfield 21, 3) := by decide +kernel
theorem dX0_askedIn_19 : decode cX0_askedIn 19 = .ok (.iload_n 1, 1) := by decide +kernel
theorem dX0_askedIn_20 : decode cX0_askedIn 20 = .ok (.invokevirtual 55, 3) := by decide +kernel
theorem dX0_askedIn_23 : decode cX0_askedIn 23 = .ok (.iastore, 1) := by decide +kernel
theorem dX0_askedIn_24 : decode cX0_askedIn 24 = .ok (.aload_n 0, 1) := by decide +kernel
theorem dX0_askedIn_25 : decode cX0_askedIn 25 = .ok (.getfield 9, 3) := by decide +kernel
theorem dX0_askedIn_28 : decode cX0_askedIn 28 = .ok (.iload_n 1, 1) := by decide +kernel
theorem dX0_askedIn_29 : decode cX0_askedIn 29 = .ok (.iaload, 1) := by decide +kernel
theorem dX0_askedIn_30 : decode cX0_askedIn 30 = .ok (.iload_n 1, 1) := by decide +kernel
theorem dX0_askedIn_31 : decode cX0_askedIn 31 = .ok (.ixor, 1) := by decide +kernel
theorem dX0_askedIn_32 : decode cX0_askedIn 32 = .ok (.aload_n 0, 1) := by decide +kernel
theorem dX0_askedIn_33 : decode cX0_askedIn 33 = .ok (.getfield 21, 3) := by decide +kernel
theorem dX0_askedIn_36 : decode cX0_askedIn 36 = .ok (.invokevirtual 38, 3) := by decide +kernel
theorem dX0_askedIn_39 : decode cX0_askedIn 39 = .ok (.iand, 1) := by decide +kernel
theorem dX0_askedIn_40 : decode cX0_askedIn 40 = .ok (.aload_n 0, 1) := by decide +kernel
theorem dX0_askedIn_41 : decode cX0_askedIn 41 = .ok (.getfield 35, 3) := by decide +kernel
theorem dX0_askedIn_44 : decode cX0_askedIn 44 = .ok (.iconst (-1), 1) := by decide +kernel
theorem dX0_askedIn_45 : decode cX0_askedIn 45 = .ok (.ixor, 1) := by decide +kernel
theorem dX0_askedIn_46 : decode cX0_askedIn 46 = .ok (.iand, 1) := by decide +kernel
theorem dX0_askedIn_47 : decode cX0_askedIn 47 = .ok (.ireturn, 1) := by decide +kernel
theorem dX0_takenBackBy_0 : decode cX0_takenBackBy 0 = .ok (.aload_n 0, 1) := by decide +kernel
theorem dX0_takenBackBy_1 : decode cX0_takenBackBy 1 = .ok (.iload_n 2, 1) := by decide +kernel
theorem dX0_takenBackBy_2 : decode cX0_takenBackBy 2 = .ok (.invokevirtual 58, 3) := by decide +kernel
theorem dX0_takenBackBy_5 : decode cX0_takenBackBy 5 = .ok (.iconst 1, 1) := by decide +kernel
theorem dX0_takenBackBy_6 : decode cX0_takenBackBy 6 = .ok (.iload_n 1, 1) := by decide +kernel
theorem dX0_takenBackBy_7 : decode cX0_takenBackBy 7 = .ok (.ishl, 1) := by decide +kernel
theorem dX0_takenBackBy_8 : decode cX0_takenBackBy 8 = .ok (.iconst (-1), 1) := by decide +kernel
theorem dX0_takenBackBy_9 : decode cX0_takenBackBy 9 = .ok (.ixor, 1) := by decide +kernel
theorem dX0_takenBackBy_10 : decode cX0_takenBackBy 10 = .ok (.iand, 1) := by decide +kernel
theorem dX0_takenBackBy_11 : decode cX0_takenBackBy 11 = .ok (.aload_n 0, 1) := by decide +kernel
theorem dX0_takenBackBy_12 : decode cX0_takenBackBy 12 = .ok (.getfield 15, 3) := by decide +kernel
theorem dX0_takenBackBy_15 : decode cX0_takenBackBy 15 = .ok (.iload_n 1, 1) := by decide +kernel
theorem dX0_takenBackBy_16 : decode cX0_takenBackBy 16 = .ok (.iaload, 1) := by decide +kernel
theorem dX0_takenBackBy_17 : decode cX0_takenBackBy 17 = .ok (.iconst (-1), 1) := by decide +kernel
theorem dX0_takenBackBy_18 : decode cX0_takenBackBy 18 = .ok (.ixor, 1) := by decide +kernel
theorem dX0_takenBackBy_19 : decode cX0_takenBackBy 19 = .ok (.iand, 1) := by decide +kernel
theorem dX0_takenBackBy_20 : decode cX0_takenBackBy 20 = .ok (.istore_n 3, 1) := by decide +kernel
theorem dX0_takenBackBy_21 : decode cX0_takenBackBy 21 = .ok (.iload_n 3, 1) := by decide +kernel
theorem dX0_takenBackBy_22 : decode cX0_takenBackBy 22 = .ok (.aload_n 0, 1) := by decide +kernel
theorem dX0_takenBackBy_23 : decode cX0_takenBackBy 23 = .ok (.iload_n 2, 1) := by decide +kernel
theorem dX0_takenBackBy_24 : decode cX0_takenBackBy 24 = .ok (.iconst 1, 1) := by decide +kernel
theorem dX0_takenBackBy_25 : decode cX0_takenBackBy 25 = .ok (.iload_n 1, 1) := by decide +kernel
theorem dX0_takenBackBy_26 : decode cX0_takenBackBy 26 = .ok (.ishl, 1) := by decide +kernel
theorem dX0_takenBackBy_27 : decode cX0_takenBackBy 27 = .ok (.ixor, 1) := by decide +kernel
theorem dX0_takenBackBy_28 : decode cX0_takenBackBy 28 = .ok (.invokevirtual 58, 3) := by decide +kernel
theorem dX0_takenBackBy_31 : decode cX0_takenBackBy 31 = .ok (.iconst (-1), 1) := by decide +kernel
theorem dX0_takenBackBy_32 : decode cX0_takenBackBy 32 = .ok (.ixor, 1) := by decide +kernel
theorem dX0_takenBackBy_33 : decode cX0_takenBackBy 33 = .ok (.iand, 1) := by decide +kernel
theorem dX0_takenBackBy_34 : decode cX0_takenBackBy 34 = .ok (.ireturn, 1) := by decide +kernel
theorem dX0_runByLots_0 : decode cX0_runByLots 0 = .ok (.aload 4, 2) := by decide +kernel
theorem dX0_runByLots_2 : decode cX0_runByLots 2 = .ok (.iconst 0, 1) := by decide +kernel
theorem dX0_runByLots_3 : decode cX0_runByLots 3 = .ok (.invokestatic 25, 3) := by decide +kernel
theorem dX0_runByLots_6 : decode cX0_runByLots 6 = .ok (.aload_n 0, 1) := by decide +kernel
theorem dX0_runByLots_7 : decode cX0_runByLots 7 = .ok (.getfield 31, 3) := by decide +kernel
theorem dX0_runByLots_10 : decode cX0_runByLots 10 = .ok (.istore 5, 2) := by decide +kernel
theorem dX0_runByLots_12 : decode cX0_runByLots 12 = .ok (.lload_n 2, 1) := by decide +kernel
theorem dX0_runByLots_13 : decode cX0_runByLots 13 = .ok (.lstore 6, 2) := by decide +kernel
theorem dX0_runByLots_15 : decode cX0_runByLots 15 = .ok (.iconst 0, 1) := by decide +kernel
theorem dX0_runByLots_16 : decode cX0_runByLots 16 = .ok (.istore 8, 2) := by decide +kernel
theorem dX0_runByLots_18 : decode cX0_runByLots 18 = .ok (.iload 8, 2) := by decide +kernel
theorem dX0_runByLots_20 : decode cX0_runByLots 20 = .ok (.iload_n 1, 1) := by decide +kernel
theorem dX0_runByLots_21 : decode cX0_runByLots 21 = .ok (.if_icmp .ge 79, 3) := by decide +kernel
theorem dX0_runByLots_24 : decode cX0_runByLots 24 = .ok (.aload_n 0, 1) := by decide +kernel
theorem dX0_runByLots_25 : decode cX0_runByLots 25 = .ok (.iload 5, 2) := by decide +kernel
theorem dX0_runByLots_27 : decode cX0_runByLots 27 = .ok (.invokevirtual 58, 3) := by decide +kernel
theorem dX0_runByLots_30 : decode cX0_runByLots 30 = .ok (.istore 9, 2) := by decide +kernel
theorem dX0_runByLots_32 : decode cX0_runByLots 32 = .ok (.iload 9, 2) := by decide +kernel
theorem dX0_runByLots_34 : decode cX0_runByLots 34 = .ok (.invokestatic 42, 3) := by decide +kernel
theorem dX0_runByLots_37 : decode cX0_runByLots 37 = .ok (.istore 10, 2) := by decide +kernel
theorem dX0_runByLots_39 : decode cX0_runByLots 39 = .ok (.iload 10, 2) := by decide +kernel
theorem dX0_runByLots_41 : decode cX0_runByLots 41 = .ok (.ifCond .ne 6, 3) := by decide +kernel
theorem dX0_runByLots_44 : decode cX0_runByLots 44 = .ok (.goto 56, 3) := by decide +kernel
theorem dX0_runByLots_47 : decode cX0_runByLots 47 = .ok (.lload 6, 2) := by decide +kernel
theorem dX0_runByLots_49 : decode cX0_runByLots 49 = .ok (.ldc2_w 61, 3) := by decide +kernel
theorem dX0_runByLots_52 : decode cX0_runByLots 52 = .ok (.lmul, 1) := by decide +kernel
theorem dX0_runByLots_53 : decode cX0_runByLots 53 = .ok (.ldc2_w 63, 3) := by decide +kernel
theorem dX0_runByLots_56 : decode cX0_runByLots 56 = .ok (.ladd, 1) := by decide +kernel
theorem dX0_runByLots_57 : decode cX0_runByLots 57 = .ok (.lstore 6, 2) := by decide +kernel
theorem dX0_runByLots_59 : decode cX0_runByLots 59 = .ok (.iload 9, 2) := by decide +kernel
theorem dX0_runByLots_61 : decode cX0_runByLots 61 = .ok (.lload 6, 2) := by decide +kernel
theorem dX0_runByLots_63 : decode cX0_runByLots 63 = .ok (.bipush 33, 2) := by decide +kernel
theorem dX0_runByLots_65 : decode cX0_runByLots 65 = .ok (.lushr, 1) := by decide +kernel
theorem dX0_runByLots_66 : decode cX0_runByLots 66 = .ok (.iload 10, 2) := by decide +kernel
theorem dX0_runByLots_68 : decode cX0_runByLots 68 = .ok (.i2l, 1) := by decide +kernel
theorem dX0_runByLots_69 : decode cX0_runByLots 69 = .ok (.lrem, 1) := by decide +kernel
theorem dX0_runByLots_70 : decode cX0_runByLots 70 = .ok (.l2i, 1) := by decide +kernel
theorem dX0_runByLots_71 : decode cX0_runByLots 71 = .ok (.invokestatic 65, 3) := by decide +kernel
theorem dX0_runByLots_74 : decode cX0_runByLots 74 = .ok (.istore 11, 2) := by decide +kernel
theorem dX0_runByLots_76 : decode cX0_runByLots 76 = .ok (.iload 5, 2) := by decide +kernel
theorem dX0_runByLots_78 : decode cX0_runByLots 78 = .ok (.iconst 1, 1) := by decide +kernel
theorem dX0_runByLots_79 : decode cX0_runByLots 79 = .ok (.iload 11, 2) := by decide +kernel
theorem dX0_runByLots_81 : decode cX0_runByLots 81 = .ok (.ishl, 1) := by decide +kernel
theorem dX0_runByLots_82 : decode cX0_runByLots 82 = .ok (.ixor, 1) := by decide +kernel
theorem dX0_runByLots_83 : decode cX0_runByLots 83 = .ok (.istore 5, 2) := by decide +kernel
theorem dX0_runByLots_85 : decode cX0_runByLots 85 = .ok (.aload 4, 2) := by decide +kernel
theorem dX0_runByLots_87 : decode cX0_runByLots 87 = .ok (.iload 11, 2) := by decide +kernel
theorem dX0_runByLots_89 : decode cX0_runByLots 89 = .ok (.dup2, 1) := by decide +kernel
theorem dX0_runByLots_90 : decode cX0_runByLots 90 = .ok (.iaload, 1) := by decide +kernel
theorem dX0_runByLots_91 : decode cX0_runByLots 91 = .ok (.iconst 1, 1) := by decide +kernel
theorem dX0_runByLots_92 : decode cX0_runByLots 92 = .ok (.iadd, 1) := by decide +kernel
theorem dX0_runByLots_93 : decode cX0_runByLots 93 = .ok (.iastore, 1) := by decide +kernel
theorem dX0_runByLots_94 : decode cX0_runByLots 94 = .ok (.iinc 8 1, 3) := by decide +kernel
theorem dX0_runByLots_97 : decode cX0_runByLots 97 = .ok (.goto (-79), 3) := by decide +kernel
theorem dX0_runByLots_100 : decode cX0_runByLots 100 = .ok (.iload 5, 2) := by decide +kernel
theorem dX0_runByLots_102 : decode cX0_runByLots 102 = .ok (.ireturn, 1) := by decide +kernel
theorem dX0_signalInPlace_0 : decode cX0_signalInPlace 0 = .ok (.iconst 0, 1) := by decide +kernel
theorem dX0_signalInPlace_1 : decode cX0_signalInPlace 1 = .ok (.istore_n 2, 1) := by decide +kernel
theorem dX0_signalInPlace_2 : decode cX0_signalInPlace 2 = .ok (.iconst 0, 1) := by decide +kernel
theorem dX0_signalInPlace_3 : decode cX0_signalInPlace 3 = .ok (.istore_n 3, 1) := by decide +kernel
theorem dX0_signalInPlace_4 : decode cX0_signalInPlace 4 = .ok (.iload_n 3, 1) := by decide +kernel
theorem dX0_signalInPlace_5 : decode cX0_signalInPlace 5 = .ok (.bipush 12, 2) := by decide +kernel
theorem dX0_signalInPlace_7 : decode cX0_signalInPlace 7 = .ok (.if_icmp .ge 27, 3) := by decide +kernel
theorem dX0_signalInPlace_10 : decode cX0_signalInPlace 10 = .ok (.iload_n 0, 1) := by decide +kernel
theorem dX0_signalInPlace_11 : decode cX0_signalInPlace 11 = .ok (.iload_n 3, 1) := by decide +kernel
theorem dX0_signalInPlace_12 : decode cX0_signalInPlace 12 = .ok (.invokestatic 51, 3) := by decide +kernel
theorem dX0_signalInPlace_15 : decode cX0_signalInPlace 15 = .ok (.ifCond .eq 13, 3) := by decide +kernel
theorem dX0_signalInPlace_18 : decode cX0_signalInPlace 18 = .ok (.iload_n 2, 1) := by decide +kernel
theorem dX0_signalInPlace_19 : decode cX0_signalInPlace 19 = .ok (.iload_n 1, 1) := by decide +kernel
theorem dX0_signalInPlace_20 : decode cX0_signalInPlace 20 = .ok (.if_icmp .ne 5, 3) := by decide +kernel
theorem dX0_signalInPlace_23 : decode cX0_signalInPlace 23 = .ok (.iload_n 3, 1) := by decide +kernel
theorem dX0_signalInPlace_24 : decode cX0_signalInPlace 24 = .ok (.ireturn, 1) := by decide +kernel
theorem dX0_signalInPlace_25 : decode cX0_signalInPlace 25 = .ok (.iinc 2 1, 3) := by decide +kernel
theorem dX0_signalInPlace_28 : decode cX0_signalInPlace 28 = .ok (.iinc 3 1, 3) := by decide +kernel
theorem dX0_signalInPlace_31 : decode cX0_signalInPlace 31 = .ok (.goto (-27), 3) := by decide +kernel
theorem dX0_signalInPlace_34 : decode cX0_signalInPlace 34 = .ok (.iconst 0, 1) := by decide +kernel
theorem dX0_signalInPlace_35 : decode cX0_signalInPlace 35 = .ok (.ireturn, 1) := by decide +kernel
theorem dX1_init_0 : decode cX1_init 0 = .ok (.aload_n 0, 1) := by decide +kernel
theorem dX1_init_1 : decode cX1_init 1 = .ok (.invokespecial 3, 3) := by decide +kernel
theorem dX1_init_4 : decode cX1_init 4 = .ok (.aload_n 0, 1) := by decide +kernel
theorem dX1_init_5 : decode cX1_init 5 = .ok (.sipush 144, 3) := by decide +kernel
theorem dX1_init_8 : decode cX1_init 8 = .ok (.newarray .int, 2) := by decide +kernel
theorem dX1_init_10 : decode cX1_init 10 = .ok (.putfield 9, 3) := by decide +kernel
theorem dX1_init_13 : decode cX1_init 13 = .ok (.aload_n 0, 1) := by decide +kernel
theorem dX1_init_14 : decode cX1_init 14 = .ok (.sipush 144, 3) := by decide +kernel
theorem dX1_init_17 : decode cX1_init 17 = .ok (.newarray .int, 2) := by decide +kernel
theorem dX1_init_19 : decode cX1_init 19 = .ok (.putfield 15, 3) := by decide +kernel
theorem dX1_init_22 : decode cX1_init 22 = .ok (.aload_n 0, 1) := by decide +kernel
theorem dX1_init_23 : decode cX1_init 23 = .ok (.sipush 144, 3) := by decide +kernel
theorem dX1_init_26 : decode cX1_init 26 = .ok (.newarray .int, 2) := by decide +kernel
theorem dX1_init_28 : decode cX1_init 28 = .ok (.putfield 18, 3) := by decide +kernel
theorem dX1_init_31 : decode cX1_init 31 = .ok (.return_, 1) := by decide +kernel
theorem dX1_removeAll_0 : decode cX1_removeAll 0 = .ok (.aload_n 0, 1) := by decide +kernel
theorem dX1_removeAll_1 : decode cX1_removeAll 1 = .ok (.iconst 0, 1) := by decide +kernel
theorem dX1_removeAll_2 : decode cX1_removeAll 2 = .ok (.putfield 21, 3) := by decide +kernel
theorem dX1_removeAll_5 : decode cX1_removeAll 5 = .ok (.aload_n 0, 1) := by decide +kernel
theorem dX1_removeAll_6 : decode cX1_removeAll 6 = .ok (.iconst 0, 1) := by decide +kernel
theorem dX1_removeAll_7 : decode cX1_removeAll 7 = .ok (.putfield 25, 3) := by decide +kernel
theorem dX1_removeAll_10 : decode cX1_removeAll 10 = .ok (.return_, 1) := by decide +kernel
theorem dX1_has_0 : decode cX1_has 0 = .ok (.aload_n 0, 1) := by decide +kernel
theorem dX1_has_1 : decode cX1_has 1 = .ok (.getfield 25, 3) := by decide +kernel
theorem dX1_has_4 : decode cX1_has 4 = .ok (.iload_n 1, 1) := by decide +kernel
theorem dX1_has_5 : decode cX1_has 5 = .ok (.invokestatic 28, 3) := by decide +kernel
theorem dX1_has_8 : decode cX1_has 8 = .ok (.ireturn, 1) := by decide +kernel
theorem dX1_addEquation_0 : decode cX1_addEquation 0 = .ok (.aload_n 0, 1) := by decide +kernel
theorem dX1_addEquation_1 : decode cX1_addEquation 1 = .ok (.dup, 1) := by decide +kernel
theorem dX1_addEquation_2 : decode cX1_addEquation 2 = .ok (.getfield 25, 3) := by decide +kernel
theorem dX1_addEquation_5 : decode cX1_addEquation 5 = .ok (.iconst 1, 1) := by decide +kernel
theorem dX1_addEquation_6 : decode cX1_addEquation 6 = .ok (.iload_n 1, 1) := by decide +kernel
theorem dX1_addEquation_7 : decode cX1_addEquation 7 = .ok (.ishl, 1) := by decide +kernel
theorem dX1_addEquation_8 : decode cX1_addEquation 8 = .ok (.ior, 1) := by decide +kernel
theorem dX1_addEquation_9 : decode cX1_addEquation 9 = .ok (.putfield 25, 3) := by decide +kernel
theorem dX1_addEquation_12 : decode cX1_addEquation 12 = .ok (.return_, 1) := by decide +kernel
theorem dX1_addConstant_0 : decode cX1_addConstant 0 = .ok (.iload_n 2, 1) := by decide +kernel
theorem dX1_addConstant_1 : decode cX1_addConstant 1 = .ok (.ifCond .eq 7, 3) := by decide +kernel
theorem dX1_addConstant_4 : decode cX1_addConstant 4 = .ok (.iconst 0, 1) := by decide +kernel
theorem dX1_addConstant_5 : decode cX1_addConstant 5 = .ok (.goto 4, 3) := by decide +kernel
theorem dX1_addConstant_8 : decode cX1_addConstant 8 = .ok (.iconst 1, 1) := by decide +kernel
theorem dX1_addConstant_9 : decode cX1_addConstant 9 = .ok (.istore_n 3, 1) := by decide +kernel
theorem dX1_addConstant_10 : decode cX1_addConstant 10 = .ok (.aload_n 0, 1) := by decide +kernel
theorem dX1_addConstant_11 : decode cX1_addConstant 11 = .ok (.iload_n 1, 1) := by decide +kernel
theorem dX1_addConstant_12 : decode cX1_addConstant 12 = .ok (.iload_n 3, 1) := by decide +kernel
theorem dX1_addConstant_13 : decode cX1_addConstant 13 = .ok (.iload_n 3, 1) := by decide +kernel
theorem dX1_addConstant_14 : decode cX1_addConstant 14 = .ok (.invokevirtual 32, 3) := by decide +kernel
theorem dX1_addConstant_17 : decode cX1_addConstant 17 = .ok (.return_, 1) := by decide +kernel
theorem dX1_addTerm_0 : decode cX1_addTerm 0 = .ok (.aload_n 0, 1) := by decide +kernel
theorem dX1_addTerm_1 : decode cX1_addTerm 1 = .ok (.getfield 21, 3) := by decide +kernel
theorem dX1_addTerm_4 : decode cX1_addTerm 4 = .ok (.aload_n 0, 1) := by decide +kernel
theorem dX1_addTerm_5 : decode cX1_addTerm 5 = .ok (.getfield 9, 3) := by decide +kernel
theorem dX1_addTerm_8 : decode cX1_addTerm 8 = .ok (.arraylength, 1) := by decide +kernel
theorem dX1_addTerm_9 : decode cX1_addTerm 9 = .ok (.if_icmp .ge 43, 3) := by decide +kernel
theorem dX1_addTerm_12 : decode cX1_addTerm 12 = .ok (.aload_n 0, 1) := by decide +kernel
theorem dX1_addTerm_13 : decode cX1_addTerm 13 = .ok (.getfield 9, 3) := by decide +kernel
theorem dX1_addTerm_16 : decode cX1_addTerm 16 = .ok (.aload_n 0, 1) := by decide +kernel
theorem dX1_addTerm_17 : decode cX1_addTerm 17 = .ok (.getfield 21, 3) := by decide +kernel
theorem dX1_addTerm_20 : decode cX1_addTerm 20 = .ok (.iload_n 1, 1) := by decide +kernel
theorem dX1_addTerm_21 : decode cX1_addTerm 21 = .ok (.iastore, 1) := by decide +kernel
theorem dX1_addTerm_22 : decode cX1_addTerm 22 = .ok (.aload_n 0, 1) := by decide +kernel
theorem dX1_addTerm_23 : decode cX1_addTerm 23 = .ok (.getfield 15, 3) := by decide +kernel
theorem dX1_addTerm_26 : decode cX1_addTerm 26 = .ok (.aload_n 0, 1) := by decide +kernel
theorem dX1_addTerm_27 : decode cX1_addTerm 27 = .ok (.getfield 21, 3) := by decide +kernel
theorem dX1_addTerm_30 : decode cX1_addTerm 30 = .ok (.iload_n 2, 1) := by decide +kernel
theorem dX1_addTerm_31 : decode cX1_addTerm 31 = .ok (.iastore, 1) := by decide +kernel
theorem dX1_addTerm_32 : decode cX1_addTerm 32 = .ok (.aload_n 0, 1) := by decide +kernel
theorem dX1_addTerm_33 : decode cX1_addTerm 33 = .ok (.getfield 18, 3) := by decide +kernel
theorem dX1_addTerm_36 : decode cX1_addTerm 36 = .ok (.aload_n 0, 1) := by decide +kernel
theorem dX1_addTerm_37 : decode cX1_addTerm 37 = .ok (.getfield 21, 3) := by decide +kernel
theorem dX1_addTerm_40 : decode cX1_addTerm 40 = .ok (.iload_n 3, 1) := by decide +kernel
theorem dX1_addTerm_41 : decode cX1_addTerm 41 = .ok (.iastore, 1) := by decide +kernel
theorem dX1_addTerm_42 : decode cX1_addTerm 42 = .ok (.aload_n 0, 1) := by decide +kernel
theorem dX1_addTerm_43 : decode cX1_addTerm 43 = .ok (.dup, 1) := by decide +kernel
theorem dX1_addTerm_44 : decode cX1_addTerm 44 = .ok (.getfield 21, 3) := by decide +kernel
theorem dX1_addTerm_47 : decode cX1_addTerm 47 = .ok (.iconst 1, 1) := by decide +kernel
theorem dX1_addTerm_48 : decode cX1_addTerm 48 = .ok (.iadd, 1) := by decide +kernel
theorem dX1_addTerm_49 : decode cX1_addTerm 49 = .ok (.putfield 21, 3) := by decide +kernel
theorem dX1_addTerm_52 : decode cX1_addTerm 52 = .ok (.return_, 1) := by decide +kernel
theorem dX1_terms_0 : decode cX1_terms 0 = .ok (.aload_n 0, 1) := by decide +kernel
theorem dX1_terms_1 : decode cX1_terms 1 = .ok (.getfield 21, 3) := by decide +kernel
theorem dX1_terms_4 : decode cX1_terms 4 = .ok (.ireturn, 1) := by decide +kernel
theorem dX1_signals_0 : decode cX1_signals 0 = .ok (.aload_n 0, 1) := by decide +kernel
theorem dX1_signals_1 : decode cX1_signals 1 = .ok (.getfield 25, 3) := by decide +kernel
theorem dX1_signals_4 : decode cX1_signals 4 = .ok (.ireturn, 1) := by decide +kernel
theorem dX1_valuesIn_0 : decode cX1_valuesIn 0 = .ok (.iconst 0, 1) := by decide +kernel
theorem dX1_valuesIn_1 : decode cX1_valuesIn 1 = .ok (.istore_n 2, 1) := by decide +kernel
theorem dX1_valuesIn_2 : decode cX1_valuesIn 2 = .ok (.iconst 0, 1) := by decide +kernel
theorem dX1_valuesIn_3 : decode cX1_valuesIn 3 = .ok (.istore_n 3, 1) := by decide +kernel
theorem dX1_valuesIn_4 : decode cX1_valuesIn 4 = .ok (.iload_n 3, 1) := by decide +kernel
theorem dX1_valuesIn_5 : decode cX1_valuesIn 5 = .ok (.aload_n 0, 1) := by decide +kernel
theorem dX1_valuesIn_6 : decode cX1_valuesIn 6 = .ok (.getfield 21, 3) := by decide +kernel
theorem dX1_valuesIn_9 : decode cX1_valuesIn 9 = .ok (.if_icmp .ge 57, 3) := by decide +kernel
theorem dX1_valuesIn_12 : decode cX1_valuesIn 12 = .ok (.iload_n 3, 1) := by decide +kernel
theorem dX1_valuesIn_13 : decode cX1_valuesIn 13 = .ok (.aload_n 0, 1) := by decide +kernel
theorem dX1_valuesIn_14 : decode cX1_valuesIn 14 = .ok (.getfield 9, 3) := by decide +kernel
theorem dX1_valuesIn_17 : decode cX1_valuesIn 17 = .ok (.arraylength, 1) := by decide +kernel
theorem dX1_valuesIn_18 : decode cX1_valuesIn 18 = .ok (.if_icmp .ge 48, 3) := by decide +kernel
theorem dX1_valuesIn_21 : decode cX1_valuesIn 21 = .ok (.iload_n 1, 1) := by decide +kernel
theorem dX1_valuesIn_22 : decode cX1_valuesIn 22 = .ok (.aload_n 0, 1) := by decide +kernel
theorem dX1_valuesIn_23 : decode cX1_valuesIn 23 = .ok (.getfield 15, 3) := by decide +kernel
theorem dX1_valuesIn_26 : decode cX1_valuesIn 26 = .ok (.iload_n 3, 1) := by decide +kernel
theorem dX1_valuesIn_27 : decode cX1_valuesIn 27 = .ok (.iaload, 1) := by decide +kernel
theorem dX1_valuesIn_28 : decode cX1_valuesIn 28 = .ok (.iand, 1) := by decide +kernel
theorem dX1_valuesIn_29 : decode cX1_valuesIn 29 = .ok (.aload_n 0, 1) := by decide +kernel
theorem dX1_valuesIn_30 : decode cX1_valuesIn 30 = .ok (.getfield 15, 3) := by decide +kernel
theorem dX1_valuesIn_33 : decode cX1_valuesIn 33 = .ok (.iload_n 3, 1) := by decide +kernel
theorem dX1_valuesIn_34 : decode cX1_valuesIn 34 = .ok (.iaload, 1) := by decide +kernel
theorem dX1_valuesIn_35 : decode cX1_valuesIn 35 = .ok (.if_icmp .ne 25, 3) := by decide +kernel
theorem dX1_valuesIn_38 : decode cX1_valuesIn 38 = .ok (.iload_n 1, 1) := by decide +kernel
theorem dX1_valuesIn_39 : decode cX1_valuesIn 39 = .ok (.aload_n 0, 1) := by decide +kernel
theorem dX1_valuesIn_40 : decode cX1_valuesIn 40 = .ok (.getfield 18, 3) := by decide +kernel
theorem dX1_valuesIn_43 : decode cX1_valuesIn 43 = .ok (.iload_n 3, 1) := by decide +kernel
theorem dX1_valuesIn_44 : decode cX1_valuesIn 44 = .ok (.iaload, 1) := by decide +kernel
theorem dX1_valuesIn_45 : decode cX1_valuesIn 45 = .ok (.iand, 1) := by decide +kernel
theorem dX1_valuesIn_46 : decode cX1_valuesIn 46 = .ok (.ifCond .ne 14, 3) := by decide +kernel
theorem dX1_valuesIn_49 : decode cX1_valuesIn 49 = .ok (.iload_n 2, 1) := by decide +kernel
theorem dX1_valuesIn_50 : decode cX1_valuesIn 50 = .ok (.iconst 1, 1) := by decide +kernel
theorem dX1_valuesIn_51 : decode cX1_valuesIn 51 = .ok (.aload_n 0, 1) := by decide +kernel
theorem dX1_valuesIn_52 : decode cX1_valuesIn 52 = .ok (.getfield 9, 3) := by decide +kernel
theorem dX1_valuesIn_55 : decode cX1_valuesIn 55 = .ok (.iload_n 3, 1) := by decide +kernel
theorem dX1_valuesIn_56 : decode cX1_valuesIn 56 = .ok (.iaload, 1) := by decide +kernel
theorem dX1_valuesIn_57 : decode cX1_valuesIn 57 = .ok (.ishl, 1) := by decide +kernel
theorem dX1_valuesIn_58 : decode cX1_valuesIn 58 = .ok (.ior, 1) := by decide +kernel
theorem dX1_valuesIn_59 : decode cX1_valuesIn 59 = .ok (.istore_n 2, 1) := by decide +kernel
theorem dX1_valuesIn_60 : decode cX1_valuesIn 60 = .ok (.iinc 3 1, 3) := by decide +kernel
theorem dX1_valuesIn_63 : decode cX1_valuesIn 63 = .ok (.goto (-59), 3) := by decide +kernel
theorem dX1_valuesIn_66 : decode cX1_valuesIn 66 = .ok (.iload_n 2, 1) := by decide +kernel
theorem dX1_valuesIn_67 : decode cX1_valuesIn 67 = .ok (.ireturn, 1) := by decide +kernel
theorem dX2_init_0 : decode cX2_init 0 = .ok (.aload_n 0, 1) := by decide +kernel
theorem dX2_init_1 : decode cX2_init 1 = .ok (.invokespecial 3, 3) := by decide +kernel
theorem dX2_init_4 : decode cX2_init 4 = .ok (.aload_n 0, 1) := by decide +kernel
theorem dX2_init_5 : decode cX2_init 5 = .ok (.sipush 4096, 3) := by decide +kernel
theorem dX2_init_8 : decode cX2_init 8 = .ok (.newarray .int, 2) := by decide +kernel
theorem dX2_init_10 : decode cX2_init 10 = .ok (.putfield 9, 3) := by decide +kernel
theorem dX2_init_13 : decode cX2_init 13 = .ok (.aload_n 0, 1) := by decide +kernel
theorem dX2_init_14 : decode cX2_init 14 = .ok (.aload_n 1, 1) := by decide +kernel
theorem dX2_init_15 : decode cX2_init 15 = .ok (.putfield 15, 3) := by decide +kernel
theorem dX2_init_18 : decode cX2_init 18 = .ok (.aload_n 0, 1) := by decide +kernel
theorem dX2_init_19 : decode cX2_init 19 = .ok (.aload_n 2, 1) := by decide +kernel
theorem dX2_init_20 : decode cX2_init 20 = .ok (.putfield 19, 3) := by decide +kernel
theorem dX2_init_23 : decode cX2_init 23 = .ok (.return_, 1) := by decide +kernel
theorem dX2_forget_0 : decode cX2_forget 0 = .ok (.aload_n 0, 1) := by decide +kernel
theorem dX2_forget_1 : decode cX2_forget 1 = .ok (.iconst 0, 1) := by decide +kernel
theorem dX2_forget_2 : decode cX2_forget 2 = .ok (.putfield 23, 3) := by decide +kernel
theorem dX2_forget_5 : decode cX2_forget 5 = .ok (.return_, 1) := by decide +kernel
theorem dX2_renew_0 : decode cX2_renew 0 = .ok (.aload_n 0, 1) := by decide +kernel
theorem dX2_renew_1 : decode cX2_renew 1 = .ok (.getfield 23, 3) := by decide +kernel
theorem dX2_renew_4 : decode cX2_renew 4 = .ok (.ifCond .eq 4, 3) := by decide +kernel
theorem dX2_renew_7 : decode cX2_renew 7 = .ok (.return_, 1) := by decide +kernel
theorem dX2_renew_8 : decode cX2_renew 8 = .ok (.aload_n 0, 1) := by decide +kernel
theorem dX2_renew_9 : decode cX2_renew 9 = .ok (.iconst 0, 1) := by decide +kernel
theorem dX2_renew_10 : decode cX2_renew 10 = .ok (.putfield 27, 3) := by decide +kernel
theorem dX2_renew_13 : decode cX2_renew 13 = .ok (.iconst 0, 1) := by decide +kernel
theorem dX2_renew_14 : decode cX2_renew 14 = .ok (.istore_n 1, 1) := by decide +kernel
theorem dX2_renew_15 : decode cX2_renew 15 = .ok (.iload_n 1, 1) := by decide +kernel
theorem dX2_renew_16 : decode cX2_renew 16 = .ok (.aload_n 0, 1) := by decide +kernel
theorem dX2_renew_17 : decode cX2_renew 17 = .ok (.getfield 19, 3) := by decide +kernel
theorem dX2_renew_20 : decode cX2_renew 20 = .ok (.invokevirtual 31, 3) := by decide +kernel
theorem dX2_renew_23 : decode cX2_renew 23 = .ok (.if_icmp .ge 47, 3) := by decide +kernel
theorem dX2_renew_26 : decode cX2_renew 26 = .ok (.iload_n 1, 1) := by decide +kernel
theorem dX2_renew_27 : decode cX2_renew 27 = .ok (.sipush 4096, 3) := by decide +kernel
theorem dX2_renew_30 : decode cX2_renew 30 = .ok (.if_icmp .ge 40, 3) := by decide +kernel
theorem dX2_renew_33 : decode cX2_renew 33 = .ok (.aload_n 0, 1) := by decide +kernel
theorem dX2_renew_34 : decode cX2_renew 34 = .ok (.dup, 1) := by decide +kernel
theorem dX2_renew_35 : decode cX2_renew 35 = .ok (.getfield 27, 3) := by decide +kernel
theorem dX2_renew_38 : decode cX2_renew 38 = .ok (.aload_n 0, 1) := by decide +kernel
theorem dX2_renew_39 : decode cX2_renew 39 = .ok (.aload_n 0, 1) := by decide +kernel
theorem dX2_renew_40 : decode cX2_renew 40 = .ok (.getfield 19, 3) := by decide +kernel
theorem dX2_renew_43 : decode cX2_renew 43 = .ok (.iload_n 1, 1) := by decide +kernel
theorem dX2_renew_44 : decode cX2_renew 44 = .ok (.invokevirtual 36, 3) := by decide +kernel
theorem dX2_renew_47 : decode cX2_renew 47 = .ok (.invokevirtual 40, 3) := by decide +kernel
theorem dX2_renew_50 : decode cX2_renew 50 = .ok (.iadd, 1) := by decide +kernel
theorem dX2_renew_51 : decode cX2_renew 51 = .ok (.putfield 27, 3) := by decide +kernel
theorem dX2_renew_54 : decode cX2_renew 54 = .ok (.aload_n 0, 1) := by decide +kernel
theorem dX2_renew_55 : decode cX2_renew 55 = .ok (.getfield 9, 3) := by decide +kernel
theorem dX2_renew_58 : decode cX2_renew 58 = .ok (.iload_n 1, 1) := by decide +kernel
theorem dX2_renew_59 : decode cX2_renew 59 = .ok (.aload_n 0, 1) := by decide +kernel
theorem dX2_renew_60 : decode cX2_renew 60 = .ok (.getfield 27, 3) := by decide +kernel
theorem dX2_renew_63 : decode cX2_renew 63 = .ok (.iastore, 1) := by decide +kernel
theorem dX2_renew_64 : decode cX2_renew 64 = .ok (.iinc 1 1, 3) := by decide +kernel
theorem dX2_renew_67 : decode cX2_renew 67 = .ok (.goto (-52), 3) := by decide +kernel
theorem dX2_renew_70 : decode cX2_renew 70 = .ok (.aload_n 0, 1) := by decide +kernel
theorem dX2_renew_71 : decode cX2_renew 71 = .ok (.iconst 1, 1) := by decide +kernel
theorem dX2_renew_72 : decode cX2_renew 72 = .ok (.putfield 23, 3) := by decide +kernel
theorem dX2_renew_75 : decode cX2_renew 75 = .ok (.return_, 1) := by decide +kernel
theorem dX2_hazardsIn_0 : decode cX2_hazardsIn 0 = .ok (.aload_n 0, 1) := by decide +kernel
theorem dX2_hazardsIn_1 : decode cX2_hazardsIn 1 = .ok (.getfield 15, 3) := by decide +kernel
theorem dX2_hazardsIn_4 : decode cX2_hazardsIn 4 = .ok (.iload_n 1, 1) := by decide +kernel
theorem dX2_hazardsIn_5 : decode cX2_hazardsIn 5 = .ok (.invokevirtual 43, 3) := by decide +kernel
theorem dX2_hazardsIn_8 : decode cX2_hazardsIn 8 = .ok (.istore_n 2, 1) := by decide +kernel
theorem dX2_hazardsIn_9 : decode cX2_hazardsIn 9 = .ok (.iconst 0, 1) := by decide +kernel
theorem dX2_hazardsIn_10 : decode cX2_hazardsIn 10 = .ok (.istore_n 3, 1) := by decide +kernel
theorem dX2_hazardsIn_11 : decode cX2_hazardsIn 11 = .ok (.iconst 0, 1) := by decide +kernel
theorem dX2_hazardsIn_12 : decode cX2_hazardsIn 12 = .ok (.istore 4, 2) := by decide +kernel
theorem dX2_hazardsIn_14 : decode cX2_hazardsIn 14 = .ok (.iload 4, 2) := by decide +kernel
theorem dX2_hazardsIn_16 : decode cX2_hazardsIn 16 = .ok (.bipush 12, 2) := by decide +kernel
theorem dX2_hazardsIn_18 : decode cX2_hazardsIn 18 = .ok (.if_icmp .ge 34, 3) := by decide +kernel
theorem dX2_hazardsIn_21 : decode cX2_hazardsIn 21 = .ok (.iload_n 2, 1) := by decide +kernel
theorem dX2_hazardsIn_22 : decode cX2_hazardsIn 22 = .ok (.iload 4, 2) := by decide +kernel
theorem dX2_hazardsIn_24 : decode cX2_hazardsIn 24 = .ok (.invokestatic 48, 3) := by decide +kernel
theorem dX2_hazardsIn_27 : decode cX2_hazardsIn 27 = .ok (.ifCond .eq 19, 3) := by decide +kernel
theorem dX2_hazardsIn_30 : decode cX2_hazardsIn 30 = .ok (.iload_n 3, 1) := by decide +kernel
theorem dX2_hazardsIn_31 : decode cX2_hazardsIn 31 = .ok (.aload_n 0, 1) := by decide +kernel
theorem dX2_hazardsIn_32 : decode cX2_hazardsIn 32 = .ok (.getfield 15, 3) := by decide +kernel
theorem dX2_hazardsIn_35 : decode cX2_hazardsIn 35 = .ok (.iload 4, 2) := by decide +kernel
theorem dX2_hazardsIn_37 : decode cX2_hazardsIn 37 = .ok (.iload_n 1, 1) := by decide +kernel
theorem dX2_hazardsIn_38 : decode cX2_hazardsIn 38 = .ok (.invokevirtual 52, 3) := by decide +kernel
theorem dX2_hazardsIn_41 : decode cX2_hazardsIn 41 = .ok (.invokestatic 56, 3) := by decide +kernel
theorem dX2_hazardsIn_44 : decode cX2_hazardsIn 44 = .ok (.iadd, 1) := by decide +kernel
theorem dX2_hazardsIn_45 : decode cX2_hazardsIn 45 = .ok (.istore_n 3, 1) := by decide +kernel
theorem dX2_hazardsIn_46 : decode cX2_hazardsIn 46 = .ok (.iinc 4 1, 3) := by decide +kernel
theorem dX2_hazardsIn_49 : decode cX2_hazardsIn 49 = .ok (.goto (-35), 3) := by decide +kernel
theorem dX2_hazardsIn_52 : decode cX2_hazardsIn 52 = .ok (.iload_n 3, 1) := by decide +kernel
theorem dX2_hazardsIn_53 : decode cX2_hazardsIn 53 = .ok (.ireturn, 1) := by decide +kernel
theorem dX2_size_0 : decode cX2_size 0 = .ok (.aload_n 0, 1) := by decide +kernel
theorem dX2_size_1 : decode cX2_size 1 = .ok (.getfield 27, 3) := by decide +kernel
theorem dX2_size_4 : decode cX2_size 4 = .ok (.ireturn, 1) := by decide +kernel
theorem dX2_partOf_0 : decode cX2_partOf 0 = .ok (.iload_n 1, 1) := by decide +kernel
theorem dX2_partOf_1 : decode cX2_partOf 1 = .ok (.ifCond .lt 11, 3) := by decide +kernel
theorem dX2_partOf_4 : decode cX2_partOf 4 = .ok (.iload_n 1, 1) := by decide +kernel
theorem dX2_partOf_5 : decode cX2_partOf 5 = .ok (.aload_n 0, 1) := by decide +kernel
theorem dX2_partOf_6 : decode cX2_partOf 6 = .ok (.getfield 27, 3) := by decide +kernel
theorem dX2_partOf_9 : decode cX2_partOf 9 = .ok (.if_icmp .lt 5, 3) := by decide +kernel
theorem dX2_partOf_12 : decode cX2_partOf 12 = .ok (.iconst (-1), 1) := by decide +kernel
theorem dX2_partOf_13 : decode cX2_partOf 13 = .ok (.ireturn, 1) := by decide +kernel
theorem dX2_partOf_14 : decode cX2_partOf 14 = .ok (.aload_n 0, 1) := by decide +kernel
theorem dX2_partOf_15 : decode cX2_partOf 15 = .ok (.iload_n 1, 1) := by decide +kernel
theorem dX2_partOf_16 : decode cX2_partOf 16 = .ok (.invokevirtual 61, 3) := by decide +kernel
theorem dX2_partOf_19 : decode cX2_partOf 19 = .ok (.istore_n 3, 1) := by decide +kernel
theorem dX2_partOf_20 : decode cX2_partOf 20 = .ok (.aload_n 0, 1) := by decide +kernel
theorem dX2_partOf_21 : decode cX2_partOf 21 = .ok (.getfield 19, 3) := by decide +kernel
theorem dX2_partOf_24 : decode cX2_partOf 24 = .ok (.iload_n 3, 1) := by decide +kernel
theorem dX2_partOf_25 : decode cX2_partOf 25 = .ok (.invokevirtual 36, 3) := by decide +kernel
theorem dX2_partOf_28 : decode cX2_partOf 28 = .ok (.istore 4, 2) := by decide +kernel
theorem dX2_partOf_30 : decode cX2_partOf 30 = .ok (.iload_n 2, 1) := by decide +kernel
theorem dX2_partOf_31 : decode cX2_partOf 31 = .ok (.ifCond .ne 6, 3) := by decide +kernel
theorem dX2_partOf_34 : decode cX2_partOf 34 = .ok (.iload 4, 2) := by decide +kernel
theorem dX2_partOf_36 : decode cX2_partOf 36 = .ok (.ireturn, 1) := by decide +kernel
theorem dX2_partOf_37 : decode cX2_partOf 37 = .ok (.aload_n 0, 1) := by decide +kernel
theorem dX2_partOf_38 : decode cX2_partOf 38 = .ok (.iload 4, 2) := by decide +kernel
theorem dX2_partOf_40 : decode cX2_partOf 40 = .ok (.iload_n 3, 1) := by decide +kernel
theorem dX2_partOf_41 : decode cX2_partOf 41 = .ok (.ifCond .ne 7, 3) := by decide +kernel
theorem dX2_partOf_44 : decode cX2_partOf 44 = .ok (.iload_n 1, 1) := by decide +kernel
theorem dX2_partOf_45 : decode cX2_partOf 45 = .ok (.goto 13, 3) := by decide +kernel
theorem dX2_partOf_48 : decode cX2_partOf 48 = .ok (.iload_n 1, 1) := by decide +kernel
theorem dX2_partOf_49 : decode cX2_partOf 49 = .ok (.aload_n 0, 1) := by decide +kernel
theorem dX2_partOf_50 : decode cX2_partOf 50 = .ok (.getfield 9, 3) := by decide +kernel
theorem dX2_partOf_53 : decode cX2_partOf 53 = .ok (.iload_n 3, 1) := by decide +kernel
theorem dX2_partOf_54 : decode cX2_partOf 54 = .ok (.iconst 1, 1) := by decide +kernel
theorem dX2_partOf_55 : decode cX2_partOf 55 = .ok (.isub, 1) := by decide +kernel
theorem dX2_partOf_56 : decode cX2_partOf 56 = .ok (.iaload, 1) := by decide +kernel
theorem dX2_partOf_57 : decode cX2_partOf 57 = .ok (.isub, 1) := by decide +kernel
theorem dX2_partOf_58 : decode cX2_partOf 58 = .ok (.iload_n 2, 1) := by decide +kernel
theorem dX2_partOf_59 : decode cX2_partOf 59 = .ok (.invokevirtual 64, 3) := by decide +kernel
theorem dX2_partOf_62 : decode cX2_partOf 62 = .ok (.ireturn, 1) := by decide +kernel
theorem dX2_placeWith_0 : decode cX2_placeWith 0 = .ok (.iconst 0, 1) := by decide +kernel
theorem dX2_placeWith_1 : decode cX2_placeWith 1 = .ok (.istore_n 2, 1) := by decide +kernel
theorem dX2_placeWith_2 : decode cX2_placeWith 2 = .ok (.aload_n 0, 1) := by decide +kernel
theorem dX2_placeWith_3 : decode cX2_placeWith 3 = .ok (.getfield 19, 3) := by decide +kernel
theorem dX2_placeWith_6 : decode cX2_placeWith 6 = .ok (.invokevirtual 31, 3) := by decide +kernel
theorem dX2_placeWith_9 : decode cX2_placeWith 9 = .ok (.iconst 1, 1) := by decide +kernel
theorem dX2_placeWith_10 : decode cX2_placeWith 10 = .ok (.isub, 1) := by decide +kernel
theorem dX2_placeWith_11 : decode cX2_placeWith 11 = .ok (.istore_n 3, 1) := by decide +kernel
theorem dX2_placeWith_12 : decode cX2_placeWith 12 = .ok (.iconst 0, 1) := by decide +kernel
theorem dX2_placeWith_13 : decode cX2_placeWith 13 = .ok (.istore 4, 2) := by decide +kernel
theorem dX2_placeWith_15 : decode cX2_placeWith 15 = .ok (.iload 4, 2) := by decide +kernel
theorem dX2_placeWith_17 : decode cX2_placeWith 17 = .ok (.sipush 4096, 3) := by decide +kernel
theorem dX2_placeWith_20 : decode cX2_placeWith 20 = .ok (.if_icmp .ge 43, 3) := by decide +kernel
theorem dX2_placeWith_23 : decode cX2_placeWith 23 = .ok (.iload_n 2, 1) := by decide +kernel
theorem dX2_placeWith_24 : decode cX2_placeWith 24 = .ok (.iload_n 3, 1) := by decide +kernel
theorem dX2_placeWith_25 : decode cX2_placeWith 25 = .ok (.if_icmp .ge 38, 3) := by decide +kernel
theorem dX2_placeWith_28 : decode cX2_placeWith 28 = .ok (.iload_n 2, 1) := by decide +kernel
theorem dX2_placeWith_29 : decode cX2_placeWith 29 = .ok (.iload_n 3, 1) := by decide +kernel
theorem dX2_placeWith_30 : decode cX2_placeWith 30 = .ok (.iadd, 1) := by decide +kernel
theorem dX2_placeWith_31 : decode cX2_placeWith 31 = .ok (.iconst 2, 1) := by decide +kernel
theorem dX2_placeWith_32 : decode cX2_placeWith 32 = .ok (.idiv, 1) := by decide +kernel
theorem dX2_placeWith_33 : decode cX2_placeWith 33 = .ok (.istore 5, 2) := by decide +kernel
theorem dX2_placeWith_35 : decode cX2_placeWith 35 = .ok (.aload_n 0, 1) := by decide +kernel
theorem dX2_placeWith_36 : decode cX2_placeWith 36 = .ok (.getfield 9, 3) := by decide +kernel
theorem dX2_placeWith_39 : decode cX2_placeWith 39 = .ok (.iload 5, 2) := by decide +kernel
theorem dX2_placeWith_41 : decode cX2_placeWith 41 = .ok (.iaload, 1) := by decide +kernel
theorem dX2_placeWith_42 : decode cX2_placeWith 42 = .ok (.iload_n 1, 1) := by decide +kernel
theorem dX2_placeWith_43 : decode cX2_placeWith 43 = .ok (.if_icmp .le 9, 3) := by decide +kernel
theorem dX2_placeWith_46 : decode cX2_placeWith 46 = .ok (.iload 5, 2) := by decide +kernel
theorem dX2_placeWith_48 : decode cX2_placeWith 48 = .ok (.istore_n 3, 1) := by decide +kernel
theorem dX2_placeWith_49 : decode cX2_placeWith 49 = .ok (.goto 8, 3) := by decide +kernel
theorem dX2_placeWith_52 : decode cX2_placeWith 52 = .ok (.iload 5, 2) := by decide +kernel
theorem dX2_placeWith_54 : decode cX2_placeWith 54 = .ok (.iconst 1, 1) := by decide +kernel
theorem dX2_placeWith_55 : decode cX2_placeWith 55 = .ok (.iadd, 1) := by decide +kernel
theorem dX2_placeWith_56 : decode cX2_placeWith 56 = .ok (.istore_n 2, 1) := by decide +kernel
theorem dX2_placeWith_57 : decode cX2_placeWith 57 = .ok (.iinc 4 1, 3) := by decide +kernel
theorem dX2_placeWith_60 : decode cX2_placeWith 60 = .ok (.goto (-45), 3) := by decide +kernel
theorem dX2_placeWith_63 : decode cX2_placeWith 63 = .ok (.iload_n 2, 1) := by decide +kernel
theorem dX2_placeWith_64 : decode cX2_placeWith 64 = .ok (.ireturn, 1) := by decide +kernel
theorem dX2_signalOf_0 : decode cX2_signalOf 0 = .ok (.aload_n 0, 1) := by decide +kernel
theorem dX2_signalOf_1 : decode cX2_signalOf 1 = .ok (.getfield 15, 3) := by decide +kernel
theorem dX2_signalOf_4 : decode cX2_signalOf 4 = .ok (.iload_n 1, 1) := by decide +kernel
theorem dX2_signalOf_5 : decode cX2_signalOf 5 = .ok (.invokevirtual 43, 3) := by decide +kernel
theorem dX2_signalOf_8 : decode cX2_signalOf 8 = .ok (.istore 4, 2) := by decide +kernel
theorem dX2_signalOf_10 : decode cX2_signalOf 10 = .ok (.iconst 0, 1) := by decide +kernel
theorem dX2_signalOf_11 : decode cX2_signalOf 11 = .ok (.istore 5, 2) := by decide +kernel
theorem dX2_signalOf_13 : decode cX2_signalOf 13 = .ok (.iconst 0, 1) := by decide +kernel
theorem dX2_signalOf_14 : decode cX2_signalOf 14 = .ok (.istore 6, 2) := by decide +kernel
theorem dX2_signalOf_16 : decode cX2_signalOf 16 = .ok (.iload 6, 2) := by decide +kernel
theorem dX2_signalOf_18 : decode cX2_signalOf 18 = .ok (.bipush 12, 2) := by decide +kernel
theorem dX2_signalOf_20 : decode cX2_signalOf 20 = .ok (.if_icmp .ge 75, 3) := by decide +kernel
theorem dX2_signalOf_23 : decode cX2_signalOf 23 = .ok (.iconst 0, 1) := by decide +kernel
theorem dX2_signalOf_24 : decode cX2_signalOf 24 = .ok (.istore 7, 2) := by decide +kernel
theorem dX2_signalOf_26 : decode cX2_signalOf 26 = .ok (.iload 7, 2) := by decide +kernel
theorem dX2_signalOf_28 : decode cX2_signalOf 28 = .ok (.bipush 12, 2) := by decide +kernel
theorem dX2_signalOf_30 : decode cX2_signalOf 30 = .ok (.if_icmp .ge 59, 3) := by decide +kernel
theorem dX2_signalOf_33 : decode cX2_signalOf 33 = .ok (.iload 4, 2) := by decide +kernel
theorem dX2_signalOf_35 : decode cX2_signalOf 35 = .ok (.iload 7, 2) := by decide +kernel
theorem dX2_signalOf_37 : decode cX2_signalOf 37 = .ok (.invokestatic 48, 3) := by decide +kernel
theorem dX2_signalOf_40 : decode cX2_signalOf 40 = .ok (.ifCond .eq 43, 3) := by decide +kernel
theorem dX2_signalOf_43 : decode cX2_signalOf 43 = .ok (.aload_n 0, 1) := by decide +kernel
theorem dX2_signalOf_44 : decode cX2_signalOf 44 = .ok (.getfield 15, 3) := by decide +kernel
theorem dX2_signalOf_47 : decode cX2_signalOf 47 = .ok (.iload 7, 2) := by decide +kernel
theorem dX2_signalOf_49 : decode cX2_signalOf 49 = .ok (.iload_n 1, 1) := by decide +kernel
theorem dX2_signalOf_50 : decode cX2_signalOf 50 = .ok (.invokevirtual 52, 3) := by decide +kernel
theorem dX2_signalOf_53 : decode cX2_signalOf 53 = .ok (.iload 6, 2) := by decide +kernel
theorem dX2_signalOf_55 : decode cX2_signalOf 55 = .ok (.invokestatic 48, 3) := by decide +kernel
theorem dX2_signalOf_58 : decode cX2_signalOf 58 = .ok (.ifCond .eq 25, 3) := by decide +kernel
theorem dX2_signalOf_61 : decode cX2_signalOf 61 = .ok (.iload 5, 2) := by decide +kernel
theorem dX2_signalOf_63 : decode cX2_signalOf 63 = .ok (.iload_n 2, 1) := by decide +kernel
theorem dX2_signalOf_64 : decode cX2_signalOf 64 = .ok (.if_icmp .ne 16, 3) := by decide +kernel
theorem dX2_signalOf_67 : decode cX2_signalOf 67 = .ok (.iload_n 3, 1) := by decide +kernel
theorem dX2_signalOf_68 : decode cX2_signalOf 68 = .ok (.iconst 1, 1) := by decide +kernel
theorem dX2_signalOf_69 : decode cX2_signalOf 69 = .ok (.if_icmp .ne 8, 3) := by decide +kernel
theorem dX2_signalOf_72 : decode cX2_signalOf 72 = .ok (.iload 6, 2) := by decide +kernel
theorem dX2_signalOf_74 : decode cX2_signalOf 74 = .ok (.goto 5, 3) := by decide +kernel
theorem dX2_signalOf_77 : decode cX2_signalOf 77 = .ok (.iload 7, 2) := by decide +kernel
theorem dX2_signalOf_79 : decode cX2_signalOf 79 = .ok (.ireturn, 1) := by decide +kernel
theorem dX2_signalOf_80 : decode cX2_signalOf 80 = .ok (.iinc 5 1, 3) := by decide +kernel
theorem dX2_signalOf_83 : decode cX2_signalOf 83 = .ok (.iinc 7 1, 3) := by decide +kernel
theorem dX2_signalOf_86 : decode cX2_signalOf 86 = .ok (.goto (-60), 3) := by decide +kernel
theorem dX2_signalOf_89 : decode cX2_signalOf 89 = .ok (.iinc 6 1, 3) := by decide +kernel
theorem dX2_signalOf_92 : decode cX2_signalOf 92 = .ok (.goto (-76), 3) := by decide +kernel
theorem dX2_signalOf_95 : decode cX2_signalOf 95 = .ok (.iconst (-1), 1) := by decide +kernel
theorem dX2_signalOf_96 : decode cX2_signalOf 96 = .ok (.ireturn, 1) := by decide +kernel
theorem dX3_init_0 : decode cX3_init 0 = .ok (.aload_n 0, 1) := by decide +kernel
theorem dX3_init_1 : decode cX3_init 1 = .ok (.invokespecial 3, 3) := by decide +kernel
theorem dX3_init_4 : decode cX3_init 4 = .ok (.aload_n 0, 1) := by decide +kernel
theorem dX3_init_5 : decode cX3_init 5 = .ok (.sipush 4096, 3) := by decide +kernel
theorem dX3_init_8 : decode cX3_init 8 = .ok (.newarray .boolean, 2) := by decide +kernel
theorem dX3_init_10 : decode cX3_init 10 = .ok (.putfield 9, 3) := by decide +kernel
theorem dX3_init_13 : decode cX3_init 13 = .ok (.aload_n 0, 1) := by decide +kernel
theorem dX3_init_14 : decode cX3_init 14 = .ok (.sipush 4096, 3) := by decide +kernel
theorem dX3_init_17 : decode cX3_init 17 = .ok (.newarray .int, 2) := by decide +kernel
theorem dX3_init_19 : decode cX3_init 19 = .ok (.putfield 15, 3) := by decide +kernel
theorem dX3_init_22 : decode cX3_init 22 = .ok (.aload_n 0, 1) := by decide +kernel
theorem dX3_init_23 : decode cX3_init 23 = .ok (.aload_n 1, 1) := by decide +kernel
theorem dX3_init_24 : decode cX3_init 24 = .ok (.putfield 19, 3) := by decide +kernel
theorem dX3_init_27 : decode cX3_init 27 = .ok (.aload_n 0, 1) := by decide +kernel
theorem dX3_init_28 : decode cX3_init 28 = .ok (.aload_n 2, 1) := by decide +kernel
theorem dX3_init_29 : decode cX3_init 29 = .ok (.putfield 23, 3) := by decide +kernel
theorem dX3_init_32 : decode cX3_init 32 = .ok (.return_, 1) := by decide +kernel
theorem dX3_forget_0 : decode cX3_forget 0 = .ok (.aload_n 0, 1) := by decide +kernel
theorem dX3_forget_1 : decode cX3_forget 1 = .ok (.iconst 0, 1) := by decide +kernel
theorem dX3_forget_2 : decode cX3_forget 2 = .ok (.putfield 27, 3) := by decide +kernel
theorem dX3_forget_5 : decode cX3_forget 5 = .ok (.aload_n 0, 1) := by decide +kernel
theorem dX3_forget_6 : decode cX3_forget 6 = .ok (.iconst 0, 1) := by decide +kernel
theorem dX3_forget_7 : decode cX3_forget 7 = .ok (.putfield 31, 3) := by decide +kernel
theorem dX3_forget_10 : decode cX3_forget 10 = .ok (.return_, 1) := by decide +kernel
theorem dX3_isLive_0 : decode cX3_isLive 0 = .ok (.aload_n 0, 1) := by decide +kernel
theorem dX3_isLive_1 : decode cX3_isLive 1 = .ok (.getfield 27, 3) := by decide +kernel
theorem dX3_isLive_4 : decode cX3_isLive 4 = .ok (.iload_n 1, 1) := by decide +kernel
theorem dX3_isLive_5 : decode cX3_isLive 5 = .ok (.invokestatic 34, 3) := by decide +kernel
theorem dX3_isLive_8 : decode cX3_isLive 8 = .ok (.ifCond .ne 35, 3) := by decide +kernel
theorem dX3_isLive_11 : decode cX3_isLive 11 = .ok (.aload_n 0, 1) := by decide +kernel
theorem dX3_isLive_12 : decode cX3_isLive 12 = .ok (.dup, 1) := by decide +kernel
theorem dX3_isLive_13 : decode cX3_isLive 13 = .ok (.getfield 27, 3) := by decide +kernel
theorem dX3_isLive_16 : decode cX3_isLive 16 = .ok (.iconst 1, 1) := by decide +kernel
theorem dX3_isLive_17 : decode cX3_isLive 17 = .ok (.iload_n 1, 1) := by decide +kernel
theorem dX3_isLive_18 : decode cX3_isLive 18 = .ok (.ishl, 1) := by decide +kernel
theorem dX3_isLive_19 : decode cX3_isLive 19 = .ok (.ior, 1) := by decide +kernel
theorem dX3_isLive_20 : decode cX3_isLive 20 = .ok (.putfield 27, 3) := by decide +kernel
theorem dX3_isLive_23 : decode cX3_isLive 23 = .ok (.aload_n 0, 1) := by decide +kernel
theorem dX3_isLive_24 : decode cX3_isLive 24 = .ok (.iload_n 1, 1) := by decide +kernel
theorem dX3_isLive_25 : decode cX3_isLive 25 = .ok (.invokevirtual 38, 3) := by decide +kernel
theorem dX3_isLive_28 : decode cX3_isLive 28 = .ok (.ifCond .eq 15, 3) := by decide +kernel
theorem dX3_isLive_31 : decode cX3_isLive 31 = .ok (.aload_n 0, 1) := by decide +kernel
theorem dX3_isLive_32 : decode cX3_isLive 32 = .ok (.dup, 1) := by decide +kernel
theorem dX3_isLive_33 : decode cX3_isLive 33 = .ok (.getfield 31, 3) := by decide +kernel
theorem dX3_isLive_36 : decode cX3_isLive 36 = .ok (.iconst 1, 1) := by decide +kernel
theorem dX3_isLive_37 : decode cX3_isLive 37 = .ok (.iload_n 1, 1) := by decide +kernel
theorem dX3_isLive_38 : decode cX3_isLive 38 = .ok (.ishl, 1) := by decide +kernel
theorem dX3_isLive_39 : decode cX3_isLive 39 = .ok (.ior, 1) := by decide +kernel
theorem dX3_isLive_40 : decode cX3_isLive 40 = .ok (.putfield 31, 3) := by decide +kernel
theorem dX3_isLive_43 : decode cX3_isLive 43 = .ok (.aload_n 0, 1) := by decide +kernel
theorem dX3_isLive_44 : decode cX3_isLive 44 = .ok (.getfield 31, 3) := by decide +kernel
theorem dX3_isLive_47 : decode cX3_isLive 47 = .ok (.iload_n 1, 1) := by decide +kernel
theorem dX3_isLive_48 : decode cX3_isLive 48 = .ok (.invokestatic 34, 3) := by decide +kernel
theorem dX3_isLive_51 : decode cX3_isLive 51 = .ok (.ireturn, 1) := by decide +kernel
theorem dX3_leadsThereFromAll_0 : decode cX3_leadsThereFromAll 0 = .ok (.aload_n 0, 1) := by decide +kernel
theorem dX3_leadsThereFromAll_1 : decode cX3_leadsThereFromAll 1 = .ok (.iconst 0, 1) := by decide +kernel
theorem dX3_leadsThereFromAll_2 : decode cX3_leadsThereFromAll 2 = .ok (.putfield 42, 3) := by decide +kernel
theorem dX3_leadsThereFromAll_5 : decode cX3_leadsThereFromAll 5 = .ok (.iconst 0, 1) := by decide +kernel
theorem dX3_leadsThereFromAll_6 : decode cX3_leadsThereFromAll 6 = .ok (.istore_n 2, 1) := by decide +kernel
theorem dX3_leadsThereFromAll_7 : decode cX3_leadsThereFromAll 7 = .ok (.iload_n 2, 1) := by decide +kernel
theorem dX3_leadsThereFromAll_8 : decode cX3_leadsThereFromAll 8 = .ok (.aload_n 0, 1) := by decide +kernel
theorem dX3_leadsThereFromAll_9 : decode cX3_leadsThereFromAll 9 = .ok (.getfield 23, 3) := by decide +kernel
theorem dX3_leadsThereFromAll_12 : decode cX3_leadsThereFromAll 12 = .ok (.invokevirtual 45, 3) := by decide +kernel
theorem dX3_leadsThereFromAll_15 : decode cX3_leadsThereFromAll 15 = .ok (.if_icmp .ge 38, 3) := by decide +kernel
theorem dX3_leadsThereFromAll_18 : decode cX3_leadsThereFromAll 18 = .ok (.aload_n 0, 1) := by decide +kernel
theorem dX3_leadsThereFromAll_19 : decode cX3_leadsThereFromAll 19 = .ok (.getfield 23, 3) := by decide +kernel
theorem dX3_leadsThereFromAll_22 : decode cX3_leadsThereFromAll 22 = .ok (.iload_n 2, 1) := by decide +kernel
theorem dX3_leadsThereFromAll_23 : decode cX3_leadsThereFromAll 23 = .ok (.invokevirtual 51, 3) := by decide +kernel
theorem dX3_leadsThereFromAll_26 : decode cX3_leadsThereFromAll 26 = .ok (.istore_n 3, 1) := by decide +kernel
theorem dX3_leadsThereFromAll_27 : decode cX3_leadsThereFromAll 27 = .ok (.aload_n 0, 1) := by decide +kernel
theorem dX3_leadsThereFromAll_28 : decode cX3_leadsThereFromAll 28 = .ok (.getfield 19, 3) := by decide +kernel
theorem dX3_leadsThereFromAll_31 : decode cX3_leadsThereFromAll 31 = .ok (.iload_n 3, 1) := by decide +kernel
theorem dX3_leadsThereFromAll_32 : decode cX3_leadsThereFromAll 32 = .ok (.invokevirtual 55, 3) := by decide +kernel
theorem dX3_leadsThereFromAll_35 : decode cX3_leadsThereFromAll 35 = .ok (.iload_n 1, 1) := by decide +kernel
theorem dX3_leadsThereFromAll_36 : decode cX3_leadsThereFromAll 36 = .ok (.invokestatic 34, 3) := by decide +kernel
theorem dX3_leadsThereFromAll_39 : decode cX3_leadsThereFromAll 39 = .ok (.ifCond .eq 8, 3) := by decide +kernel
theorem dX3_leadsThereFromAll_42 : decode cX3_leadsThereFromAll 42 = .ok (.aload_n 0, 1) := by decide +kernel
theorem dX3_leadsThereFromAll_43 : decode cX3_leadsThereFromAll 43 = .ok (.iload_n 3, 1) := by decide +kernel
theorem dX3_leadsThereFromAll_44 : decode cX3_leadsThereFromAll 44 = .ok (.invokevirtual 60, 3) := by decide +kernel
theorem dX3_leadsThereFromAll_47 : decode cX3_leadsThereFromAll 47 = .ok (.iinc 2 1, 3) := by decide +kernel
theorem dX3_leadsThereFromAll_50 : decode cX3_leadsThereFromAll 50 = .ok (.goto (-43), 3) := by decide +kernel
theorem dX3_leadsThereFromAll_53 : decode cX3_leadsThereFromAll 53 = .ok (.iconst 0, 1) := by decide +kernel
theorem dX3_leadsThereFromAll_54 : decode cX3_leadsThereFromAll 54 = .ok (.istore_n 2, 1) := by decide +kernel
theorem dX3_leadsThereFromAll_55 : decode cX3_leadsThereFromAll 55 = .ok (.iload_n 2, 1) := by decide +kernel
theorem dX3_leadsThereFromAll_56 : decode cX3_leadsThereFromAll 56 = .ok (.aload_n 0, 1) := by decide +kernel
theorem dX3_leadsThereFromAll_57 : decode cX3_leadsThereFromAll 57 = .ok (.getfield 42, 3) := by decide +kernel
theorem dX3_leadsThereFromAll_60 : decode cX3_leadsThereFromAll 60 = .ok (.if_icmp .ge 26, 3) := by decide +kernel
theorem dX3_leadsThereFromAll_63 : decode cX3_leadsThereFromAll 63 = .ok (.iload_n 2, 1) := by decide +kernel
theorem dX3_leadsThereFromAll_64 : decode cX3_leadsThereFromAll 64 = .ok (.sipush 4096, 3) := by decide +kernel
theorem dX3_leadsThereFromAll_67 : decode cX3_leadsThereFromAll 67 = .ok (.if_icmp .ge 19, 3) := by decide +kernel
theorem dX3_leadsThereFromAll_70 : decode cX3_leadsThereFromAll 70 = .ok (.aload_n 0, 1) := by decide +kernel
theorem dX3_leadsThereFromAll_71 : decode cX3_leadsThereFromAll 71 = .ok (.aload_n 0, 1) := by decide +kernel
theorem dX3_leadsThereFromAll_72 : decode cX3_leadsThereFromAll 72 = .ok (.getfield 15, 3) := by decide +kernel
theorem dX3_leadsThereFromAll_75 : decode cX3_leadsThereFromAll 75 = .ok (.iload_n 2, 1) := by decide +kernel
theorem dX3_leadsThereFromAll_76 : decode cX3_leadsThereFromAll 76 = .ok (.iaload, 1) := by decide +kernel
theorem dX3_leadsThereFromAll_77 : decode cX3_leadsThereFromAll 77 = .ok (.invokevirtual 64, 3) := by decide +kernel
theorem dX3_leadsThereFromAll_80 : decode cX3_leadsThereFromAll 80 = .ok (.iinc 2 1, 3) := by decide +kernel
theorem dX3_leadsThereFromAll_83 : decode cX3_leadsThereFromAll 83 = .ok (.goto (-28), 3) := by decide +kernel
theorem dX3_leadsThereFromAll_86 : decode cX3_leadsThereFromAll 86 = .ok (.aload_n 0, 1) := by decide +kernel
theorem dX3_leadsThereFromAll_87 : decode cX3_leadsThereFromAll 87 = .ok (.getfield 42, 3) := by decide +kernel
theorem dX3_leadsThereFromAll_90 : decode cX3_leadsThereFromAll 90 = .ok (.aload_n 0, 1) := by decide +kernel
theorem dX3_leadsThereFromAll_91 : decode cX3_leadsThereFromAll 91 = .ok (.getfield 23, 3) := by decide +kernel
theorem dX3_leadsThereFromAll_94 : decode cX3_leadsThereFromAll 94 = .ok (.invokevirtual 45, 3) := by decide +kernel
theorem dX3_leadsThereFromAll_97 : decode cX3_leadsThereFromAll 97 = .ok (.if_icmp .ne 7, 3) := by decide +kernel
theorem dX3_leadsThereFromAll_100 : decode cX3_leadsThereFromAll 100 = .ok (.iconst 1, 1) := by decide +kernel
theorem dX3_leadsThereFromAll_101 : decode cX3_leadsThereFromAll 101 = .ok (.goto 4, 3) := by decide +kernel
theorem dX3_leadsThereFromAll_104 : decode cX3_leadsThereFromAll 104 = .ok (.iconst 0, 1) := by decide +kernel
theorem dX3_leadsThereFromAll_105 : decode cX3_leadsThereFromAll 105 = .ok (.istore_n 2, 1) := by decide +kernel
theorem dX3_leadsThereFromAll_106 : decode cX3_leadsThereFromAll 106 = .ok (.iconst 0, 1) := by decide +kernel
theorem dX3_leadsThereFromAll_107 : decode cX3_leadsThereFromAll 107 = .ok (.istore_n 3, 1) := by decide +kernel
theorem dX3_leadsThereFromAll_108 : decode cX3_leadsThereFromAll 108 = .ok (.iload_n 3, 1) := by decide +kernel
theorem dX3_leadsThereFromAll_109 : decode cX3_leadsThereFromAll 109 = .ok (.aload_n 0, 1) := by decide +kernel
theorem dX3_leadsThereFromAll_110 : decode cX3_leadsThereFromAll 110 = .ok (.getfield 42, 3) := by decide +kernel
theorem dX3_leadsThereFromAll_113 : decode cX3_leadsThereFromAll 113 = .ok (.if_icmp .ge 21, 3) := by decide +kernel
theorem dX3_leadsThereFromAll_116 : decode cX3_leadsThereFromAll 116 = .ok (.aload_n 0, 1) := by decide +kernel
theorem dX3_leadsThereFromAll_117 : decode cX3_leadsThereFromAll 117 = .ok (.getfield 9, 3) := by decide +kernel
theorem dX3_leadsThereFromAll_120 : decode cX3_leadsThereFromAll 120 = .ok (.aload_n 0, 1) := by decide +kernel
theorem dX3_leadsThereFromAll_121 : decode cX3_leadsThereFromAll 121 = .ok (.getfield 15, 3) := by decide +kernel
theorem dX3_leadsThereFromAll_124 : decode cX3_leadsThereFromAll 124 = .ok (.iload_n 3, 1) := by decide +kernel
theorem dX3_leadsThereFromAll_125 : decode cX3_leadsThereFromAll 125 = .ok (.iaload, 1) := by decide +kernel
theorem dX3_leadsThereFromAll_126 : decode cX3_leadsThereFromAll 126 = .ok (.iconst 0, 1) := by decide +kernel
theorem dX3_leadsThereFromAll_127 : decode cX3_leadsThereFromAll 127 = .ok (.bastore, 1) := by decide +kernel
theorem dX3_leadsThereFromAll_128 : decode cX3_leadsThereFromAll 128 = .ok (.iinc 3 1, 3) := by decide +kernel
theorem dX3_leadsThereFromAll_131 : decode cX3_leadsThereFromAll 131 = .ok (.goto (-23), 3) := by decide +kernel
theorem dX3_leadsThereFromAll_134 : decode cX3_leadsThereFromAll 134 = .ok (.iload_n 2, 1) := by decide +kernel
theorem dX3_leadsThereFromAll_135 : decode cX3_leadsThereFromAll 135 = .ok (.ireturn, 1) := by decide +kernel
theorem dX3_goBackFrom_0 : decode cX3_goBackFrom 0 = .ok (.iconst 0, 1) := by decide +kernel
theorem dX3_goBackFrom_1 : decode cX3_goBackFrom 1 = .ok (.istore_n 2, 1) := by decide +kernel
theorem dX3_goBackFrom_2 : decode cX3_goBackFrom 2 = .ok (.iload_n 2, 1) := by decide +kernel
theorem dX3_goBackFrom_3 : decode cX3_goBackFrom 3 = .ok (.bipush 12, 2) := by decide +kernel
theorem dX3_goBackFrom_5 : decode cX3_goBackFrom 5 = .ok (.if_icmp .ge 47, 3) := by decide +kernel
theorem dX3_goBackFrom_8 : decode cX3_goBackFrom 8 = .ok (.iload_n 1, 1) := by decide +kernel
theorem dX3_goBackFrom_9 : decode cX3_goBackFrom 9 = .ok (.iconst 1, 1) := by decide +kernel
theorem dX3_goBackFrom_10 : decode cX3_goBackFrom 10 = .ok (.iload_n 2, 1) := by decide +kernel
theorem dX3_goBackFrom_11 : decode cX3_goBackFrom 11 = .ok (.ishl, 1) := by decide +kernel
theorem dX3_goBackFrom_12 : decode cX3_goBackFrom 12 = .ok (.ixor, 1) := by decide +kernel
theorem dX3_goBackFrom_13 : decode cX3_goBackFrom 13 = .ok (.istore_n 3, 1) := by decide +kernel
theorem dX3_goBackFrom_14 : decode cX3_goBackFrom 14 = .ok (.aload_n 0, 1) := by decide +kernel
theorem dX3_goBackFrom_15 : decode cX3_goBackFrom 15 = .ok (.getfield 23, 3) := by decide +kernel
theorem dX3_goBackFrom_18 : decode cX3_goBackFrom 18 = .ok (.iload_n 3, 1) := by decide +kernel
theorem dX3_goBackFrom_19 : decode cX3_goBackFrom 19 = .ok (.invokevirtual 67, 3) := by decide +kernel
theorem dX3_goBackFrom_22 : decode cX3_goBackFrom 22 = .ok (.iconst (-1), 1) := by decide +kernel
theorem dX3_goBackFrom_23 : decode cX3_goBackFrom 23 = .ok (.if_icmp .eq 23, 3) := by decide +kernel
theorem dX3_goBackFrom_26 : decode cX3_goBackFrom 26 = .ok (.aload_n 0, 1) := by decide +kernel
theorem dX3_goBackFrom_27 : decode cX3_goBackFrom 27 = .ok (.getfield 19, 3) := by decide +kernel
theorem dX3_goBackFrom_30 : decode cX3_goBackFrom 30 = .ok (.iload_n 3, 1) := by decide +kernel
theorem dX3_goBackFrom_31 : decode cX3_goBackFrom 31 = .ok (.invokevirtual 55, 3) := by decide +kernel
theorem dX3_goBackFrom_34 : decode cX3_goBackFrom 34 = .ok (.iload_n 2, 1) := by decide +kernel
theorem dX3_goBackFrom_35 : decode cX3_goBackFrom 35 = .ok (.invokestatic 34, 3) := by decide +kernel
theorem dX3_goBackFrom_38 : decode cX3_goBackFrom 38 = .ok (.ifCond .eq 8, 3) := by decide +kernel
theorem dX3_goBackFrom_41 : decode cX3_goBackFrom 41 = .ok (.aload_n 0, 1) := by decide +kernel
theorem dX3_goBackFrom_42 : decode cX3_goBackFrom 42 = .ok (.iload_n 3, 1) := by decide +kernel
theorem dX3_goBackFrom_43 : decode cX3_goBackFrom 43 = .ok (.invokevirtual 60, 3) := by decide +kernel
theorem dX3_goBackFrom_46 : decode cX3_goBackFrom 46 = .ok (.iinc 2 1, 3) := by decide +kernel
theorem dX3_goBackFrom_49 : decode cX3_goBackFrom 49 = .ok (.goto (-47), 3) := by decide +kernel
theorem dX3_goBackFrom_52 : decode cX3_goBackFrom 52 = .ok (.return_, 1) := by decide +kernel
theorem dX3_find_0 : decode cX3_find 0 = .ok (.aload_n 0, 1) := by decide +kernel
theorem dX3_find_1 : decode cX3_find 1 = .ok (.getfield 9, 3) := by decide +kernel
theorem dX3_find_4 : decode cX3_find 4 = .ok (.iload_n 1, 1) := by decide +kernel
theorem dX3_find_5 : decode cX3_find 5 = .ok (.baload, 1) := by decide +kernel
theorem dX3_find_6 : decode cX3_find 6 = .ok (.ifCond .ne 40, 3) := by decide +kernel
theorem dX3_find_9 : decode cX3_find 9 = .ok (.aload_n 0, 1) := by decide +kernel
theorem dX3_find_10 : decode cX3_find 10 = .ok (.getfield 42, 3) := by decide +kernel
theorem dX3_find_13 : decode cX3_find 13 = .ok (.sipush 4096, 3) := by decide +kernel
theorem dX3_find_16 : decode cX3_find 16 = .ok (.if_icmp .ge 30, 3) := by decide +kernel
theorem dX3_find_19 : decode cX3_find 19 = .ok (.aload_n 0, 1) := by decide +kernel
theorem dX3_find_20 : decode cX3_find 20 = .ok (.getfield 9, 3) := by decide +kernel
theorem dX3_find_23 : decode cX3_find 23 = .ok (.iload_n 1, 1) := by decide +kernel
theorem dX3_find_24 : decode cX3_find 24 = .ok (.iconst 1, 1) := by decide +kernel
theorem dX3_find_25 : decode cX3_find 25 = .ok (.bastore, 1) := by decide +kernel
theorem dX3_find_26 : decode cX3_find 26 = .ok (.aload_n 0, 1) := by decide +kernel
theorem dX3_find_27 : decode cX3_find 27 = .ok (.getfield 15, 3) := by decide +kernel
theorem dX3_find_30 : decode cX3_find 30 = .ok (.aload_n 0, 1) := by decide +kernel
theorem dX3_find_31 : decode cX3_find 31 = .ok (.getfield 42, 3) := by decide +kernel
theorem dX3_find_34 : decode cX3_find 34 = .ok (.iload_n 1, 1) := by decide +kernel
theorem dX3_find_35 : decode cX3_find 35 = .ok (.iastore, 1) := by decide +kernel
theorem dX3_find_36 : decode cX3_find 36 = .ok (.aload_n 0, 1) := by decide +kernel
theorem dX3_find_37 : decode cX3_find 37 = .ok (.dup, 1) := by decide +kernel
theorem dX3_find_38 : decode cX3_find 38 = .ok (.getfield 42, 3) := by decide +kernel
theorem dX3_find_41 : decode cX3_find 41 = .ok (.iconst 1, 1) := by decide +kernel
theorem dX3_find_42 : decode cX3_find 42 = .ok (.iadd, 1) := by decide +kernel
theorem dX3_find_43 : decode cX3_find 43 = .ok (.putfield 42, 3) := by decide +kernel
theorem dX3_find_46 : decode cX3_find 46 = .ok (.return_, 1) := by decide +kernel
theorem dX4_init_0 : decode cX4_init 0 = .ok (.aload_n 0, 1) := by decide +kernel
theorem dX4_init_1 : decode cX4_init 1 = .ok (.invokespecial 3, 3) := by decide +kernel
theorem dX4_init_4 : decode cX4_init 4 = .ok (.aload_n 0, 1) := by decide +kernel
theorem dX4_init_5 : decode cX4_init 5 = .ok (.bipush 10, 2) := by decide +kernel
theorem dX4_init_7 : decode cX4_init 7 = .ok (.newarray .int, 2) := by decide +kernel
theorem dX4_init_9 : decode cX4_init 9 = .ok (.putfield 9, 3) := by decide +kernel
theorem dX4_init_12 : decode cX4_init 12 = .ok (.aload_n 0, 1) := by decide +kernel
theorem dX4_init_13 : decode cX4_init 13 = .ok (.bipush 20, 2) := by decide +kernel
theorem dX4_init_15 : decode cX4_init 15 = .ok (.newarray .int, 2) := by decide +kernel
theorem dX4_init_17 : decode cX4_init 17 = .ok (.putfield 15, 3) := by decide +kernel
theorem dX4_init_20 : decode cX4_init 20 = .ok (.aload_n 0, 1) := by decide +kernel
theorem dX4_init_21 : decode cX4_init 21 = .ok (.bipush 20, 2) := by decide +kernel
theorem dX4_init_23 : decode cX4_init 23 = .ok (.newarray .int, 2) := by decide +kernel
theorem dX4_init_25 : decode cX4_init 25 = .ok (.putfield 18, 3) := by decide +kernel
theorem dX4_init_28 : decode cX4_init 28 = .ok (.aload_n 0, 1) := by decide +kernel
theorem dX4_init_29 : decode cX4_init 29 = .ok (.bipush 20, 2) := by decide +kernel
theorem dX4_init_31 : decode cX4_init 31 = .ok (.newarray .int, 2) := by decide +kernel
theorem dX4_init_33 : decode cX4_init 33 = .ok (.putfield 21, 3) := by decide +kernel
theorem dX4_init_36 : decode cX4_init 36 = .ok (.return_, 1) := by decide +kernel
theorem dX4_removeAll_0 : decode cX4_removeAll 0 = .ok (.aload_n 0, 1) := by decide +kernel
theorem dX4_removeAll_1 : decode cX4_removeAll 1 = .ok (.iconst 0, 1) := by decide +kernel
theorem dX4_removeAll_2 : decode cX4_removeAll 2 = .ok (.putfield 24, 3) := by decide +kernel
theorem dX4_removeAll_5 : decode cX4_removeAll 5 = .ok (.aload_n 0, 1) := by decide +kernel
theorem dX4_removeAll_6 : decode cX4_removeAll 6 = .ok (.iconst 0, 1) := by decide +kernel
theorem dX4_removeAll_7 : decode cX4_removeAll 7 = .ok (.putfield 28, 3) := by decide +kernel
theorem dX4_removeAll_10 : decode cX4_removeAll 10 = .ok (.return_, 1) := by decide +kernel
theorem dX4_addNode_0 : decode cX4_addNode 0 = .ok (.aload_n 0, 1) := by decide +kernel
theorem dX4_addNode_1 : decode cX4_addNode 1 = .ok (.getfield 24, 3) := by decide +kernel
theorem dX4_addNode_4 : decode cX4_addNode 4 = .ok (.bipush 10, 2) := by decide +kernel
theorem dX4_addNode_6 : decode cX4_addNode 6 = .ok (.if_icmp .ge 13, 3) := by decide +kernel
theorem dX4_addNode_9 : decode cX4_addNode 9 = .ok (.iload_n 1, 1) := by decide +kernel
theorem dX4_addNode_10 : decode cX4_addNode 10 = .ok (.ifCond .lt 9, 3) := by decide +kernel
theorem dX4_addNode_13 : decode cX4_addNode 13 = .ok (.iload_n 1, 1) := by decide +kernel
theorem dX4_addNode_14 : decode cX4_addNode 14 = .ok (.bipush 100, 2) := by decide +kernel
theorem dX4_addNode_16 : decode cX4_addNode 16 = .ok (.if_icmp .le 5, 3) := by decide +kernel
theorem dX4_addNode_19 : decode cX4_addNode 19 = .ok (.iconst (-1), 1) := by decide +kernel
theorem dX4_addNode_20 : decode cX4_addNode 20 = .ok (.ireturn, 1) := by decide +kernel
theorem dX4_addNode_21 : decode cX4_addNode 21 = .ok (.aload_n 0, 1) := by decide +kernel
theorem dX4_addNode_22 : decode cX4_addNode 22 = .ok (.getfield 9, 3) := by decide +kernel
theorem dX4_addNode_25 : decode cX4_addNode 25 = .ok (.aload_n 0, 1) := by decide +kernel
theorem dX4_addNode_26 : decode cX4_addNode 26 = .ok (.getfield 24, 3) := by decide +kernel
theorem dX4_addNode_29 : decode cX4_addNode 29 = .ok (.iload_n 1, 1) := by decide +kernel
theorem dX4_addNode_30 : decode cX4_addNode 30 = .ok (.iastore, 1) := by decide +kernel
theorem dX4_addNode_31 : decode cX4_addNode 31 = .ok (.aload_n 0, 1) := by decide +kernel
theorem dX4_addNode_32 : decode cX4_addNode 32 = .ok (.dup, 1) := by decide +kernel
theorem dX4_addNode_33 : decode cX4_addNode 33 = .ok (.getfield 24, 3) := by decide +kernel
theorem dX4_addNode_36 : decode cX4_addNode 36 = .ok (.iconst 1, 1) := by decide +kernel
theorem dX4_addNode_37 : decode cX4_addNode 37 = .ok (.iadd, 1) := by decide +kernel
theorem dX4_addNode_38 : decode cX4_addNode 38 = .ok (.putfield 24, 3) := by decide +kernel
theorem dX4_addNode_41 : decode cX4_addNode 41 = .ok (.aload_n 0, 1) := by decide +kernel
theorem dX4_addNode_42 : decode cX4_addNode 42 = .ok (.getfield 24, 3) := by decide +kernel
theorem dX4_addNode_45 : decode cX4_addNode 45 = .ok (.iconst 1, 1) := by decide +kernel
theorem dX4_addNode_46 : decode cX4_addNode 46 = .ok (.isub, 1) := by decide +kernel
theorem dX4_addNode_47 : decode cX4_addNode 47 = .ok (.ireturn, 1) := by decide +kernel
theorem dX4_addArc_0 : decode cX4_addArc 0 = .ok (.aload_n 0, 1) := by decide +kernel
theorem dX4_addArc_1 : decode cX4_addArc 1 = .ok (.getfield 28, 3) := by decide +kernel
theorem dX4_addArc_4 : decode cX4_addArc 4 = .ok (.bipush 20, 2) := by decide +kernel
theorem dX4_addArc_6 : decode cX4_addArc 6 = .ok (.if_icmp .ge 26, 3) := by decide +kernel
theorem dX4_addArc_9 : decode cX4_addArc 9 = .ok (.aload_n 0, 1) := by decide +kernel
theorem dX4_addArc_10 : decode cX4_addArc 10 = .ok (.iload_n 1, 1) := by decide +kernel
theorem dX4_addArc_11 : decode cX4_addArc 11 = .ok (.invokevirtual 31, 3) := by decide +kernel
theorem dX4_addArc_14 : decode cX4_addArc 14 = .ok (.ifCond .eq 18, 3) := by decide +kernel
theorem dX4_addArc_17 : decode cX4_addArc 17 = .ok (.aload_n 0, 1) := by decide +kernel
theorem dX4_addArc_18 : decode cX4_addArc 18 = .ok (.iload_n 2, 1) := by decide +kernel
theorem dX4_addArc_19 : decode cX4_addArc 19 = .ok (.invokevirtual 31, 3) := by decide +kernel
theorem dX4_addArc_22 : decode cX4_addArc 22 = .ok (.ifCond .eq 10, 3) := by decide +kernel
theorem dX4_addArc_25 : decode cX4_addArc 25 = .ok (.iload_n 3, 1) := by decide +kernel
theorem dX4_addArc_26 : decode cX4_addArc 26 = .ok (.invokestatic 35, 3) := by decide +kernel
theorem dX4_addArc_29 : decode cX4_addArc 29 = .ok (.ifCond .ne 5, 3) := by decide +kernel
theorem dX4_addArc_32 : decode cX4_addArc 32 = .ok (.iconst (-1), 1) := by decide +kernel
theorem dX4_addArc_33 : decode cX4_addArc 33 = .ok (.ireturn, 1) := by decide +kernel
theorem dX4_addArc_34 : decode cX4_addArc 34 = .ok (.aload_n 0, 1) := by decide +kernel
theorem dX4_addArc_35 : decode cX4_addArc 35 = .ok (.getfield 15, 3) := by decide +kernel
theorem dX4_addArc_38 : decode cX4_addArc 38 = .ok (.aload_n 0, 1) := by decide +kernel
theorem dX4_addArc_39 : decode cX4_addArc 39 = .ok (.getfield 28, 3) := by decide +kernel
theorem dX4_addArc_42 : decode cX4_addArc 42 = .ok (.iload_n 1, 1) := by decide +kernel
theorem dX4_addArc_43 : decode cX4_addArc 43 = .ok (.iastore, 1) := by decide +kernel
theorem dX4_addArc_44 : decode cX4_addArc 44 = .ok (.aload_n 0, 1) := by decide +kernel
theorem dX4_addArc_45 : decode cX4_addArc 45 = .ok (.getfield 18, 3) := by decide +kernel
theorem dX4_addArc_48 : decode cX4_addArc 48 = .ok (.aload_n 0, 1) := by decide +kernel
theorem dX4_addArc_49 : decode cX4_addArc 49 = .ok (.getfield 28, 3) := by decide +kernel
theorem dX4_addArc_52 : decode cX4_addArc 52 = .ok (.iload_n 2, 1) := by decide +kernel
theorem dX4_addArc_53 : decode cX4_addArc 53 = .ok (.iastore, 1) := by decide +kernel
theorem dX4_addArc_54 : decode cX4_addArc 54 = .ok (.aload_n 0, 1) := by decide +kernel
theorem dX4_addArc_55 : decode cX4_addArc 55 = .ok (.getfield 21, 3) := by decide +kernel
theorem dX4_addArc_58 : decode cX4_addArc 58 = .ok (.aload_n 0, 1) := by decide +kernel
theorem dX4_addArc_59 : decode cX4_addArc 59 = .ok (.getfield 28, 3) := by decide +kernel
theorem dX4_addArc_62 : decode cX4_addArc 62 = .ok (.iload_n 3, 1) := by decide +kernel
theorem dX4_addArc_63 : decode cX4_addArc 63 = .ok (.iastore, 1) := by decide +kernel
theorem dX4_addArc_64 : decode cX4_addArc 64 = .ok (.aload_n 0, 1) := by decide +kernel
theorem dX4_addArc_65 : decode cX4_addArc 65 = .ok (.dup, 1) := by decide +kernel
theorem dX4_addArc_66 : decode cX4_addArc 66 = .ok (.getfield 28, 3) := by decide +kernel
theorem dX4_addArc_69 : decode cX4_addArc 69 = .ok (.iconst 1, 1) := by decide +kernel
theorem dX4_addArc_70 : decode cX4_addArc 70 = .ok (.iadd, 1) := by decide +kernel
theorem dX4_addArc_71 : decode cX4_addArc 71 = .ok (.putfield 28, 3) := by decide +kernel
theorem dX4_addArc_74 : decode cX4_addArc 74 = .ok (.aload_n 0, 1) := by decide +kernel
theorem dX4_addArc_75 : decode cX4_addArc 75 = .ok (.getfield 28, 3) := by decide +kernel
theorem dX4_addArc_78 : decode cX4_addArc 78 = .ok (.iconst 1, 1) := by decide +kernel
theorem dX4_addArc_79 : decode cX4_addArc 79 = .ok (.isub, 1) := by decide +kernel
theorem dX4_addArc_80 : decode cX4_addArc 80 = .ok (.ireturn, 1) := by decide +kernel
theorem dX4_putTokens_0 : decode cX4_putTokens 0 = .ok (.iload_n 1, 1) := by decide +kernel
theorem dX4_putTokens_1 : decode cX4_putTokens 1 = .ok (.ifCond .lt 18, 3) := by decide +kernel
theorem dX4_putTokens_4 : decode cX4_putTokens 4 = .ok (.iload_n 1, 1) := by decide +kernel
theorem dX4_putTokens_5 : decode cX4_putTokens 5 = .ok (.aload_n 0, 1) := by decide +kernel
theorem dX4_putTokens_6 : decode cX4_putTokens 6 = .ok (.getfield 28, 3) := by decide +kernel
theorem dX4_putTokens_9 : decode cX4_putTokens 9 = .ok (.if_icmp .ge 10, 3) := by decide +kernel
theorem dX4_putTokens_12 : decode cX4_putTokens 12 = .ok (.iload_n 2, 1) := by decide +kernel
theorem dX4_putTokens_13 : decode cX4_putTokens 13 = .ok (.invokestatic 35, 3) := by decide +kernel
theorem dX4_putTokens_16 : decode cX4_putTokens 16 = .ok (.ifCond .ne 5, 3) := by decide +kernel
theorem dX4_putTokens_19 : decode cX4_putTokens 19 = .ok (.iconst 0, 1) := by decide +kernel
theorem dX4_putTokens_20 : decode cX4_putTokens 20 = .ok (.ireturn, 1) := by decide +kernel
theorem dX4_putTokens_21 : decode cX4_putTokens 21 = .ok (.aload_n 0, 1) := by decide +kernel
theorem dX4_putTokens_22 : decode cX4_putTokens 22 = .ok (.getfield 21, 3) := by decide +kernel
theorem dX4_putTokens_25 : decode cX4_putTokens 25 = .ok (.iload_n 1, 1) := by decide +kernel
theorem dX4_putTokens_26 : decode cX4_putTokens 26 = .ok (.iload_n 2, 1) := by decide +kernel
theorem dX4_putTokens_27 : decode cX4_putTokens 27 = .ok (.iastore, 1) := by decide +kernel
theorem dX4_putTokens_28 : decode cX4_putTokens 28 = .ok (.iconst 1, 1) := by decide +kernel
theorem dX4_putTokens_29 : decode cX4_putTokens 29 = .ok (.ireturn, 1) := by decide +kernel
theorem dX4_isTokens_0 : decode cX4_isTokens 0 = .ok (.iload_n 0, 1) := by decide +kernel
theorem dX4_isTokens_1 : decode cX4_isTokens 1 = .ok (.ifCond .lt 13, 3) := by decide +kernel
theorem dX4_isTokens_4 : decode cX4_isTokens 4 = .ok (.iload_n 0, 1) := by decide +kernel
theorem dX4_isTokens_5 : decode cX4_isTokens 5 = .ok (.bipush 9, 2) := by decide +kernel
theorem dX4_isTokens_7 : decode cX4_isTokens 7 = .ok (.if_icmp .gt 7, 3) := by decide +kernel
theorem dX4_isTokens_10 : decode cX4_isTokens 10 = .ok (.iconst 1, 1) := by decide +kernel
theorem dX4_isTokens_11 : decode cX4_isTokens 11 = .ok (.goto 4, 3) := by decide +kernel
theorem dX4_isTokens_14 : decode cX4_isTokens 14 = .ok (.iconst 0, 1) := by decide +kernel
theorem dX4_isTokens_15 : decode cX4_isTokens 15 = .ok (.ireturn, 1) := by decide +kernel
theorem dX4_isNode_0 : decode cX4_isNode 0 = .ok (.iload_n 1, 1) := by decide +kernel
theorem dX4_isNode_1 : decode cX4_isNode 1 = .ok (.ifCond .lt 15, 3) := by decide +kernel
theorem dX4_isNode_4 : decode cX4_isNode 4 = .ok (.iload_n 1, 1) := by decide +kernel
theorem dX4_isNode_5 : decode cX4_isNode 5 = .ok (.aload_n 0, 1) := by decide +kernel
theorem dX4_isNode_6 : decode cX4_isNode 6 = .ok (.getfield 24, 3) := by decide +kernel
theorem dX4_isNode_9 : decode cX4_isNode 9 = .ok (.if_icmp .ge 7, 3) := by decide +kernel
theorem dX4_isNode_12 : decode cX4_isNode 12 = .ok (.iconst 1, 1) := by decide +kernel
theorem dX4_isNode_13 : decode cX4_isNode 13 = .ok (.goto 4, 3) := by decide +kernel
theorem dX4_isNode_16 : decode cX4_isNode 16 = .ok (.iconst 0, 1) := by decide +kernel
theorem dX4_isNode_17 : decode cX4_isNode 17 = .ok (.ireturn, 1) := by decide +kernel
theorem dX4_nodes_0 : decode cX4_nodes 0 = .ok (.aload_n 0, 1) := by decide +kernel
theorem dX4_nodes_1 : decode cX4_nodes 1 = .ok (.getfield 24, 3) := by decide +kernel
theorem dX4_nodes_4 : decode cX4_nodes 4 = .ok (.ireturn, 1) := by decide +kernel
theorem dX4_arcs_0 : decode cX4_arcs 0 = .ok (.aload_n 0, 1) := by decide +kernel
theorem dX4_arcs_1 : decode cX4_arcs 1 = .ok (.getfield 28, 3) := by decide +kernel
theorem dX4_arcs_4 : decode cX4_arcs 4 = .ok (.ireturn, 1) := by decide +kernel
theorem dX4_delayOf_0 : decode cX4_delayOf 0 = .ok (.aload_n 0, 1) := by decide +kernel
theorem dX4_delayOf_1 : decode cX4_delayOf 1 = .ok (.getfield 9, 3) := by decide +kernel
theorem dX4_delayOf_4 : decode cX4_delayOf 4 = .ok (.iload_n 1, 1) := by decide +kernel
theorem dX4_delayOf_5 : decode cX4_delayOf 5 = .ok (.iaload, 1) := by decide +kernel
theorem dX4_delayOf_6 : decode cX4_delayOf 6 = .ok (.ireturn, 1) := by decide +kernel
theorem dX4_sourceOf_0 : decode cX4_sourceOf 0 = .ok (.aload_n 0, 1) := by decide +kernel
theorem dX4_sourceOf_1 : decode cX4_sourceOf 1 = .ok (.getfield 15, 3) := by decide +kernel
theorem dX4_sourceOf_4 : decode cX4_sourceOf 4 = .ok (.iload_n 1, 1) := by decide +kernel
theorem dX4_sourceOf_5 : decode cX4_sourceOf 5 = .ok (.iaload, 1) := by decide +kernel
theorem dX4_sourceOf_6 : decode cX4_sourceOf 6 = .ok (.ireturn, 1) := by decide +kernel
theorem dX4_targetOf_0 : decode cX4_targetOf 0 = .ok (.aload_n 0, 1) := by decide +kernel
theorem dX4_targetOf_1 : decode cX4_targetOf 1 = .ok (.getfield 18, 3) := by decide +kernel
theorem dX4_targetOf_4 : decode cX4_targetOf 4 = .ok (.iload_n 1, 1) := by decide +kernel
theorem dX4_targetOf_5 : decode cX4_targetOf 5 = .ok (.iaload, 1) := by decide +kernel
theorem dX4_targetOf_6 : decode cX4_targetOf 6 = .ok (.ireturn, 1) := by decide +kernel
theorem dX4_tokensOf_0 : decode cX4_tokensOf 0 = .ok (.aload_n 0, 1) := by decide +kernel
theorem dX4_tokensOf_1 : decode cX4_tokensOf 1 = .ok (.getfield 21, 3) := by decide +kernel
theorem dX4_tokensOf_4 : decode cX4_tokensOf 4 = .ok (.iload_n 1, 1) := by decide +kernel
theorem dX4_tokensOf_5 : decode cX4_tokensOf 5 = .ok (.iaload, 1) := by decide +kernel
theorem dX4_tokensOf_6 : decode cX4_tokensOf 6 = .ok (.ireturn, 1) := by decide +kernel
theorem dX4_allNodes_0 : decode cX4_allNodes 0 = .ok (.iconst 1, 1) := by decide +kernel
theorem dX4_allNodes_1 : decode cX4_allNodes 1 = .ok (.aload_n 0, 1) := by decide +kernel
theorem dX4_allNodes_2 : decode cX4_allNodes 2 = .ok (.getfield 24, 3) := by decide +kernel
theorem dX4_allNodes_5 : decode cX4_allNodes 5 = .ok (.ishl, 1) := by decide +kernel
theorem dX4_allNodes_6 : decode cX4_allNodes 6 = .ok (.iconst 1, 1) := by decide +kernel
theorem dX4_allNodes_7 : decode cX4_allNodes 7 = .ok (.isub, 1) := by decide +kernel
theorem dX4_allNodes_8 : decode cX4_allNodes 8 = .ok (.ireturn, 1) := by decide +kernel
theorem dX4_hasDeadRing_0 : decode cX4_hasDeadRing 0 = .ok (.aload_n 0, 1) := by decide +kernel
theorem dX4_hasDeadRing_1 : decode cX4_hasDeadRing 1 = .ok (.iconst 0, 1) := by decide +kernel
theorem dX4_hasDeadRing_2 : decode cX4_hasDeadRing 2 = .ok (.invokevirtual 38, 3) := by decide +kernel
theorem dX4_hasDeadRing_5 : decode cX4_hasDeadRing 5 = .ok (.ifCond .eq 7, 3) := by decide +kernel
theorem dX4_hasDeadRing_8 : decode cX4_hasDeadRing 8 = .ok (.iconst 1, 1) := by decide +kernel
theorem dX4_hasDeadRing_9 : decode cX4_hasDeadRing 9 = .ok (.goto 4, 3) := by decide +kernel
theorem dX4_hasDeadRing_12 : decode cX4_hasDeadRing 12 = .ok (.iconst 0, 1) := by decide +kernel
theorem dX4_hasDeadRing_13 : decode cX4_hasDeadRing 13 = .ok (.ireturn, 1) := by decide +kernel
theorem dX4_hasRing_0 : decode cX4_hasRing 0 = .ok (.aload_n 0, 1) := by decide +kernel
theorem dX4_hasRing_1 : decode cX4_hasRing 1 = .ok (.bipush 9, 2) := by decide +kernel
theorem dX4_hasRing_3 : decode cX4_hasRing 3 = .ok (.invokevirtual 38, 3) := by decide +kernel
theorem dX4_hasRing_6 : decode cX4_hasRing 6 = .ok (.ifCond .eq 7, 3) := by decide +kernel
theorem dX4_hasRing_9 : decode cX4_hasRing 9 = .ok (.iconst 1, 1) := by decide +kernel
theorem dX4_hasRing_10 : decode cX4_hasRing 10 = .ok (.goto 4, 3) := by decide +kernel
theorem dX4_hasRing_13 : decode cX4_hasRing 13 = .ok (.iconst 0, 1) := by decide +kernel
theorem dX4_hasRing_14 : decode cX4_hasRing 14 = .ok (.ireturn, 1) := by decide +kernel
theorem dX4_nodesBehindRings_0 : decode cX4_nodesBehindRings 0 = .ok (.iconst 0, 1) := by decide +kernel
theorem dX4_nodesBehindRings_1 : decode cX4_nodesBehindRings 1 = .ok (.istore_n 2, 1) := by decide +kernel
theorem dX4_nodesBehindRings_2 : decode cX4_nodesBehindRings 2 = .ok (.iconst 0, 1) := by decide +kernel
theorem dX4_nodesBehindRings_3 : decode cX4_nodesBehindRings 3 = .ok (.istore_n 3, 1) := by decide +kernel
theorem dX4_nodesBehindRings_4 : decode cX4_nodesBehindRings 4 = .ok (.iload_n 3, 1) := by decide +kernel
theorem dX4_nodesBehindRings_5 : decode cX4_nodesBehindRings 5 = .ok (.aload_n 0, 1) := by decide +kernel
theorem dX4_nodesBehindRings_6 : decode cX4_nodesBehindRings 6 = .ok (.getfield 24, 3) := by decide +kernel
theorem dX4_nodesBehindRings_9 : decode cX4_nodesBehindRings 9 = .ok (.if_icmp .ge 16, 3) := by decide +kernel
theorem dX4_nodesBehindRings_12 : decode cX4_nodesBehindRings 12 = .ok (.aload_n 0, 1) := by decide +kernel
theorem dX4_nodesBehindRings_13 : decode cX4_nodesBehindRings 13 = .ok (.iload_n 2, 1) := by decide +kernel
theorem dX4_nodesBehindRings_14 : decode cX4_nodesBehindRings 14 = .ok (.iload_n 1, 1) := by decide +kernel
theorem dX4_nodesBehindRings_15 : decode cX4_nodesBehindRings 15 = .ok (.invokevirtual 42, 3) := by decide +kernel
theorem dX4_nodesBehindRings_18 : decode cX4_nodesBehindRings 18 = .ok (.istore_n 2, 1) := by decide +kernel
theorem dX4_nodesBehindRings_19 : decode cX4_nodesBehindRings 19 = .ok (.iinc 3 1, 3) := by decide +kernel
theorem dX4_nodesBehindRings_22 : decode cX4_nodesBehindRings 22 = .ok (.goto (-18), 3) := by decide +kernel
theorem dX4_nodesBehindRings_25 : decode cX4_nodesBehindRings 25 = .ok (.aload_n 0, 1) := by decide +kernel
theorem dX4_nodesBehindRings_26 : decode cX4_nodesBehindRings 26 = .ok (.invokevirtual 46, 3) := by decide +kernel
theorem dX4_nodesBehindRings_29 : decode cX4_nodesBehindRings 29 = .ok (.iload_n 2, 1) := by decide +kernel
theorem dX4_nodesBehindRings_30 : decode cX4_nodesBehindRings 30 = .ok (.iconst (-1), 1) := by decide +kernel
theorem dX4_nodesBehindRings_31 : decode cX4_nodesBehindRings 31 = .ok (.ixor, 1) := by decide +kernel
theorem dX4_nodesBehindRings_32 : decode cX4_nodesBehindRings 32 = .ok (.iand, 1) := by decide +kernel
theorem dX4_nodesBehindRings_33 : decode cX4_nodesBehindRings 33 = .ok (.ireturn, 1) := by decide +kernel
theorem dX4_freedBy_0 : decode cX4_freedBy 0 = .ok (.iconst 0, 1) := by decide +kernel
theorem dX4_freedBy_1 : decode cX4_freedBy 1 = .ok (.istore_n 3, 1) := by decide +kernel
theorem dX4_freedBy_2 : decode cX4_freedBy 2 = .ok (.iconst 0, 1) := by decide +kernel
theorem dX4_freedBy_3 : decode cX4_freedBy 3 = .ok (.istore 4, 2) := by decide +kernel
theorem dX4_freedBy_5 : decode cX4_freedBy 5 = .ok (.iload 4, 2) := by decide +kernel
theorem dX4_freedBy_7 : decode cX4_freedBy 7 = .ok (.aload_n 0, 1) := by decide +kernel
theorem dX4_freedBy_8 : decode cX4_freedBy 8 = .ok (.getfield 28, 3) := by decide +kernel
theorem dX4_freedBy_11 : decode cX4_freedBy 11 = .ok (.if_icmp .ge 46, 3) := by decide +kernel
theorem dX4_freedBy_14 : decode cX4_freedBy 14 = .ok (.aload_n 0, 1) := by decide +kernel
theorem dX4_freedBy_15 : decode cX4_freedBy 15 = .ok (.getfield 21, 3) := by decide +kernel
theorem dX4_freedBy_18 : decode cX4_freedBy 18 = .ok (.iload 4, 2) := by decide +kernel
theorem dX4_freedBy_20 : decode cX4_freedBy 20 = .ok (.iaload, 1) := by decide +kernel
theorem dX4_freedBy_21 : decode cX4_freedBy 21 = .ok (.iload_n 2, 1) := by decide +kernel
theorem dX4_freedBy_22 : decode cX4_freedBy 22 = .ok (.if_icmp .gt 29, 3) := by decide +kernel
theorem dX4_freedBy_25 : decode cX4_freedBy 25 = .ok (.iload_n 1, 1) := by decide +kernel
theorem dX4_freedBy_26 : decode cX4_freedBy 26 = .ok (.aload_n 0, 1) := by decide +kernel
theorem dX4_freedBy_27 : decode cX4_freedBy 27 = .ok (.getfield 15, 3) := by decide +kernel
theorem dX4_freedBy_30 : decode cX4_freedBy 30 = .ok (.iload 4, 2) := by decide +kernel
theorem dX4_freedBy_32 : decode cX4_freedBy 32 = .ok (.iaload, 1) := by decide +kernel
theorem dX4_freedBy_33 : decode cX4_freedBy 33 = .ok (.invokestatic 50, 3) := by decide +kernel
theorem dX4_freedBy_36 : decode cX4_freedBy 36 = .ok (.ifCond .ne 15, 3) := by decide +kernel
theorem dX4_freedBy_39 : decode cX4_freedBy 39 = .ok (.iload_n 3, 1) := by decide +kernel
theorem dX4_freedBy_40 : decode cX4_freedBy 40 = .ok (.iconst 1, 1) := by decide +kernel
theorem dX4_freedBy_41 : decode cX4_freedBy 41 = .ok (.aload_n 0, 1) := by decide +kernel
theorem dX4_freedBy_42 : decode cX4_freedBy 42 = .ok (.getfield 18, 3) := by decide +kernel
theorem dX4_freedBy_45 : decode cX4_freedBy 45 = .ok (.iload 4, 2) := by decide +kernel
theorem dX4_freedBy_47 : decode cX4_freedBy 47 = .ok (.iaload, 1) := by decide +kernel
theorem dX4_freedBy_48 : decode cX4_freedBy 48 = .ok (.ishl, 1) := by decide +kernel
theorem dX4_freedBy_49 : decode cX4_freedBy 49 = .ok (.ior, 1) := by decide +kernel
theorem dX4_freedBy_50 : decode cX4_freedBy 50 = .ok (.istore_n 3, 1) := by decide +kernel
theorem dX4_freedBy_51 : decode cX4_freedBy 51 = .ok (.iinc 4 1, 3) := by decide +kernel
theorem dX4_freedBy_54 : decode cX4_freedBy 54 = .ok (.goto (-49), 3) := by decide +kernel
theorem dX4_freedBy_57 : decode cX4_freedBy 57 = .ok (.aload_n 0, 1) := by decide +kernel
theorem dX4_freedBy_58 : decode cX4_freedBy 58 = .ok (.invokevirtual 46, 3) := by decide +kernel
theorem dX4_freedBy_61 : decode cX4_freedBy 61 = .ok (.iload_n 3, 1) := by decide +kernel
theorem dX4_freedBy_62 : decode cX4_freedBy 62 = .ok (.iconst (-1), 1) := by decide +kernel
theorem dX4_freedBy_63 : decode cX4_freedBy 63 = .ok (.ixor, 1) := by decide +kernel
theorem dX4_freedBy_64 : decode cX4_freedBy 64 = .ok (.iand, 1) := by decide +kernel
theorem dX4_freedBy_65 : decode cX4_freedBy 65 = .ok (.ireturn, 1) := by decide +kernel
theorem dX5_init_0 : decode cX5_init 0 = .ok (.aload_n 0, 1) := by decide +kernel
theorem dX5_init_1 : decode cX5_init 1 = .ok (.invokespecial 3, 3) := by decide +kernel
theorem dX5_init_4 : decode cX5_init 4 = .ok (.aload_n 0, 1) := by decide +kernel
theorem dX5_init_5 : decode cX5_init 5 = .ok (.iconst 1, 1) := by decide +kernel
theorem dX5_init_6 : decode cX5_init 6 = .ok (.putfield 9, 3) := by decide +kernel
theorem dX5_init_9 : decode cX5_init 9 = .ok (.return_, 1) := by decide +kernel
theorem dX5_putBelowAll_0 : decode cX5_putBelowAll 0 = .ok (.aload_n 0, 1) := by decide +kernel
theorem dX5_putBelowAll_1 : decode cX5_putBelowAll 1 = .ok (.iconst (-1), 1) := by decide +kernel
theorem dX5_putBelowAll_2 : decode cX5_putBelowAll 2 = .ok (.putfield 15, 3) := by decide +kernel
theorem dX5_putBelowAll_5 : decode cX5_putBelowAll 5 = .ok (.aload_n 0, 1) := by decide +kernel
theorem dX5_putBelowAll_6 : decode cX5_putBelowAll 6 = .ok (.iconst 1, 1) := by decide +kernel
theorem dX5_putBelowAll_7 : decode cX5_putBelowAll 7 = .ok (.putfield 9, 3) := by decide +kernel
theorem dX5_putBelowAll_10 : decode cX5_putBelowAll 10 = .ok (.return_, 1) := by decide +kernel
theorem dX5_put_0 : decode cX5_put 0 = .ok (.iload_n 1, 1) := by decide +kernel
theorem dX5_put_1 : decode cX5_put 1 = .ok (.iload_n 2, 1) := by decide +kernel
theorem dX5_put_2 : decode cX5_put 2 = .ok (.invokestatic 18, 3) := by decide +kernel
theorem dX5_put_5 : decode cX5_put 5 = .ok (.istore_n 3, 1) := by decide +kernel
theorem dX5_put_6 : decode cX5_put 6 = .ok (.iload_n 3, 1) := by decide +kernel
theorem dX5_put_7 : decode cX5_put 7 = .ok (.ifCond .eq 17, 3) := by decide +kernel
theorem dX5_put_10 : decode cX5_put 10 = .ok (.aload_n 0, 1) := by decide +kernel
theorem dX5_put_11 : decode cX5_put 11 = .ok (.iload_n 1, 1) := by decide +kernel
theorem dX5_put_12 : decode cX5_put 12 = .ok (.iload_n 3, 1) := by decide +kernel
theorem dX5_put_13 : decode cX5_put 13 = .ok (.idiv, 1) := by decide +kernel
theorem dX5_put_14 : decode cX5_put 14 = .ok (.putfield 15, 3) := by decide +kernel
theorem dX5_put_17 : decode cX5_put 17 = .ok (.aload_n 0, 1) := by decide +kernel
theorem dX5_put_18 : decode cX5_put 18 = .ok (.iload_n 2, 1) := by decide +kernel
theorem dX5_put_19 : decode cX5_put 19 = .ok (.iload_n 3, 1) := by decide +kernel
theorem dX5_put_20 : decode cX5_put 20 = .ok (.idiv, 1) := by decide +kernel
theorem dX5_put_21 : decode cX5_put 21 = .ok (.putfield 9, 3) := by decide +kernel
theorem dX5_put_24 : decode cX5_put 24 = .ok (.return_, 1) := by decide +kernel
theorem dX5_putAs_0 : decode cX5_putAs 0 = .ok (.aload_n 0, 1) := by decide +kernel
theorem dX5_putAs_1 : decode cX5_putAs 1 = .ok (.aload_n 1, 1) := by decide +kernel
theorem dX5_putAs_2 : decode cX5_putAs 2 = .ok (.getfield 15, 3) := by decide +kernel
theorem dX5_putAs_5 : decode cX5_putAs 5 = .ok (.putfield 15, 3) := by decide +kernel
theorem dX5_putAs_8 : decode cX5_putAs 8 = .ok (.aload_n 0, 1) := by decide +kernel
theorem dX5_putAs_9 : decode cX5_putAs 9 = .ok (.aload_n 1, 1) := by decide +kernel
theorem dX5_putAs_10 : decode cX5_putAs 10 = .ok (.getfield 9, 3) := by decide +kernel
theorem dX5_putAs_13 : decode cX5_putAs 13 = .ok (.putfield 9, 3) := by decide +kernel
theorem dX5_putAs_16 : decode cX5_putAs 16 = .ok (.return_, 1) := by decide +kernel
theorem dX5_top_0 : decode cX5_top 0 = .ok (.aload_n 0, 1) := by decide +kernel
theorem dX5_top_1 : decode cX5_top 1 = .ok (.getfield 15, 3) := by decide +kernel
theorem dX5_top_4 : decode cX5_top 4 = .ok (.ireturn, 1) := by decide +kernel
theorem dX5_bottom_0 : decode cX5_bottom 0 = .ok (.aload_n 0, 1) := by decide +kernel
theorem dX5_bottom_1 : decode cX5_bottom 1 = .ok (.getfield 9, 3) := by decide +kernel
theorem dX5_bottom_4 : decode cX5_bottom 4 = .ok (.ireturn, 1) := by decide +kernel
theorem dX5_isLess_0 : decode cX5_isLess 0 = .ok (.aload_n 0, 1) := by decide +kernel
theorem dX5_isLess_1 : decode cX5_isLess 1 = .ok (.getfield 15, 3) := by decide +kernel
theorem dX5_isLess_4 : decode cX5_isLess 4 = .ok (.aload_n 1, 1) := by decide +kernel
theorem dX5_isLess_5 : decode cX5_isLess 5 = .ok (.getfield 9, 3) := by decide +kernel
theorem dX5_isLess_8 : decode cX5_isLess 8 = .ok (.imul, 1) := by decide +kernel
theorem dX5_isLess_9 : decode cX5_isLess 9 = .ok (.aload_n 1, 1) := by decide +kernel
theorem dX5_isLess_10 : decode cX5_isLess 10 = .ok (.getfield 15, 3) := by decide +kernel
theorem dX5_isLess_13 : decode cX5_isLess 13 = .ok (.aload_n 0, 1) := by decide +kernel
theorem dX5_isLess_14 : decode cX5_isLess 14 = .ok (.getfield 9, 3) := by decide +kernel
theorem dX5_isLess_17 : decode cX5_isLess 17 = .ok (.imul, 1) := by decide +kernel
theorem dX5_isLess_18 : decode cX5_isLess 18 = .ok (.if_icmp .ge 7, 3) := by decide +kernel
theorem dX5_isLess_21 : decode cX5_isLess 21 = .ok (.iconst 1, 1) := by decide +kernel
theorem dX5_isLess_22 : decode cX5_isLess 22 = .ok (.goto 4, 3) := by decide +kernel
theorem dX5_isLess_25 : decode cX5_isLess 25 = .ok (.iconst 0, 1) := by decide +kernel
theorem dX5_isLess_26 : decode cX5_isLess 26 = .ok (.ireturn, 1) := by decide +kernel
theorem dX5_commonDivisor_0 : decode cX5_commonDivisor 0 = .ok (.iload_n 0, 1) := by decide +kernel
theorem dX5_commonDivisor_1 : decode cX5_commonDivisor 1 = .ok (.istore_n 2, 1) := by decide +kernel
theorem dX5_commonDivisor_2 : decode cX5_commonDivisor 2 = .ok (.iload_n 1, 1) := by decide +kernel
theorem dX5_commonDivisor_3 : decode cX5_commonDivisor 3 = .ok (.istore_n 3, 1) := by decide +kernel
theorem dX5_commonDivisor_4 : decode cX5_commonDivisor 4 = .ok (.iconst 0, 1) := by decide +kernel
theorem dX5_commonDivisor_5 : decode cX5_commonDivisor 5 = .ok (.istore 4, 2) := by decide +kernel
theorem dX5_commonDivisor_7 : decode cX5_commonDivisor 7 = .ok (.iload 4, 2) := by decide +kernel
theorem dX5_commonDivisor_9 : decode cX5_commonDivisor 9 = .ok (.bipush 64, 2) := by decide +kernel
theorem dX5_commonDivisor_11 : decode cX5_commonDivisor 11 = .ok (.if_icmp .ge 23, 3) := by decide +kernel
theorem dX5_commonDivisor_14 : decode cX5_commonDivisor 14 = .ok (.iload_n 3, 1) := by decide +kernel
theorem dX5_commonDivisor_15 : decode cX5_commonDivisor 15 = .ok (.ifCond .eq 19, 3) := by decide +kernel
theorem dX5_commonDivisor_18 : decode cX5_commonDivisor 18 = .ok (.iload_n 2, 1) := by decide +kernel
theorem dX5_commonDivisor_19 : decode cX5_commonDivisor 19 = .ok (.iload_n 3, 1) := by decide +kernel
theorem dX5_commonDivisor_20 : decode cX5_commonDivisor 20 = .ok (.irem, 1) := by decide +kernel
theorem dX5_commonDivisor_21 : decode cX5_commonDivisor 21 = .ok (.istore 5, 2) := by decide +kernel
theorem dX5_commonDivisor_23 : decode cX5_commonDivisor 23 = .ok (.iload_n 3, 1) := by decide +kernel
theorem dX5_commonDivisor_24 : decode cX5_commonDivisor 24 = .ok (.istore_n 2, 1) := by decide +kernel
theorem dX5_commonDivisor_25 : decode cX5_commonDivisor 25 = .ok (.iload 5, 2) := by decide +kernel
theorem dX5_commonDivisor_27 : decode cX5_commonDivisor 27 = .ok (.istore_n 3, 1) := by decide +kernel
theorem dX5_commonDivisor_28 : decode cX5_commonDivisor 28 = .ok (.iinc 4 1, 3) := by decide +kernel
theorem dX5_commonDivisor_31 : decode cX5_commonDivisor 31 = .ok (.goto (-24), 3) := by decide +kernel
theorem dX5_commonDivisor_34 : decode cX5_commonDivisor 34 = .ok (.iload_n 2, 1) := by decide +kernel
theorem dX5_commonDivisor_35 : decode cX5_commonDivisor 35 = .ok (.ireturn, 1) := by decide +kernel
theorem dX6_init_0 : decode cX6_init 0 = .ok (.aload_n 0, 1) := by decide +kernel
theorem dX6_init_1 : decode cX6_init 1 = .ok (.invokespecial 3, 3) := by decide +kernel
theorem dX6_init_4 : decode cX6_init 4 = .ok (.aload_n 0, 1) := by decide +kernel
theorem dX6_init_5 : decode cX6_init 5 = .ok (.aload_n 1, 1) := by decide +kernel
theorem dX6_init_6 : decode cX6_init 6 = .ok (.putfield 9, 3) := by decide +kernel
theorem dX6_init_9 : decode cX6_init 9 = .ok (.return_, 1) := by decide +kernel
theorem dX6_read_0 : decode cX6_read 0 = .ok (.aload_n 1, 1) := by decide +kernel
theorem dX6_read_1 : decode cX6_read 1 = .ok (.invokevirtual 15, 3) := by decide +kernel
theorem dX6_read_4 : decode cX6_read 4 = .ok (.aload_n 0, 1) := by decide +kernel
theorem dX6_read_5 : decode cX6_read 5 = .ok (.aload_n 0, 1) := by decide +kernel
theorem dX6_read_6 : decode cX6_read 6 = .ok (.getfield 9, 3) := by decide +kernel
theorem dX6_read_9 : decode cX6_read 9 = .ok (.iconst 0, 1) := by decide +kernel
theorem dX6_read_10 : decode cX6_read 10 = .ok (.invokevirtual 20, 3) := by decide +kernel
theorem dX6_read_13 : decode cX6_read 13 = .ok (.putfield 26, 3) := by decide +kernel
theorem dX6_read_16 : decode cX6_read 16 = .ok (.aload_n 0, 1) := by decide +kernel
theorem dX6_read_17 : decode cX6_read 17 = .ok (.invokevirtual 30, 3) := by decide +kernel
theorem dX6_read_20 : decode cX6_read 20 = .ok (.ifCond .eq 5, 3) := by decide +kernel
theorem dX6_read_23 : decode cX6_read 23 = .ok (.iconst (-1), 1) := by decide +kernel
theorem dX6_read_24 : decode cX6_read 24 = .ok (.ireturn, 1) := by decide +kernel
theorem dX6_read_25 : decode cX6_read 25 = .ok (.iconst 0, 1) := by decide +kernel
theorem dX6_read_26 : decode cX6_read 26 = .ok (.istore_n 2, 1) := by decide +kernel
theorem dX6_read_27 : decode cX6_read 27 = .ok (.iload_n 2, 1) := by decide +kernel
theorem dX6_read_28 : decode cX6_read 28 = .ok (.bipush 12, 2) := by decide +kernel
theorem dX6_read_30 : decode cX6_read 30 = .ok (.if_icmp .ge 49, 3) := by decide +kernel
theorem dX6_read_33 : decode cX6_read 33 = .ok (.aload_n 0, 1) := by decide +kernel
theorem dX6_read_34 : decode cX6_read 34 = .ok (.aload_n 1, 1) := by decide +kernel
theorem dX6_read_35 : decode cX6_read 35 = .ok (.invokevirtual 34, 3) := by decide +kernel
theorem dX6_read_38 : decode cX6_read 38 = .ok (.ifCond .ne 8, 3) := by decide +kernel
theorem dX6_read_41 : decode cX6_read 41 = .ok (.aload_n 0, 1) := by decide +kernel
theorem dX6_read_42 : decode cX6_read 42 = .ok (.getfield 26, 3) := by decide +kernel
theorem dX6_read_45 : decode cX6_read 45 = .ok (.ireturn, 1) := by decide +kernel
theorem dX6_read_46 : decode cX6_read 46 = .ok (.aload_n 0, 1) := by decide +kernel
theorem dX6_read_47 : decode cX6_read 47 = .ok (.invokevirtual 30, 3) := by decide +kernel
theorem dX6_read_50 : decode cX6_read 50 = .ok (.ifCond .eq 5, 3) := by decide +kernel
theorem dX6_read_53 : decode cX6_read 53 = .ok (.iconst (-1), 1) := by decide +kernel
theorem dX6_read_54 : decode cX6_read 54 = .ok (.ireturn, 1) := by decide +kernel
theorem dX6_read_55 : decode cX6_read 55 = .ok (.aload_n 0, 1) := by decide +kernel
theorem dX6_read_56 : decode cX6_read 56 = .ok (.bipush 59, 2) := by decide +kernel
theorem dX6_read_58 : decode cX6_read 58 = .ok (.invokevirtual 38, 3) := by decide +kernel
theorem dX6_read_61 : decode cX6_read 61 = .ok (.ifCond .ne 8, 3) := by decide +kernel
theorem dX6_read_64 : decode cX6_read 64 = .ok (.aload_n 0, 1) := by decide +kernel
theorem dX6_read_65 : decode cX6_read 65 = .ok (.getfield 26, 3) := by decide +kernel
theorem dX6_read_68 : decode cX6_read 68 = .ok (.ireturn, 1) := by decide +kernel
theorem dX6_read_69 : decode cX6_read 69 = .ok (.aload_n 0, 1) := by decide +kernel
theorem dX6_read_70 : decode cX6_read 70 = .ok (.invokevirtual 42, 3) := by decide +kernel
theorem dX6_read_73 : decode cX6_read 73 = .ok (.iinc 2 1, 3) := by decide +kernel
theorem dX6_read_76 : decode cX6_read 76 = .ok (.goto (-49), 3) := by decide +kernel
theorem dX6_read_79 : decode cX6_read 79 = .ok (.aload_n 0, 1) := by decide +kernel
theorem dX6_read_80 : decode cX6_read 80 = .ok (.getfield 26, 3) := by decide +kernel
theorem dX6_read_83 : decode cX6_read 83 = .ok (.ireturn, 1) := by decide +kernel
theorem dX6_readEquation_0 : decode cX6_readEquation 0 = .ok (.aload_n 0, 1) := by decide +kernel
theorem dX6_readEquation_1 : decode cX6_readEquation 1 = .ok (.invokevirtual 45, 3) := by decide +kernel
theorem dX6_readEquation_4 : decode cX6_readEquation 4 = .ok (.istore_n 2, 1) := by decide +kernel
theorem dX6_readEquation_5 : decode cX6_readEquation 5 = .ok (.iload_n 2, 1) := by decide +kernel
theorem dX6_readEquation_6 : decode cX6_readEquation 6 = .ok (.iconst (-1), 1) := by decide +kernel
theorem dX6_readEquation_7 : decode cX6_readEquation 7 = .ok (.if_icmp .eq 11, 3) := by decide +kernel
theorem dX6_readEquation_10 : decode cX6_readEquation 10 = .ok (.aload_n 1, 1) := by decide +kernel
theorem dX6_readEquation_11 : decode cX6_readEquation 11 = .ok (.iload_n 2, 1) := by decide +kernel
theorem dX6_readEquation_12 : decode cX6_readEquation 12 = .ok (.invokevirtual 49, 3) := by decide +kernel
theorem dX6_readEquation_15 : decode cX6_readEquation 15 = .ok (.ifCond .eq 5, 3) := by decide +kernel
theorem dX6_readEquation_18 : decode cX6_readEquation 18 = .ok (.iconst 0, 1) := by decide +kernel
theorem dX6_readEquation_19 : decode cX6_readEquation 19 = .ok (.ireturn, 1) := by decide +kernel
theorem dX6_readEquation_20 : decode cX6_readEquation 20 = .ok (.aload_n 0, 1) := by decide +kernel
theorem dX6_readEquation_21 : decode cX6_readEquation 21 = .ok (.invokevirtual 42, 3) := by decide +kernel
theorem dX6_readEquation_24 : decode cX6_readEquation 24 = .ok (.aload_n 0, 1) := by decide +kernel
theorem dX6_readEquation_25 : decode cX6_readEquation 25 = .ok (.bipush 61, 2) := by decide +kernel
theorem dX6_readEquation_27 : decode cX6_readEquation 27 = .ok (.invokevirtual 38, 3) := by decide +kernel
theorem dX6_readEquation_30 : decode cX6_readEquation 30 = .ok (.ifCond .ne 5, 3) := by decide +kernel
theorem dX6_readEquation_33 : decode cX6_readEquation 33 = .ok (.iconst 0, 1) := by decide +kernel
theorem dX6_readEquation_34 : decode cX6_readEquation 34 = .ok (.ireturn, 1) := by decide +kernel
theorem dX6_readEquation_35 : decode cX6_readEquation 35 = .ok (.aload_n 0, 1) := by decide +kernel
theorem dX6_readEquation_36 : decode cX6_readEquation 36 = .ok (.invokevirtual 42, 3) := by decide +kernel
theorem dX6_readEquation_39 : decode cX6_readEquation 39 = .ok (.aload_n 1, 1) := by decide +kernel
theorem dX6_readEquation_40 : decode cX6_readEquation 40 = .ok (.iload_n 2, 1) := by decide +kernel
theorem dX6_readEquation_41 : decode cX6_readEquation 41 = .ok (.invokevirtual 53, 3) := by decide +kernel
theorem dX6_readEquation_44 : decode cX6_readEquation 44 = .ok (.aload_n 0, 1) := by decide +kernel
theorem dX6_readEquation_45 : decode cX6_readEquation 45 = .ok (.bipush 48, 2) := by decide +kernel
theorem dX6_readEquation_47 : decode cX6_readEquation 47 = .ok (.invokevirtual 38, 3) := by decide +kernel
theorem dX6_readEquation_50 : decode cX6_readEquation 50 = .ok (.ifCond .ne 12, 3) := by decide +kernel
theorem dX6_readEquation_53 : decode cX6_readEquation 53 = .ok (.aload_n 0, 1) := by decide +kernel
theorem dX6_readEquation_54 : decode cX6_readEquation 54 = .ok (.bipush 49, 2) := by decide +kernel
theorem dX6_readEquation_56 : decode cX6_readEquation 56 = .ok (.invokevirtual 38, 3) := by decide +kernel
theorem dX6_readEquation_59 : decode cX6_readEquation 59 = .ok (.ifCond .eq 20, 3) := by decide +kernel
theorem dX6_readEquation_62 : decode cX6_readEquation 62 = .ok (.aload_n 1, 1) := by decide +kernel
theorem dX6_readEquation_63 : decode cX6_readEquation 63 = .ok (.iload_n 2, 1) := by decide +kernel
theorem dX6_readEquation_64 : decode cX6_readEquation 64 = .ok (.aload_n 0, 1) := by decide +kernel
theorem dX6_readEquation_65 : decode cX6_readEquation 65 = .ok (.bipush 49, 2) := by decide +kernel
theorem dX6_readEquation_67 : decode cX6_readEquation 67 = .ok (.invokevirtual 38, 3) := by decide +kernel
theorem dX6_readEquation_70 : decode cX6_readEquation 70 = .ok (.invokevirtual 57, 3) := by decide +kernel
theorem dX6_readEquation_73 : decode cX6_readEquation 73 = .ok (.aload_n 0, 1) := by decide +kernel
theorem dX6_readEquation_74 : decode cX6_readEquation 74 = .ok (.invokevirtual 42, 3) := by decide +kernel
theorem dX6_readEquation_77 : decode cX6_readEquation 77 = .ok (.iconst 1, 1) := by decide +kernel
theorem dX6_readEquation_78 : decode cX6_readEquation 78 = .ok (.ireturn, 1) := by decide +kernel
theorem dX6_readEquation_79 : decode cX6_readEquation 79 = .ok (.aload_n 0, 1) := by decide +kernel
theorem dX6_readEquation_80 : decode cX6_readEquation 80 = .ok (.iload_n 2, 1) := by decide +kernel
theorem dX6_readEquation_81 : decode cX6_readEquation 81 = .ok (.aload_n 1, 1) := by decide +kernel
theorem dX6_readEquation_82 : decode cX6_readEquation 82 = .ok (.invokevirtual 61, 3) := by decide +kernel
theorem dX6_readEquation_85 : decode cX6_readEquation 85 = .ok (.ireturn, 1) := by decide +kernel
theorem dX6_readTerms_0 : decode cX6_readTerms 0 = .ok (.iconst 0, 1) := by decide +kernel
theorem dX6_readTerms_1 : decode cX6_readTerms 1 = .ok (.istore_n 3, 1) := by decide +kernel
theorem dX6_readTerms_2 : decode cX6_readTerms 2 = .ok (.iload_n 3, 1) := by decide +kernel
theorem dX6_readTerms_3 : decode cX6_readTerms 3 = .ok (.bipush 12, 2) := by decide +kernel
theorem dX6_readTerms_5 : decode cX6_readTerms 5 = .ok (.if_icmp .ge 35, 3) := by decide +kernel
theorem dX6_readTerms_8 : decode cX6_readTerms 8 = .ok (.aload_n 0, 1) := by decide +kernel
theorem dX6_readTerms_9 : decode cX6_readTerms 9 = .ok (.iload_n 1, 1) := by decide +kernel
theorem dX6_readTerms_10 : decode cX6_readTerms 10 = .ok (.aload_n 2, 1) := by decide +kernel
theorem dX6_readTerms_11 : decode cX6_readTerms 11 = .ok (.invokevirtual 65, 3) := by decide +kernel
theorem dX6_readTerms_14 : decode cX6_readTerms 14 = .ok (.ifCond .ne 5, 3) := by decide +kernel
theorem dX6_readTerms_17 : decode cX6_readTerms 17 = .ok (.iconst 0, 1) := by decide +kernel
theorem dX6_readTerms_18 : decode cX6_readTerms 18 = .ok (.ireturn, 1) := by decide +kernel
theorem dX6_readTerms_19 : decode cX6_readTerms 19 = .ok (.aload_n 0, 1) := by decide +kernel
theorem dX6_readTerms_20 : decode cX6_readTerms 20 = .ok (.bipush 43, 2) := by decide +kernel
theorem dX6_readTerms_22 : decode cX6_readTerms 22 = .ok (.invokevirtual 38, 3) := by decide +kernel
theorem dX6_readTerms_25 : decode cX6_readTerms 25 = .ok (.ifCond .ne 5, 3) := by decide +kernel
theorem dX6_readTerms_28 : decode cX6_readTerms 28 = .ok (.iconst 1, 1) := by decide +kernel
theorem dX6_readTerms_29 : decode cX6_readTerms 29 = .ok (.ireturn, 1) := by decide +kernel
theorem dX6_readTerms_30 : decode cX6_readTerms 30 = .ok (.aload_n 0, 1) := by decide +kernel
theorem dX6_readTerms_31 : decode cX6_readTerms 31 = .ok (.invokevirtual 42, 3) := by decide +kernel
theorem dX6_readTerms_34 : decode cX6_readTerms 34 = .ok (.iinc 3 1, 3) := by decide +kernel
theorem dX6_readTerms_37 : decode cX6_readTerms 37 = .ok (.goto (-35), 3) := by decide +kernel
theorem dX6_readTerms_40 : decode cX6_readTerms 40 = .ok (.iconst 0, 1) := by decide +kernel
theorem dX6_readTerms_41 : decode cX6_readTerms 41 = .ok (.ireturn, 1) := by decide +kernel
theorem dX6_readTerm_0 : decode cX6_readTerm 0 = .ok (.iconst 0, 1) := by decide +kernel
theorem dX6_readTerm_1 : decode cX6_readTerm 1 = .ok (.istore_n 3, 1) := by decide +kernel
theorem dX6_readTerm_2 : decode cX6_readTerm 2 = .ok (.iconst 0, 1) := by decide +kernel
theorem dX6_readTerm_3 : decode cX6_readTerm 3 = .ok (.istore 4, 2) := by decide +kernel
theorem dX6_readTerm_5 : decode cX6_readTerm 5 = .ok (.aload_n 0, 1) := by decide +kernel
theorem dX6_readTerm_6 : decode cX6_readTerm 6 = .ok (.invokevirtual 45, 3) := by decide +kernel
theorem dX6_readTerm_9 : decode cX6_readTerm 9 = .ok (.istore 5, 2) := by decide +kernel
theorem dX6_readTerm_11 : decode cX6_readTerm 11 = .ok (.iload 5, 2) := by decide +kernel
theorem dX6_readTerm_13 : decode cX6_readTerm 13 = .ok (.iconst (-1), 1) := by decide +kernel
theorem dX6_readTerm_14 : decode cX6_readTerm 14 = .ok (.if_icmp .ne 5, 3) := by decide +kernel
theorem dX6_readTerm_17 : decode cX6_readTerm 17 = .ok (.iconst 0, 1) := by decide +kernel
theorem dX6_readTerm_18 : decode cX6_readTerm 18 = .ok (.ireturn, 1) := by decide +kernel
theorem dX6_readTerm_19 : decode cX6_readTerm 19 = .ok (.iconst 0, 1) := by decide +kernel
theorem dX6_readTerm_20 : decode cX6_readTerm 20 = .ok (.istore 6, 2) := by decide +kernel
theorem dX6_readTerm_22 : decode cX6_readTerm 22 = .ok (.iload 6, 2) := by decide +kernel
theorem dX6_readTerm_24 : decode cX6_readTerm 24 = .ok (.bipush 8, 2) := by decide +kernel
theorem dX6_readTerm_26 : decode cX6_readTerm 26 = .ok (.if_icmp .ge 57, 3) := by decide +kernel
theorem dX6_readTerm_29 : decode cX6_readTerm 29 = .ok (.iload 5, 2) := by decide +kernel
theorem dX6_readTerm_31 : decode cX6_readTerm 31 = .ok (.iconst (-1), 1) := by decide +kernel
theorem dX6_readTerm_32 : decode cX6_readTerm 32 = .ok (.if_icmp .eq 51, 3) := by decide +kernel
theorem dX6_readTerm_35 : decode cX6_readTerm 35 = .ok (.aload_n 0, 1) := by decide +kernel
theorem dX6_readTerm_36 : decode cX6_readTerm 36 = .ok (.invokevirtual 42, 3) := by decide +kernel
theorem dX6_readTerm_39 : decode cX6_readTerm 39 = .ok (.aload_n 0, 1) := by decide +kernel
theorem dX6_readTerm_40 : decode cX6_readTerm 40 = .ok (.bipush 39, 2) := by decide +kernel
theorem dX6_readTerm_42 : decode cX6_readTerm 42 = .ok (.invokevirtual 38, 3) := by decide +kernel
theorem dX6_readTerm_45 : decode cX6_readTerm 45 = .ok (.ifCond .eq 19, 3) := by decide +kernel
theorem dX6_readTerm_48 : decode cX6_readTerm 48 = .ok (.iload 4, 2) := by decide +kernel
theorem dX6_readTerm_50 : decode cX6_readTerm 50 = .ok (.iconst 1, 1) := by decide +kernel
theorem dX6_readTerm_51 : decode cX6_readTerm 51 = .ok (.iload 5, 2) := by decide +kernel
theorem dX6_readTerm_53 : decode cX6_readTerm 53 = .ok (.ishl, 1) := by decide +kernel
theorem dX6_readTerm_54 : decode cX6_readTerm 54 = .ok (.ior, 1) := by decide +kernel
theorem dX6_readTerm_55 : decode cX6_readTerm 55 = .ok (.istore 4, 2) := by decide +kernel
theorem dX6_readTerm_57 : decode cX6_readTerm 57 = .ok (.aload_n 0, 1) := by decide +kernel
theorem dX6_readTerm_58 : decode cX6_readTerm 58 = .ok (.invokevirtual 42, 3) := by decide +kernel
theorem dX6_readTerm_61 : decode cX6_readTerm 61 = .ok (.goto 10, 3) := by decide +kernel
theorem dX6_readTerm_64 : decode cX6_readTerm 64 = .ok (.iload_n 3, 1) := by decide +kernel
theorem dX6_readTerm_65 : decode cX6_readTerm 65 = .ok (.iconst 1, 1) := by decide +kernel
theorem dX6_readTerm_66 : decode cX6_readTerm 66 = .ok (.iload 5, 2) := by decide +kernel
theorem dX6_readTerm_68 : decode cX6_readTerm 68 = .ok (.ishl, 1) := by decide +kernel
theorem dX6_readTerm_69 : decode cX6_readTerm 69 = .ok (.ior, 1) := by decide +kernel
theorem dX6_readTerm_70 : decode cX6_readTerm 70 = .ok (.istore_n 3, 1) := by decide +kernel
theorem dX6_readTerm_71 : decode cX6_readTerm 71 = .ok (.aload_n 0, 1) := by decide +kernel
theorem dX6_readTerm_72 : decode cX6_readTerm 72 = .ok (.invokevirtual 45, 3) := by decide +kernel
theorem dX6_readTerm_75 : decode cX6_readTerm 75 = .ok (.istore 5, 2) := by decide +kernel
theorem dX6_readTerm_77 : decode cX6_readTerm 77 = .ok (.iinc 6 1, 3) := by decide +kernel
theorem dX6_readTerm_80 : decode cX6_readTerm 80 = .ok (.goto (-58), 3) := by decide +kernel
theorem dX6_readTerm_83 : decode cX6_readTerm 83 = .ok (.aload_n 2, 1) := by decide +kernel
theorem dX6_readTerm_84 : decode cX6_readTerm 84 = .ok (.iload_n 1, 1) := by decide +kernel
theorem dX6_readTerm_85 : decode cX6_readTerm 85 = .ok (.iload_n 3, 1) := by decide +kernel
theorem dX6_readTerm_86 : decode cX6_readTerm 86 = .ok (.iload 4, 2) := by decide +kernel
theorem dX6_readTerm_88 : decode cX6_readTerm 88 = .ok (.invokevirtual 68, 3) := by decide +kernel
theorem dX6_readTerm_91 : decode cX6_readTerm 91 = .ok (.iload 5, 2) := by decide +kernel
theorem dX6_readTerm_93 : decode cX6_readTerm 93 = .ok (.iconst (-1), 1) := by decide +kernel
theorem dX6_readTerm_94 : decode cX6_readTerm 94 = .ok (.if_icmp .ne 7, 3) := by decide +kernel
theorem dX6_readTerm_97 : decode cX6_readTerm 97 = .ok (.iconst 1, 1) := by decide +kernel
theorem dX6_readTerm_98 : decode cX6_readTerm 98 = .ok (.goto 4, 3) := by decide +kernel
theorem dX6_readTerm_101 : decode cX6_readTerm 101 = .ok (.iconst 0, 1) := by decide +kernel
theorem dX6_readTerm_102 : decode cX6_readTerm 102 = .ok (.ireturn, 1) := by decide +kernel
theorem dX6_signalHere_0 : decode cX6_signalHere 0 = .ok (.aload_n 0, 1) := by decide +kernel
theorem dX6_signalHere_1 : decode cX6_signalHere 1 = .ok (.getfield 9, 3) := by decide +kernel
theorem dX6_signalHere_4 : decode cX6_signalHere 4 = .ok (.aload_n 0, 1) := by decide +kernel
theorem dX6_signalHere_5 : decode cX6_signalHere 5 = .ok (.getfield 26, 3) := by decide +kernel
theorem dX6_signalHere_8 : decode cX6_signalHere 8 = .ok (.invokevirtual 72, 3) := by decide +kernel
theorem dX6_signalHere_11 : decode cX6_signalHere 11 = .ok (.istore_n 1, 1) := by decide +kernel
theorem dX6_signalHere_12 : decode cX6_signalHere 12 = .ok (.iload_n 1, 1) := by decide +kernel
theorem dX6_signalHere_13 : decode cX6_signalHere 13 = .ok (.bipush 97, 2) := by decide +kernel
theorem dX6_signalHere_15 : decode cX6_signalHere 15 = .ok (.if_icmp .lt 16, 3) := by decide +kernel
theorem dX6_signalHere_18 : decode cX6_signalHere 18 = .ok (.iload_n 1, 1) := by decide +kernel
theorem dX6_signalHere_19 : decode cX6_signalHere 19 = .ok (.bipush 109, 2) := by decide +kernel
theorem dX6_signalHere_21 : decode cX6_signalHere 21 = .ok (.if_icmp .ge 10, 3) := by decide +kernel
theorem dX6_signalHere_24 : decode cX6_signalHere 24 = .ok (.iload_n 1, 1) := by decide +kernel
theorem dX6_signalHere_25 : decode cX6_signalHere 25 = .ok (.bipush 97, 2) := by decide +kernel
theorem dX6_signalHere_27 : decode cX6_signalHere 27 = .ok (.isub, 1) := by decide +kernel
theorem dX6_signalHere_28 : decode cX6_signalHere 28 = .ok (.goto 4, 3) := by decide +kernel
theorem dX6_signalHere_31 : decode cX6_signalHere 31 = .ok (.iconst (-1), 1) := by decide +kernel
theorem dX6_signalHere_32 : decode cX6_signalHere 32 = .ok (.ireturn, 1) := by decide +kernel
theorem dX6_isOn_0 : decode cX6_isOn 0 = .ok (.aload_n 0, 1) := by decide +kernel
theorem dX6_isOn_1 : decode cX6_isOn 1 = .ok (.getfield 9, 3) := by decide +kernel
theorem dX6_isOn_4 : decode cX6_isOn 4 = .ok (.aload_n 0, 1) := by decide +kernel
theorem dX6_isOn_5 : decode cX6_isOn 5 = .ok (.getfield 26, 3) := by decide +kernel
theorem dX6_isOn_8 : decode cX6_isOn 8 = .ok (.invokevirtual 72, 3) := by decide +kernel
theorem dX6_isOn_11 : decode cX6_isOn 11 = .ok (.iload_n 1, 1) := by decide +kernel
theorem dX6_isOn_12 : decode cX6_isOn 12 = .ok (.if_icmp .ne 7, 3) := by decide +kernel
theorem dX6_isOn_15 : decode cX6_isOn 15 = .ok (.iconst 1, 1) := by decide +kernel
theorem dX6_isOn_16 : decode cX6_isOn 16 = .ok (.goto 4, 3) := by decide +kernel
theorem dX6_isOn_19 : decode cX6_isOn 19 = .ok (.iconst 0, 1) := by decide +kernel
theorem dX6_isOn_20 : decode cX6_isOn 20 = .ok (.ireturn, 1) := by decide +kernel
theorem dX6_isAtEnd_0 : decode cX6_isAtEnd 0 = .ok (.aload_n 0, 1) := by decide +kernel
theorem dX6_isAtEnd_1 : decode cX6_isAtEnd 1 = .ok (.getfield 26, 3) := by decide +kernel
theorem dX6_isAtEnd_4 : decode cX6_isAtEnd 4 = .ok (.aload_n 0, 1) := by decide +kernel
theorem dX6_isAtEnd_5 : decode cX6_isAtEnd 5 = .ok (.getfield 9, 3) := by decide +kernel
theorem dX6_isAtEnd_8 : decode cX6_isAtEnd 8 = .ok (.invokevirtual 75, 3) := by decide +kernel
theorem dX6_isAtEnd_11 : decode cX6_isAtEnd 11 = .ok (.if_icmp .lt 7, 3) := by decide +kernel
theorem dX6_isAtEnd_14 : decode cX6_isAtEnd 14 = .ok (.iconst 1, 1) := by decide +kernel
theorem dX6_isAtEnd_15 : decode cX6_isAtEnd 15 = .ok (.goto 4, 3) := by decide +kernel
theorem dX6_isAtEnd_18 : decode cX6_isAtEnd 18 = .ok (.iconst 0, 1) := by decide +kernel
theorem dX6_isAtEnd_19 : decode cX6_isAtEnd 19 = .ok (.ireturn, 1) := by decide +kernel
theorem dX6_step_0 : decode cX6_step 0 = .ok (.aload_n 0, 1) := by decide +kernel
theorem dX6_step_1 : decode cX6_step 1 = .ok (.aload_n 0, 1) := by decide +kernel
theorem dX6_step_2 : decode cX6_step 2 = .ok (.getfield 9, 3) := by decide +kernel
theorem dX6_step_5 : decode cX6_step 5 = .ok (.aload_n 0, 1) := by decide +kernel
theorem dX6_step_6 : decode cX6_step 6 = .ok (.getfield 26, 3) := by decide +kernel
theorem dX6_step_9 : decode cX6_step 9 = .ok (.iconst 1, 1) := by decide +kernel
theorem dX6_step_10 : decode cX6_step 10 = .ok (.iadd, 1) := by decide +kernel
theorem dX6_step_11 : decode cX6_step 11 = .ok (.invokevirtual 20, 3) := by decide +kernel
theorem dX6_step_14 : decode cX6_step 14 = .ok (.putfield 26, 3) := by decide +kernel
theorem dX6_step_17 : decode cX6_step 17 = .ok (.return_, 1) := by decide +kernel
theorem dX7_init_0 : decode cX7_init 0 = .ok (.aload_n 0, 1) := by decide +kernel
theorem dX7_init_1 : decode cX7_init 1 = .ok (.invokespecial 3, 3) := by decide +kernel
theorem dX7_init_4 : decode cX7_init 4 = .ok (.aload_n 0, 1) := by decide +kernel
theorem dX7_init_5 : decode cX7_init 5 = .ok (.sipush 300, 3) := by decide +kernel
theorem dX7_init_8 : decode cX7_init 8 = .ok (.newarray .int, 2) := by decide +kernel
theorem dX7_init_10 : decode cX7_init 10 = .ok (.putfield 9, 3) := by decide +kernel
theorem dX7_init_13 : decode cX7_init 13 = .ok (.return_, 1) := by decide +kernel
theorem dX7_bytesIn_0 : decode cX7_bytesIn 0 = .ok (.iconst 0, 1) := by decide +kernel
theorem dX7_bytesIn_1 : decode cX7_bytesIn 1 = .ok (.istore_n 1, 1) := by decide +kernel
theorem dX7_bytesIn_2 : decode cX7_bytesIn 2 = .ok (.bipush 24, 2) := by decide +kernel
theorem dX7_bytesIn_4 : decode cX7_bytesIn 4 = .ok (.istore_n 2, 1) := by decide +kernel
theorem dX7_bytesIn_5 : decode cX7_bytesIn 5 = .ok (.iload_n 2, 1) := by decide +kernel
theorem dX7_bytesIn_6 : decode cX7_bytesIn 6 = .ok (.ifCond .lt 22, 3) := by decide +kernel
theorem dX7_bytesIn_9 : decode cX7_bytesIn 9 = .ok (.iload_n 0, 1) := by decide +kernel
theorem dX7_bytesIn_10 : decode cX7_bytesIn 10 = .ok (.iload_n 2, 1) := by decide +kernel
theorem dX7_bytesIn_11 : decode cX7_bytesIn 11 = .ok (.iushr, 1) := by decide +kernel
theorem dX7_bytesIn_12 : decode cX7_bytesIn 12 = .ok (.sipush 255, 3) := by decide +kernel
theorem dX7_bytesIn_15 : decode cX7_bytesIn 15 = .ok (.iand, 1) := by decide +kernel
theorem dX7_bytesIn_16 : decode cX7_bytesIn 16 = .ok (.ifCond .eq 6, 3) := by decide +kernel
theorem dX7_bytesIn_19 : decode cX7_bytesIn 19 = .ok (.iinc 1 1, 3) := by decide +kernel
theorem dX7_bytesIn_22 : decode cX7_bytesIn 22 = .ok (.iinc 2 (-8), 3) := by decide +kernel
theorem dX7_bytesIn_25 : decode cX7_bytesIn 25 = .ok (.goto (-20), 3) := by decide +kernel
theorem dX7_bytesIn_28 : decode cX7_bytesIn 28 = .ok (.iload_n 1, 1) := by decide +kernel
theorem dX7_bytesIn_29 : decode cX7_bytesIn 29 = .ok (.ireturn, 1) := by decide +kernel
theorem dX7_append_0 : decode cX7_append 0 = .ok (.bipush 24, 2) := by decide +kernel
theorem dX7_append_2 : decode cX7_append 2 = .ok (.istore_n 2, 1) := by decide +kernel
theorem dX7_append_3 : decode cX7_append 3 = .ok (.iload_n 2, 1) := by decide +kernel
theorem dX7_append_4 : decode cX7_append 4 = .ok (.ifCond .lt 51, 3) := by decide +kernel
theorem dX7_append_7 : decode cX7_append 7 = .ok (.iload_n 1, 1) := by decide +kernel
theorem dX7_append_8 : decode cX7_append 8 = .ok (.iload_n 2, 1) := by decide +kernel
theorem dX7_append_9 : decode cX7_append 9 = .ok (.iushr, 1) := by decide +kernel
theorem dX7_append_10 : decode cX7_append 10 = .ok (.sipush 255, 3) := by decide +kernel
theorem dX7_append_13 : decode cX7_append 13 = .ok (.iand, 1) := by decide +kernel
theorem dX7_append_14 : decode cX7_append 14 = .ok (.istore_n 3, 1) := by decide +kernel
theorem dX7_append_15 : decode cX7_append 15 = .ok (.iload_n 3, 1) := by decide +kernel
theorem dX7_append_16 : decode cX7_append 16 = .ok (.ifCond .eq 33, 3) := by decide +kernel
theorem dX7_append_19 : decode cX7_append 19 = .ok (.aload_n 0, 1) := by decide +kernel
theorem dX7_append_20 : decode cX7_append 20 = .ok (.getfield 15, 3) := by decide +kernel
theorem dX7_append_23 : decode cX7_append 23 = .ok (.sipush 300, 3) := by decide +kernel
theorem dX7_append_26 : decode cX7_append 26 = .ok (.if_icmp .ge 23, 3) := by decide +kernel
theorem dX7_append_29 : decode cX7_append 29 = .ok (.aload_n 0, 1) := by decide +kernel
theorem dX7_append_30 : decode cX7_append 30 = .ok (.getfield 9, 3) := by decide +kernel
theorem dX7_append_33 : decode cX7_append 33 = .ok (.aload_n 0, 1) := by decide +kernel
theorem dX7_append_34 : decode cX7_append 34 = .ok (.getfield 15, 3) := by decide +kernel
theorem dX7_append_37 : decode cX7_append 37 = .ok (.iload_n 3, 1) := by decide +kernel
theorem dX7_append_38 : decode cX7_append 38 = .ok (.iastore, 1) := by decide +kernel
theorem dX7_append_39 : decode cX7_append 39 = .ok (.aload_n 0, 1) := by decide +kernel
theorem dX7_append_40 : decode cX7_append 40 = .ok (.dup, 1) := by decide +kernel
theorem dX7_append_41 : decode cX7_append 41 = .ok (.getfield 15, 3) := by decide +kernel
theorem dX7_append_44 : decode cX7_append 44 = .ok (.iconst 1, 1) := by decide +kernel
theorem dX7_append_45 : decode cX7_append 45 = .ok (.iadd, 1) := by decide +kernel
theorem dX7_append_46 : decode cX7_append 46 = .ok (.putfield 15, 3) := by decide +kernel
theorem dX7_append_49 : decode cX7_append 49 = .ok (.iinc 2 (-8), 3) := by decide +kernel
theorem dX7_append_52 : decode cX7_append 52 = .ok (.goto (-49), 3) := by decide +kernel
theorem dX7_append_55 : decode cX7_append 55 = .ok (.return_, 1) := by decide +kernel
theorem dX7_cut_0 : decode cX7_cut 0 = .ok (.aload_n 0, 1) := by decide +kernel
theorem dX7_cut_1 : decode cX7_cut 1 = .ok (.iload_n 1, 1) := by decide +kernel
theorem dX7_cut_2 : decode cX7_cut 2 = .ok (.putfield 15, 3) := by decide +kernel
theorem dX7_cut_5 : decode cX7_cut 5 = .ok (.return_, 1) := by decide +kernel
theorem dX7_size_0 : decode cX7_size 0 = .ok (.aload_n 0, 1) := by decide +kernel
theorem dX7_size_1 : decode cX7_size 1 = .ok (.getfield 15, 3) := by decide +kernel
theorem dX7_size_4 : decode cX7_size 4 = .ok (.ireturn, 1) := by decide +kernel
theorem dX7_byteAt_0 : decode cX7_byteAt 0 = .ok (.iload_n 1, 1) := by decide +kernel
theorem dX7_byteAt_1 : decode cX7_byteAt 1 = .ok (.ifCond .lt 20, 3) := by decide +kernel
theorem dX7_byteAt_4 : decode cX7_byteAt 4 = .ok (.iload_n 1, 1) := by decide +kernel
theorem dX7_byteAt_5 : decode cX7_byteAt 5 = .ok (.aload_n 0, 1) := by decide +kernel
theorem dX7_byteAt_6 : decode cX7_byteAt 6 = .ok (.getfield 15, 3) := by decide +kernel
theorem dX7_byteAt_9 : decode cX7_byteAt 9 = .ok (.if_icmp .ge 12, 3) := by decide +kernel
theorem dX7_byteAt_12 : decode cX7_byteAt 12 = .ok (.aload_n 0, 1) := by decide +kernel
theorem dX7_byteAt_13 : decode cX7_byteAt 13 = .ok (.getfield 9, 3) := by decide +kernel
theorem dX7_byteAt_16 : decode cX7_byteAt 16 = .ok (.iload_n 1, 1) := by decide +kernel
theorem dX7_byteAt_17 : decode cX7_byteAt 17 = .ok (.iaload, 1) := by decide +kernel
theorem dX7_byteAt_18 : decode cX7_byteAt 18 = .ok (.goto 4, 3) := by decide +kernel
theorem dX7_byteAt_21 : decode cX7_byteAt 21 = .ok (.iconst (-1), 1) := by decide +kernel
theorem dX7_byteAt_22 : decode cX7_byteAt 22 = .ok (.ireturn, 1) := by decide +kernel
theorem dX7_pastBlanks_0 : decode cX7_pastBlanks 0 = .ok (.iload_n 1, 1) := by decide +kernel
theorem dX7_pastBlanks_1 : decode cX7_pastBlanks 1 = .ok (.istore_n 2, 1) := by decide +kernel
theorem dX7_pastBlanks_2 : decode cX7_pastBlanks 2 = .ok (.iload_n 2, 1) := by decide +kernel
theorem dX7_pastBlanks_3 : decode cX7_pastBlanks 3 = .ok (.ifCond .lt 28, 3) := by decide +kernel
theorem dX7_pastBlanks_6 : decode cX7_pastBlanks 6 = .ok (.iload_n 2, 1) := by decide +kernel
theorem dX7_pastBlanks_7 : decode cX7_pastBlanks 7 = .ok (.aload_n 0, 1) := by decide +kernel
theorem dX7_pastBlanks_8 : decode cX7_pastBlanks 8 = .ok (.getfield 15, 3) := by decide +kernel
theorem dX7_pastBlanks_11 : decode cX7_pastBlanks 11 = .ok (.if_icmp .ge 20, 3) := by decide +kernel
theorem dX7_pastBlanks_14 : decode cX7_pastBlanks 14 = .ok (.aload_n 0, 1) := by decide +kernel
theorem dX7_pastBlanks_15 : decode cX7_pastBlanks 15 = .ok (.getfield 9, 3) := by decide +kernel
theorem dX7_pastBlanks_18 : decode cX7_pastBlanks 18 = .ok (.iload_n 2, 1) := by decide +kernel
theorem dX7_pastBlanks_19 : decode cX7_pastBlanks 19 = .ok (.iaload, 1) := by decide +kernel
theorem dX7_pastBlanks_20 : decode cX7_pastBlanks 20 = .ok (.bipush 32, 2) := by decide +kernel
theorem dX7_pastBlanks_22 : decode cX7_pastBlanks 22 = .ok (.if_icmp .ne 9, 3) := by decide +kernel
theorem dX7_pastBlanks_25 : decode cX7_pastBlanks 25 = .ok (.iinc 2 1, 3) := by decide +kernel
theorem dX7_pastBlanks_28 : decode cX7_pastBlanks 28 = .ok (.goto (-26), 3) := by decide +kernel
theorem dX7_pastBlanks_31 : decode cX7_pastBlanks 31 = .ok (.iload_n 2, 1) := by decide +kernel
theorem dX7_pastBlanks_32 : decode cX7_pastBlanks 32 = .ok (.ireturn, 1) := by decide +kernel
theorem dX8_init_0 : decode cX8_init 0 = .ok (.aload_n 0, 1) := by decide +kernel
theorem dX8_init_1 : decode cX8_init 1 = .ok (.invokespecial 3, 3) := by decide +kernel
theorem dX8_init_4 : decode cX8_init 4 = .ok (.aload_n 0, 1) := by decide +kernel
theorem dX8_init_5 : decode cX8_init 5 = .ok (.bipush 10, 2) := by decide +kernel
theorem dX8_init_7 : decode cX8_init 7 = .ok (.sipush 201, 3) := by decide +kernel
theorem dX8_init_10 : decode cX8_init 10 = .ok (.multianewarray 9 2, 4) := by decide +kernel
theorem dX8_init_14 : decode cX8_init 14 = .ok (.putfield 11, 3) := by decide +kernel
theorem dX8_init_17 : decode cX8_init 17 = .ok (.aload_n 0, 1) := by decide +kernel
theorem dX8_init_18 : decode cX8_init 18 = .ok (.bipush 20, 2) := by decide +kernel
theorem dX8_init_20 : decode cX8_init 20 = .ok (.newarray .int, 2) := by decide +kernel
theorem dX8_init_22 : decode cX8_init 22 = .ok (.putfield 16, 3) := by decide +kernel
theorem dX8_init_25 : decode cX8_init 25 = .ok (.aload_n 0, 1) := by decide +kernel
theorem dX8_init_26 : decode cX8_init 26 = .ok (.aload_n 1, 1) := by decide +kernel
theorem dX8_init_27 : decode cX8_init 27 = .ok (.putfield 20, 3) := by decide +kernel
theorem dX8_init_30 : decode cX8_init 30 = .ok (.return_, 1) := by decide +kernel
theorem dX8_forget_0 : decode cX8_forget 0 = .ok (.aload_n 0, 1) := by decide +kernel
theorem dX8_forget_1 : decode cX8_forget 1 = .ok (.iconst 0, 1) := by decide +kernel
theorem dX8_forget_2 : decode cX8_forget 2 = .ok (.putfield 24, 3) := by decide +kernel
theorem dX8_forget_5 : decode cX8_forget 5 = .ok (.return_, 1) := by decide +kernel
theorem dX8_fillTo_0 : decode cX8_fillTo 0 = .ok (.aload_n 0, 1) := by decide +kernel
theorem dX8_fillTo_1 : decode cX8_fillTo 1 = .ok (.getfield 24, 3) := by decide +kernel
theorem dX8_fillTo_4 : decode cX8_fillTo 4 = .ok (.ifCond .ne 7, 3) := by decide +kernel
theorem dX8_fillTo_7 : decode cX8_fillTo 7 = .ok (.aload_n 0, 1) := by decide +kernel
theorem dX8_fillTo_8 : decode cX8_fillTo 8 = .ok (.invokevirtual 28, 3) := by decide +kernel
theorem dX8_fillTo_11 : decode cX8_fillTo 11 = .ok (.aload_n 0, 1) := by decide +kernel
theorem dX8_fillTo_12 : decode cX8_fillTo 12 = .ok (.getfield 24, 3) := by decide +kernel
theorem dX8_fillTo_15 : decode cX8_fillTo 15 = .ok (.iconst 1, 1) := by decide +kernel
theorem dX8_fillTo_16 : decode cX8_fillTo 16 = .ok (.iadd, 1) := by decide +kernel
theorem dX8_fillTo_17 : decode cX8_fillTo 17 = .ok (.istore_n 2, 1) := by decide +kernel
theorem dX8_fillTo_18 : decode cX8_fillTo 18 = .ok (.iload_n 2, 1) := by decide +kernel
theorem dX8_fillTo_19 : decode cX8_fillTo 19 = .ok (.iload_n 1, 1) := by decide +kernel
theorem dX8_fillTo_20 : decode cX8_fillTo 20 = .ok (.if_icmp .gt 26, 3) := by decide +kernel
theorem dX8_fillTo_23 : decode cX8_fillTo 23 = .ok (.iload_n 2, 1) := by decide +kernel
theorem dX8_fillTo_24 : decode cX8_fillTo 24 = .ok (.sipush 200, 3) := by decide +kernel
theorem dX8_fillTo_27 : decode cX8_fillTo 27 = .ok (.if_icmp .gt 19, 3) := by decide +kernel
theorem dX8_fillTo_30 : decode cX8_fillTo 30 = .ok (.aload_n 0, 1) := by decide +kernel
theorem dX8_fillTo_31 : decode cX8_fillTo 31 = .ok (.iload_n 2, 1) := by decide +kernel
theorem dX8_fillTo_32 : decode cX8_fillTo 32 = .ok (.invokevirtual 31, 3) := by decide +kernel
theorem dX8_fillTo_35 : decode cX8_fillTo 35 = .ok (.aload_n 0, 1) := by decide +kernel
theorem dX8_fillTo_36 : decode cX8_fillTo 36 = .ok (.iload_n 2, 1) := by decide +kernel
theorem dX8_fillTo_37 : decode cX8_fillTo 37 = .ok (.putfield 24, 3) := by decide +kernel
theorem dX8_fillTo_40 : decode cX8_fillTo 40 = .ok (.iinc 2 1, 3) := by decide +kernel
theorem dX8_fillTo_43 : decode cX8_fillTo 43 = .ok (.goto (-25), 3) := by decide +kernel
theorem dX8_fillTo_46 : decode cX8_fillTo 46 = .ok (.return_, 1) := by decide +kernel
theorem dX8_doneAt_0 : decode cX8_doneAt 0 = .ok (.iload_n 2, 1) := by decide +kernel
theorem dX8_doneAt_1 : decode cX8_doneAt 1 = .ok (.iconst 1, 1) := by decide +kernel
theorem dX8_doneAt_2 : decode cX8_doneAt 2 = .ok (.if_icmp .ge 5, 3) := by decide +kernel
theorem dX8_doneAt_5 : decode cX8_doneAt 5 = .ok (.iconst 0, 1) := by decide +kernel
theorem dX8_doneAt_6 : decode cX8_doneAt 6 = .ok (.ireturn, 1) := by decide +kernel
theorem dX8_doneAt_7 : decode cX8_doneAt 7 = .ok (.aload_n 0, 1) := by decide +kernel
theorem dX8_doneAt_8 : decode cX8_doneAt 8 = .ok (.getfield 11, 3) := by decide +kernel
theorem dX8_doneAt_11 : decode cX8_doneAt 11 = .ok (.iload_n 1, 1) := by decide +kernel
theorem dX8_doneAt_12 : decode cX8_doneAt 12 = .ok (.aaload, 1) := by decide +kernel
theorem dX8_doneAt_13 : decode cX8_doneAt 13 = .ok (.iload_n 2, 1) := by decide +kernel
theorem dX8_doneAt_14 : decode cX8_doneAt 14 = .ok (.iaload, 1) := by decide +kernel
theorem dX8_doneAt_15 : decode cX8_doneAt 15 = .ok (.istore_n 3, 1) := by decide +kernel
theorem dX8_doneAt_16 : decode cX8_doneAt 16 = .ok (.iload_n 3, 1) := by decide +kernel
theorem dX8_doneAt_17 : decode cX8_doneAt 17 = .ok (.iconst (-1), 1) := by decide +kernel
theorem dX8_doneAt_18 : decode cX8_doneAt 18 = .ok (.if_icmp .ne 7, 3) := by decide +kernel
theorem dX8_doneAt_21 : decode cX8_doneAt 21 = .ok (.iconst (-1), 1) := by decide +kernel
theorem dX8_doneAt_22 : decode cX8_doneAt 22 = .ok (.goto 13, 3) := by decide +kernel
theorem dX8_doneAt_25 : decode cX8_doneAt 25 = .ok (.iload_n 3, 1) := by decide +kernel
theorem dX8_doneAt_26 : decode cX8_doneAt 26 = .ok (.aload_n 0, 1) := by decide +kernel
theorem dX8_doneAt_27 : decode cX8_doneAt 27 = .ok (.getfield 20, 3) := by decide +kernel
theorem dX8_doneAt_30 : decode cX8_doneAt 30 = .ok (.iload_n 1, 1) := by decide +kernel
theorem dX8_doneAt_31 : decode cX8_doneAt 31 = .ok (.invokevirtual 35, 3) := by decide +kernel
theorem dX8_doneAt_34 : decode cX8_doneAt 34 = .ok (.iadd, 1) := by decide +kernel
theorem dX8_doneAt_35 : decode cX8_doneAt 35 = .ok (.ireturn, 1) := by decide +kernel
theorem dX8_orderArcs_0 : decode cX8_orderArcs 0 = .ok (.aload_n 0, 1) := by decide +kernel
theorem dX8_orderArcs_1 : decode cX8_orderArcs 1 = .ok (.iconst 0, 1) := by decide +kernel
theorem dX8_orderArcs_2 : decode cX8_orderArcs 2 = .ok (.putfield 41, 3) := by decide +kernel
theorem dX8_orderArcs_5 : decode cX8_orderArcs 5 = .ok (.aload_n 0, 1) := by decide +kernel
theorem dX8_orderArcs_6 : decode cX8_orderArcs 6 = .ok (.iconst 0, 1) := by decide +kernel
theorem dX8_orderArcs_7 : decode cX8_orderArcs 7 = .ok (.putfield 44, 3) := by decide +kernel
theorem dX8_orderArcs_10 : decode cX8_orderArcs 10 = .ok (.iconst 0, 1) := by decide +kernel
theorem dX8_orderArcs_11 : decode cX8_orderArcs 11 = .ok (.istore_n 1, 1) := by decide +kernel
theorem dX8_orderArcs_12 : decode cX8_orderArcs 12 = .ok (.iload_n 1, 1) := by decide +kernel
theorem dX8_orderArcs_13 : decode cX8_orderArcs 13 = .ok (.aload_n 0, 1) := by decide +kernel
theorem dX8_orderArcs_14 : decode cX8_orderArcs 14 = .ok (.getfield 20, 3) := by decide +kernel
theorem dX8_orderArcs_17 : decode cX8_orderArcs 17 = .ok (.invokevirtual 47, 3) := by decide +kernel
theorem dX8_orderArcs_20 : decode cX8_orderArcs 20 = .ok (.if_icmp .ge 39, 3) := by decide +kernel
theorem dX8_orderArcs_23 : decode cX8_orderArcs 23 = .ok (.aload_n 0, 1) := by decide +kernel
theorem dX8_orderArcs_24 : decode cX8_orderArcs 24 = .ok (.getfield 20, 3) := by decide +kernel
theorem dX8_orderArcs_27 : decode cX8_orderArcs 27 = .ok (.aload_n 0, 1) := by decide +kernel
theorem dX8_orderArcs_28 : decode cX8_orderArcs 28 = .ok (.getfield 44, 3) := by decide +kernel
theorem dX8_orderArcs_31 : decode cX8_orderArcs 31 = .ok (.iconst 0, 1) := by decide +kernel
theorem dX8_orderArcs_32 : decode cX8_orderArcs 32 = .ok (.invokevirtual 51, 3) := by decide +kernel
theorem dX8_orderArcs_35 : decode cX8_orderArcs 35 = .ok (.istore_n 2, 1) := by decide +kernel
theorem dX8_orderArcs_36 : decode cX8_orderArcs 36 = .ok (.aload_n 0, 1) := by decide +kernel
theorem dX8_orderArcs_37 : decode cX8_orderArcs 37 = .ok (.iload_n 2, 1) := by decide +kernel
theorem dX8_orderArcs_38 : decode cX8_orderArcs 38 = .ok (.aload_n 0, 1) := by decide +kernel
theorem dX8_orderArcs_39 : decode cX8_orderArcs 39 = .ok (.getfield 44, 3) := by decide +kernel
theorem dX8_orderArcs_42 : decode cX8_orderArcs 42 = .ok (.iconst (-1), 1) := by decide +kernel
theorem dX8_orderArcs_43 : decode cX8_orderArcs 43 = .ok (.ixor, 1) := by decide +kernel
theorem dX8_orderArcs_44 : decode cX8_orderArcs 44 = .ok (.iand, 1) := by decide +kernel
theorem dX8_orderArcs_45 : decode cX8_orderArcs 45 = .ok (.invokevirtual 55, 3) := by decide +kernel
theorem dX8_orderArcs_48 : decode cX8_orderArcs 48 = .ok (.aload_n 0, 1) := by decide +kernel
theorem dX8_orderArcs_49 : decode cX8_orderArcs 49 = .ok (.iload_n 2, 1) := by decide +kernel
theorem dX8_orderArcs_50 : decode cX8_orderArcs 50 = .ok (.putfield 44, 3) := by decide +kernel
theorem dX8_orderArcs_53 : decode cX8_orderArcs 53 = .ok (.iinc 1 1, 3) := by decide +kernel
theorem dX8_orderArcs_56 : decode cX8_orderArcs 56 = .ok (.goto (-44), 3) := by decide +kernel
theorem dX8_orderArcs_59 : decode cX8_orderArcs 59 = .ok (.return_, 1) := by decide +kernel
theorem dX8_appendArcsTo_0 : decode cX8_appendArcsTo 0 = .ok (.iconst 0, 1) := by decide +kernel
theorem dX8_appendArcsTo_1 : decode cX8_appendArcsTo 1 = .ok (.istore_n 2, 1) := by decide +kernel
theorem dX8_appendArcsTo_2 : decode cX8_appendArcsTo 2 = .ok (.iload_n 2, 1) := by decide +kernel
theorem dX8_appendArcsTo_3 : decode cX8_appendArcsTo 3 = .ok (.aload_n 0, 1) := by decide +kernel
theorem dX8_appendArcsTo_4 : decode cX8_appendArcsTo 4 = .ok (.getfield 20, 3) := by decide +kernel
theorem dX8_appendArcsTo_7 : decode cX8_appendArcsTo 7 = .ok (.invokevirtual 58, 3) := by decide +kernel
theorem dX8_appendArcsTo_10 : decode cX8_appendArcsTo 10 = .ok (.if_icmp .ge 53, 3) := by decide +kernel
theorem dX8_appendArcsTo_13 : decode cX8_appendArcsTo 13 = .ok (.iload_n 1, 1) := by decide +kernel
theorem dX8_appendArcsTo_14 : decode cX8_appendArcsTo 14 = .ok (.aload_n 0, 1) := by decide +kernel
theorem dX8_appendArcsTo_15 : decode cX8_appendArcsTo 15 = .ok (.getfield 20, 3) := by decide +kernel
theorem dX8_appendArcsTo_18 : decode cX8_appendArcsTo 18 = .ok (.iload_n 2, 1) := by decide +kernel
theorem dX8_appendArcsTo_19 : decode cX8_appendArcsTo 19 = .ok (.invokevirtual 61, 3) := by decide +kernel
theorem dX8_appendArcsTo_22 : decode cX8_appendArcsTo 22 = .ok (.invokestatic 64, 3) := by decide +kernel
theorem dX8_appendArcsTo_25 : decode cX8_appendArcsTo 25 = .ok (.ifCond .eq 32, 3) := by decide +kernel
theorem dX8_appendArcsTo_28 : decode cX8_appendArcsTo 28 = .ok (.aload_n 0, 1) := by decide +kernel
theorem dX8_appendArcsTo_29 : decode cX8_appendArcsTo 29 = .ok (.getfield 41, 3) := by decide +kernel
theorem dX8_appendArcsTo_32 : decode cX8_appendArcsTo 32 = .ok (.bipush 20, 2) := by decide +kernel
theorem dX8_appendArcsTo_34 : decode cX8_appendArcsTo 34 = .ok (.if_icmp .ge 23, 3) := by decide +kernel
theorem dX8_appendArcsTo_37 : decode cX8_appendArcsTo 37 = .ok (.aload_n 0, 1) := by decide +kernel
theorem dX8_appendArcsTo_38 : decode cX8_appendArcsTo 38 = .ok (.getfield 16, 3) := by decide +kernel
theorem dX8_appendArcsTo_41 : decode cX8_appendArcsTo 41 = .ok (.aload_n 0, 1) := by decide +kernel
theorem dX8_appendArcsTo_42 : decode cX8_appendArcsTo 42 = .ok (.getfield 41, 3) := by decide +kernel
theorem dX8_appendArcsTo_45 : decode cX8_appendArcsTo 45 = .ok (.iload_n 2, 1) := by decide +kernel
theorem dX8_appendArcsTo_46 : decode cX8_appendArcsTo 46 = .ok (.iastore, 1) := by decide +kernel
theorem dX8_appendArcsTo_47 : decode cX8_appendArcsTo 47 = .ok (.aload_n 0, 1) := by decide +kernel
theorem dX8_appendArcsTo_48 : decode cX8_appendArcsTo 48 = .ok (.dup, 1) := by decide +kernel
theorem dX8_appendArcsTo_49 : decode cX8_appendArcsTo 49 = .ok (.getfield 41, 3) := by decide +kernel
theorem dX8_appendArcsTo_52 : decode cX8_appendArcsTo 52 = .ok (.iconst 1, 1) := by decide +kernel
theorem dX8_appendArcsTo_53 : decode cX8_appendArcsTo 53 = .ok (.iadd, 1) := by decide +kernel
theorem dX8_appendArcsTo_54 : decode cX8_appendArcsTo 54 = .ok (.putfield 41, 3) := by decide +kernel
theorem dX8_appendArcsTo_57 : decode cX8_appendArcsTo 57 = .ok (.iinc 2 1, 3) := by decide +kernel
theorem dX8_appendArcsTo_60 : decode cX8_appendArcsTo 60 = .ok (.goto (-58), 3) := by decide +kernel
theorem dX8_appendArcsTo_63 : decode cX8_appendArcsTo 63 = .ok (.return_, 1) := by decide +kernel
theorem dX8_fill_0 : decode cX8_fill 0 = .ok (.iconst 0, 1) := by decide +kernel
theorem dX8_fill_1 : decode cX8_fill 1 = .ok (.istore_n 2, 1) := by decide +kernel
theorem dX8_fill_2 : decode cX8_fill 2 = .ok (.iload_n 2, 1) := by decide +kernel
theorem dX8_fill_3 : decode cX8_fill 3 = .ok (.aload_n 0, 1) := by decide +kernel
theorem dX8_fill_4 : decode cX8_fill 4 = .ok (.getfield 20, 3) := by decide +kernel
theorem dX8_fill_7 : decode cX8_fill 7 = .ok (.invokevirtual 47, 3) := by decide +kernel
theorem dX8_fill_10 : decode cX8_fill 10 = .ok (.if_icmp .ge 33, 3) := by decide +kernel
theorem dX8_fill_13 : decode cX8_fill 13 = .ok (.aload_n 0, 1) := by decide +kernel
theorem dX8_fill_14 : decode cX8_fill 14 = .ok (.getfield 11, 3) := by decide +kernel
theorem dX8_fill_17 : decode cX8_fill 17 = .ok (.iload_n 2, 1) := by decide +kernel
theorem dX8_fill_18 : decode cX8_fill 18 = .ok (.aaload, 1) := by decide +kernel
theorem dX8_fill_19 : decode cX8_fill 19 = .ok (.iload_n 1, 1) := by decide +kernel
theorem dX8_fill_20 : decode cX8_fill 20 = .ok (.aload_n 0, 1) := by decide +kernel
theorem dX8_fill_21 : decode cX8_fill 21 = .ok (.getfield 44, 3) := by decide +kernel
theorem dX8_fill_24 : decode cX8_fill 24 = .ok (.iload_n 2, 1) := by decide +kernel
theorem dX8_fill_25 : decode cX8_fill 25 = .ok (.invokestatic 64, 3) := by decide +kernel
theorem dX8_fill_28 : decode cX8_fill 28 = .ok (.ifCond .eq 7, 3) := by decide +kernel
theorem dX8_fill_31 : decode cX8_fill 31 = .ok (.iconst 0, 1) := by decide +kernel
theorem dX8_fill_32 : decode cX8_fill 32 = .ok (.goto 4, 3) := by decide +kernel
theorem dX8_fill_35 : decode cX8_fill 35 = .ok (.iconst (-1), 1) := by decide +kernel
theorem dX8_fill_36 : decode cX8_fill 36 = .ok (.iastore, 1) := by decide +kernel
theorem dX8_fill_37 : decode cX8_fill 37 = .ok (.iinc 2 1, 3) := by decide +kernel
theorem dX8_fill_40 : decode cX8_fill 40 = .ok (.goto (-38), 3) := by decide +kernel
theorem dX8_fill_43 : decode cX8_fill 43 = .ok (.iconst 0, 1) := by decide +kernel
theorem dX8_fill_44 : decode cX8_fill 44 = .ok (.istore_n 2, 1) := by decide +kernel
theorem dX8_fill_45 : decode cX8_fill 45 = .ok (.iload_n 2, 1) := by decide +kernel
theorem dX8_fill_46 : decode cX8_fill 46 = .ok (.aload_n 0, 1) := by decide +kernel
theorem dX8_fill_47 : decode cX8_fill 47 = .ok (.getfield 41, 3) := by decide +kernel
theorem dX8_fill_50 : decode cX8_fill 50 = .ok (.if_icmp .ge 73, 3) := by decide +kernel
theorem dX8_fill_53 : decode cX8_fill 53 = .ok (.aload_n 0, 1) := by decide +kernel
theorem dX8_fill_54 : decode cX8_fill 54 = .ok (.getfield 16, 3) := by decide +kernel
theorem dX8_fill_57 : decode cX8_fill 57 = .ok (.iload_n 2, 1) := by decide +kernel
theorem dX8_fill_58 : decode cX8_fill 58 = .ok (.iaload, 1) := by decide +kernel
theorem dX8_fill_59 : decode cX8_fill 59 = .ok (.istore_n 3, 1) := by decide +kernel
theorem dX8_fill_60 : decode cX8_fill 60 = .ok (.aload_n 0, 1) := by decide +kernel
theorem dX8_fill_61 : decode cX8_fill 61 = .ok (.getfield 20, 3) := by decide +kernel
theorem dX8_fill_64 : decode cX8_fill 64 = .ok (.iload_n 3, 1) := by decide +kernel
theorem dX8_fill_65 : decode cX8_fill 65 = .ok (.invokevirtual 61, 3) := by decide +kernel
theorem dX8_fill_68 : decode cX8_fill 68 = .ok (.istore 4, 2) := by decide +kernel
theorem dX8_fill_70 : decode cX8_fill 70 = .ok (.aload_n 0, 1) := by decide +kernel
theorem dX8_fill_71 : decode cX8_fill 71 = .ok (.aload_n 0, 1) := by decide +kernel
theorem dX8_fill_72 : decode cX8_fill 72 = .ok (.getfield 20, 3) := by decide +kernel
theorem dX8_fill_75 : decode cX8_fill 75 = .ok (.iload_n 3, 1) := by decide +kernel
theorem dX8_fill_76 : decode cX8_fill 76 = .ok (.invokevirtual 68, 3) := by decide +kernel
theorem dX8_fill_79 : decode cX8_fill 79 = .ok (.iload_n 1, 1) := by decide +kernel
theorem dX8_fill_80 : decode cX8_fill 80 = .ok (.aload_n 0, 1) := by decide +kernel
theorem dX8_fill_81 : decode cX8_fill 81 = .ok (.getfield 20, 3) := by decide +kernel
theorem dX8_fill_84 : decode cX8_fill 84 = .ok (.iload_n 3, 1) := by decide +kernel
theorem dX8_fill_85 : decode cX8_fill 85 = .ok (.invokevirtual 71, 3) := by decide +kernel
theorem dX8_fill_88 : decode cX8_fill 88 = .ok (.isub, 1) := by decide +kernel
theorem dX8_fill_89 : decode cX8_fill 89 = .ok (.invokevirtual 74, 3) := by decide +kernel
theorem dX8_fill_92 : decode cX8_fill 92 = .ok (.istore 5, 2) := by decide +kernel
theorem dX8_fill_94 : decode cX8_fill 94 = .ok (.aload_n 0, 1) := by decide +kernel
theorem dX8_fill_95 : decode cX8_fill 95 = .ok (.getfield 11, 3) := by decide +kernel
theorem dX8_fill_98 : decode cX8_fill 98 = .ok (.iload 4, 2) := by decide +kernel
theorem dX8_fill_100 : decode cX8_fill 100 = .ok (.aaload, 1) := by decide +kernel
theorem dX8_fill_101 : decode cX8_fill 101 = .ok (.iload_n 1, 1) := by decide +kernel
theorem dX8_fill_102 : decode cX8_fill 102 = .ok (.aload_n 0, 1) := by decide +kernel
theorem dX8_fill_103 : decode cX8_fill 103 = .ok (.getfield 11, 3) := by decide +kernel
theorem dX8_fill_106 : decode cX8_fill 106 = .ok (.iload 4, 2) := by decide +kernel
theorem dX8_fill_108 : decode cX8_fill 108 = .ok (.aaload, 1) := by decide +kernel
theorem dX8_fill_109 : decode cX8_fill 109 = .ok (.iload_n 1, 1) := by decide +kernel
theorem dX8_fill_110 : decode cX8_fill 110 = .ok (.iaload, 1) := by decide +kernel
theorem dX8_fill_111 : decode cX8_fill 111 = .ok (.iload 5, 2) := by decide +kernel
theorem dX8_fill_113 : decode cX8_fill 113 = .ok (.invokestatic 77, 3) := by decide +kernel
theorem dX8_fill_116 : decode cX8_fill 116 = .ok (.iastore, 1) := by decide +kernel
theorem dX8_fill_117 : decode cX8_fill 117 = .ok (.iinc 2 1, 3) := by decide +kernel
theorem dX8_fill_120 : decode cX8_fill 120 = .ok (.goto (-75), 3) := by decide +kernel
theorem dX8_fill_123 : decode cX8_fill 123 = .ok (.return_, 1) := by decide +kernel
theorem dX8_later_0 : decode cX8_later 0 = .ok (.iload_n 0, 1) := by decide +kernel
theorem dX8_later_1 : decode cX8_later 1 = .ok (.iconst (-1), 1) := by decide +kernel
theorem dX8_later_2 : decode cX8_later 2 = .ok (.if_icmp .eq 8, 3) := by decide +kernel
theorem dX8_later_5 : decode cX8_later 5 = .ok (.iload_n 1, 1) := by decide +kernel
theorem dX8_later_6 : decode cX8_later 6 = .ok (.iconst (-1), 1) := by decide +kernel
theorem dX8_later_7 : decode cX8_later 7 = .ok (.if_icmp .ne 7, 3) := by decide +kernel
theorem dX8_later_10 : decode cX8_later 10 = .ok (.iconst (-1), 1) := by decide +kernel
theorem dX8_later_11 : decode cX8_later 11 = .ok (.goto 8, 3) := by decide +kernel
theorem dX8_later_14 : decode cX8_later 14 = .ok (.iload_n 0, 1) := by decide +kernel
theorem dX8_later_15 : decode cX8_later 15 = .ok (.iload_n 1, 1) := by decide +kernel
theorem dX8_later_16 : decode cX8_later 16 = .ok (.invokestatic 80, 3) := by decide +kernel
theorem dX8_later_19 : decode cX8_later 19 = .ok (.ireturn, 1) := by decide +kernel
theorem dX9_init_0 : decode cX9_init 0 = .ok (.aload_n 0, 1) := by decide +kernel
theorem dX9_init_1 : decode cX9_init 1 = .ok (.invokespecial 3, 3) := by decide +kernel
theorem dX9_init_4 : decode cX9_init 4 = .ok (.aload_n 0, 1) := by decide +kernel
theorem dX9_init_5 : decode cX9_init 5 = .ok (.new 9, 3) := by decide +kernel
theorem dX9_init_8 : decode cX9_init 8 = .ok (.dup, 1) := by decide +kernel
theorem dX9_init_9 : decode cX9_init 9 = .ok (.invokespecial 11, 3) := by decide +kernel
theorem dX9_init_12 : decode cX9_init 12 = .ok (.putfield 12, 3) := by decide +kernel
theorem dX9_init_15 : decode cX9_init 15 = .ok (.aload_n 0, 1) := by decide +kernel
theorem dX9_init_16 : decode cX9_init 16 = .ok (.new 9, 3) := by decide +kernel
theorem dX9_init_19 : decode cX9_init 19 = .ok (.dup, 1) := by decide +kernel
theorem dX9_init_20 : decode cX9_init 20 = .ok (.invokespecial 11, 3) := by decide +kernel
theorem dX9_init_23 : decode cX9_init 23 = .ok (.putfield 18, 3) := by decide +kernel
theorem dX9_init_26 : decode cX9_init 26 = .ok (.aload_n 0, 1) := by decide +kernel
theorem dX9_init_27 : decode cX9_init 27 = .ok (.new 9, 3) := by decide +kernel
theorem dX9_init_30 : decode cX9_init 30 = .ok (.dup, 1) := by decide +kernel
theorem dX9_init_31 : decode cX9_init 31 = .ok (.invokespecial 11, 3) := by decide +kernel
theorem dX9_init_34 : decode cX9_init 34 = .ok (.putfield 21, 3) := by decide +kernel
theorem dX9_init_37 : decode cX9_init 37 = .ok (.aload_n 0, 1) := by decide +kernel
theorem dX9_init_38 : decode cX9_init 38 = .ok (.bipush 10, 2) := by decide +kernel
theorem dX9_init_40 : decode cX9_init 40 = .ok (.newarray .int, 2) := by decide +kernel
theorem dX9_init_42 : decode cX9_init 42 = .ok (.putfield 24, 3) := by decide +kernel
theorem dX9_init_45 : decode cX9_init 45 = .ok (.aload_n 0, 1) := by decide +kernel
theorem dX9_init_46 : decode cX9_init 46 = .ok (.bipush 10, 2) := by decide +kernel
theorem dX9_init_48 : decode cX9_init 48 = .ok (.newarray .int, 2) := by decide +kernel
theorem dX9_init_50 : decode cX9_init 50 = .ok (.putfield 28, 3) := by decide +kernel
theorem dX9_init_53 : decode cX9_init 53 = .ok (.aload_n 0, 1) := by decide +kernel
theorem dX9_init_54 : decode cX9_init 54 = .ok (.iconst (-1), 1) := by decide +kernel
theorem dX9_init_55 : decode cX9_init 55 = .ok (.putfield 31, 3) := by decide +kernel
theorem dX9_init_58 : decode cX9_init 58 = .ok (.aload_n 0, 1) := by decide +kernel
theorem dX9_init_59 : decode cX9_init 59 = .ok (.aload_n 1, 1) := by decide +kernel
theorem dX9_init_60 : decode cX9_init 60 = .ok (.putfield 35, 3) := by decide +kernel
theorem dX9_init_63 : decode cX9_init 63 = .ok (.return_, 1) := by decide +kernel
theorem dX9_forget_0 : decode cX9_forget 0 = .ok (.aload_n 0, 1) := by decide +kernel
theorem dX9_forget_1 : decode cX9_forget 1 = .ok (.iconst 0, 1) := by decide +kernel
theorem dX9_forget_2 : decode cX9_forget 2 = .ok (.putfield 39, 3) := by decide +kernel
theorem dX9_forget_5 : decode cX9_forget 5 = .ok (.aload_n 0, 1) := by decide +kernel
theorem dX9_forget_6 : decode cX9_forget 6 = .ok (.iconst 0, 1) := by decide +kernel
theorem dX9_forget_7 : decode cX9_forget 7 = .ok (.putfield 43, 3) := by decide +kernel
theorem dX9_forget_10 : decode cX9_forget 10 = .ok (.return_, 1) := by decide +kernel
theorem dX9_renew_0 : decode cX9_renew 0 = .ok (.aload_n 0, 1) := by decide +kernel
theorem dX9_renew_1 : decode cX9_renew 1 = .ok (.getfield 39, 3) := by decide +kernel
theorem dX9_renew_4 : decode cX9_renew 4 = .ok (.ifCond .eq 4, 3) := by decide +kernel
theorem dX9_renew_7 : decode cX9_renew 7 = .ok (.return_, 1) := by decide +kernel
theorem dX9_renew_8 : decode cX9_renew 8 = .ok (.aload_n 0, 1) := by decide +kernel
theorem dX9_renew_9 : decode cX9_renew 9 = .ok (.aload_n 0, 1) := by decide +kernel
theorem dX9_renew_10 : decode cX9_renew 10 = .ok (.getfield 35, 3) := by decide +kernel
theorem dX9_renew_13 : decode cX9_renew 13 = .ok (.invokevirtual 46, 3) := by decide +kernel
theorem dX9_renew_16 : decode cX9_renew 16 = .ok (.ifCond .eq 17, 3) := by decide +kernel
theorem dX9_renew_19 : decode cX9_renew 19 = .ok (.aload_n 0, 1) := by decide +kernel
theorem dX9_renew_20 : decode cX9_renew 20 = .ok (.getfield 35, 3) := by decide +kernel
theorem dX9_renew_23 : decode cX9_renew 23 = .ok (.invokevirtual 52, 3) := by decide +kernel
theorem dX9_renew_26 : decode cX9_renew 26 = .ok (.ifCond .ne 7, 3) := by decide +kernel
theorem dX9_renew_29 : decode cX9_renew 29 = .ok (.iconst 1, 1) := by decide +kernel
theorem dX9_renew_30 : decode cX9_renew 30 = .ok (.goto 4, 3) := by decide +kernel
theorem dX9_renew_33 : decode cX9_renew 33 = .ok (.iconst 0, 1) := by decide +kernel
theorem dX9_renew_34 : decode cX9_renew 34 = .ok (.putfield 55, 3) := by decide +kernel
theorem dX9_renew_37 : decode cX9_renew 37 = .ok (.aload_n 0, 1) := by decide +kernel
theorem dX9_renew_38 : decode cX9_renew 38 = .ok (.getfield 55, 3) := by decide +kernel
theorem dX9_renew_41 : decode cX9_renew 41 = .ok (.ifCond .eq 16, 3) := by decide +kernel
theorem dX9_renew_44 : decode cX9_renew 44 = .ok (.aload_n 0, 1) := by decide +kernel
theorem dX9_renew_45 : decode cX9_renew 45 = .ok (.iconst (-1), 1) := by decide +kernel
theorem dX9_renew_46 : decode cX9_renew 46 = .ok (.putfield 31, 3) := by decide +kernel
theorem dX9_renew_49 : decode cX9_renew 49 = .ok (.aload_n 0, 1) := by decide +kernel
theorem dX9_renew_50 : decode cX9_renew 50 = .ok (.aload_n 0, 1) := by decide +kernel
theorem dX9_renew_51 : decode cX9_renew 51 = .ok (.getfield 12, 3) := by decide +kernel
theorem dX9_renew_54 : decode cX9_renew 54 = .ok (.invokevirtual 58, 3) := by decide +kernel
theorem dX9_renew_57 : decode cX9_renew 57 = .ok (.aload_n 0, 1) := by decide +kernel
theorem dX9_renew_58 : decode cX9_renew 58 = .ok (.iconst 1, 1) := by decide +kernel
theorem dX9_renew_59 : decode cX9_renew 59 = .ok (.putfield 39, 3) := by decide +kernel
theorem dX9_renew_62 : decode cX9_renew 62 = .ok (.return_, 1) := by decide +kernel
theorem dX9_numerator_0 : decode cX9_numerator 0 = .ok (.aload_n 0, 1) := by decide +kernel
theorem dX9_numerator_1 : decode cX9_numerator 1 = .ok (.getfield 55, 3) := by decide +kernel
theorem dX9_numerator_4 : decode cX9_numerator 4 = .ok (.ifCond .eq 13, 3) := by decide +kernel
theorem dX9_numerator_7 : decode cX9_numerator 7 = .ok (.aload_n 0, 1) := by decide +kernel
theorem dX9_numerator_8 : decode cX9_numerator 8 = .ok (.getfield 12, 3) := by decide +kernel
theorem dX9_numerator_11 : decode cX9_numerator 11 = .ok (.invokevirtual 62, 3) := by decide +kernel
theorem dX9_numerator_14 : decode cX9_numerator 14 = .ok (.goto 4, 3) := by decide +kernel
theorem dX9_numerator_17 : decode cX9_numerator 17 = .ok (.iconst (-1), 1) := by decide +kernel
theorem dX9_numerator_18 : decode cX9_numerator 18 = .ok (.ireturn, 1) := by decide +kernel
theorem dX9_denominator_0 : decode cX9_denominator 0 = .ok (.aload_n 0, 1) := by decide +kernel
theorem dX9_denominator_1 : decode cX9_denominator 1 = .ok (.getfield 55, 3) := by decide +kernel
theorem dX9_denominator_4 : decode cX9_denominator 4 = .ok (.ifCond .eq 13, 3) := by decide +kernel
theorem dX9_denominator_7 : decode cX9_denominator 7 = .ok (.aload_n 0, 1) := by decide +kernel
theorem dX9_denominator_8 : decode cX9_denominator 8 = .ok (.getfield 12, 3) := by decide +kernel
theorem dX9_denominator_11 : decode cX9_denominator 11 = .ok (.invokevirtual 66, 3) := by decide +kernel
theorem dX9_denominator_14 : decode cX9_denominator 14 = .ok (.goto 4, 3) := by decide +kernel
theorem dX9_denominator_17 : decode cX9_denominator 17 = .ok (.iconst (-1), 1) := by decide +kernel
theorem dX9_denominator_18 : decode cX9_denominator 18 = .ok (.ireturn, 1) := by decide +kernel
theorem dX9_helper_0 : decode cX9_helper 0 = .ok (.aload_n 0, 1) := by decide +kernel
theorem dX9_helper_1 : decode cX9_helper 1 = .ok (.getfield 55, 3) := by decide +kernel
theorem dX9_helper_4 : decode cX9_helper 4 = .ok (.ifCond .ne 5, 3) := by decide +kernel
theorem dX9_helper_7 : decode cX9_helper 7 = .ok (.iconst (-1), 1) := by decide +kernel
theorem dX9_helper_8 : decode cX9_helper 8 = .ok (.ireturn, 1) := by decide +kernel
theorem dX9_helper_9 : decode cX9_helper 9 = .ok (.aload_n 0, 1) := by decide +kernel
theorem dX9_helper_10 : decode cX9_helper 10 = .ok (.getfield 43, 3) := by decide +kernel
theorem dX9_helper_13 : decode cX9_helper 13 = .ok (.ifCond .eq 8, 3) := by decide +kernel
theorem dX9_helper_16 : decode cX9_helper 16 = .ok (.aload_n 0, 1) := by decide +kernel
theorem dX9_helper_17 : decode cX9_helper 17 = .ok (.getfield 69, 3) := by decide +kernel
theorem dX9_helper_20 : decode cX9_helper 20 = .ok (.ireturn, 1) := by decide +kernel
theorem dX9_helper_21 : decode cX9_helper 21 = .ok (.aload_n 0, 1) := by decide +kernel
theorem dX9_helper_22 : decode cX9_helper 22 = .ok (.iconst (-1), 1) := by decide +kernel
theorem dX9_helper_23 : decode cX9_helper 23 = .ok (.putfield 69, 3) := by decide +kernel
theorem dX9_helper_26 : decode cX9_helper 26 = .ok (.aload_n 0, 1) := by decide +kernel
theorem dX9_helper_27 : decode cX9_helper 27 = .ok (.getfield 21, 3) := by decide +kernel
theorem dX9_helper_30 : decode cX9_helper 30 = .ok (.aload_n 0, 1) := by decide +kernel
theorem dX9_helper_31 : decode cX9_helper 31 = .ok (.getfield 12, 3) := by decide +kernel
theorem dX9_helper_34 : decode cX9_helper 34 = .ok (.invokevirtual 72, 3) := by decide +kernel
theorem dX9_helper_37 : decode cX9_helper 37 = .ok (.iconst 0, 1) := by decide +kernel
theorem dX9_helper_38 : decode cX9_helper 38 = .ok (.istore_n 1, 1) := by decide +kernel
theorem dX9_helper_39 : decode cX9_helper 39 = .ok (.iload_n 1, 1) := by decide +kernel
theorem dX9_helper_40 : decode cX9_helper 40 = .ok (.aload_n 0, 1) := by decide +kernel
theorem dX9_helper_41 : decode cX9_helper 41 = .ok (.getfield 35, 3) := by decide +kernel
theorem dX9_helper_44 : decode cX9_helper 44 = .ok (.invokevirtual 75, 3) := by decide +kernel
theorem dX9_helper_47 : decode cX9_helper 47 = .ok (.if_icmp .ge 52, 3) := by decide +kernel
theorem dX9_helper_50 : decode cX9_helper 50 = .ok (.aload_n 0, 1) := by decide +kernel
theorem dX9_helper_51 : decode cX9_helper 51 = .ok (.iload_n 1, 1) := by decide +kernel
theorem dX9_helper_52 : decode cX9_helper 52 = .ok (.putfield 31, 3) := by decide +kernel
theorem dX9_helper_55 : decode cX9_helper 55 = .ok (.aload_n 0, 1) := by decide +kernel
theorem dX9_helper_56 : decode cX9_helper 56 = .ok (.aload_n 0, 1) := by decide +kernel
theorem dX9_helper_57 : decode cX9_helper 57 = .ok (.getfield 18, 3) := by decide +kernel
theorem dX9_helper_60 : decode cX9_helper 60 = .ok (.invokevirtual 58, 3) := by decide +kernel
theorem dX9_helper_63 : decode cX9_helper 63 = .ok (.aload_n 0, 1) := by decide +kernel
theorem dX9_helper_64 : decode cX9_helper 64 = .ok (.getfield 18, 3) := by decide +kernel
theorem dX9_helper_67 : decode cX9_helper 67 = .ok (.aload_n 0, 1) := by decide +kernel
theorem dX9_helper_68 : decode cX9_helper 68 = .ok (.getfield 21, 3) := by decide +kernel
theorem dX9_helper_71 : decode cX9_helper 71 = .ok (.invokevirtual 78, 3) := by decide +kernel
theorem dX9_helper_74 : decode cX9_helper 74 = .ok (.ifCond .eq 19, 3) := by decide +kernel
theorem dX9_helper_77 : decode cX9_helper 77 = .ok (.aload_n 0, 1) := by decide +kernel
theorem dX9_helper_78 : decode cX9_helper 78 = .ok (.getfield 21, 3) := by decide +kernel
theorem dX9_helper_81 : decode cX9_helper 81 = .ok (.aload_n 0, 1) := by decide +kernel
theorem dX9_helper_82 : decode cX9_helper 82 = .ok (.getfield 18, 3) := by decide +kernel
theorem dX9_helper_85 : decode cX9_helper 85 = .ok (.invokevirtual 72, 3) := by decide +kernel
theorem dX9_helper_88 : decode cX9_helper 88 = .ok (.aload_n 0, 1) := by decide +kernel
theorem dX9_helper_89 : decode cX9_helper 89 = .ok (.iload_n 1, 1) := by decide +kernel
theorem dX9_helper_90 : decode cX9_helper 90 = .ok (.putfield 69, 3) := by decide +kernel
theorem dX9_helper_93 : decode cX9_helper 93 = .ok (.iinc 1 1, 3) := by decide +kernel
theorem dX9_helper_96 : decode cX9_helper 96 = .ok (.goto (-57), 3) := by decide +kernel
theorem dX9_helper_99 : decode cX9_helper 99 = .ok (.aload_n 0, 1) := by decide +kernel
theorem dX9_helper_100 : decode cX9_helper 100 = .ok (.iconst (-1), 1) := by decide +kernel
theorem dX9_helper_101 : decode cX9_helper 101 = .ok (.putfield 31, 3) := by decide +kernel
theorem dX9_helper_104 : decode cX9_helper 104 = .ok (.aload_n 0, 1) := by decide +kernel
theorem dX9_helper_105 : decode cX9_helper 105 = .ok (.iconst 1, 1) := by decide +kernel
theorem dX9_helper_106 : decode cX9_helper 106 = .ok (.putfield 43, 3) := by decide +kernel
theorem dX9_helper_109 : decode cX9_helper 109 = .ok (.aload_n 0, 1) := by decide +kernel
theorem dX9_helper_110 : decode cX9_helper 110 = .ok (.getfield 69, 3) := by decide +kernel
theorem dX9_helper_113 : decode cX9_helper 113 = .ok (.ireturn, 1) := by decide +kernel
theorem dX9_findGreatest_0 : decode cX9_findGreatest 0 = .ok (.aload_n 1, 1) := by decide +kernel
theorem dX9_findGreatest_1 : decode cX9_findGreatest 1 = .ok (.invokevirtual 82, 3) := by decide +kernel
theorem dX9_findGreatest_4 : decode cX9_findGreatest 4 = .ok (.iconst 0, 1) := by decide +kernel
theorem dX9_findGreatest_5 : decode cX9_findGreatest 5 = .ok (.istore_n 2, 1) := by decide +kernel
theorem dX9_findGreatest_6 : decode cX9_findGreatest 6 = .ok (.iload_n 2, 1) := by decide +kernel
theorem dX9_findGreatest_7 : decode cX9_findGreatest 7 = .ok (.ldc 85, 2) := by decide +kernel
theorem dX9_findGreatest_9 : decode cX9_findGreatest 9 = .ok (.if_icmp .ge 31, 3) := by decide +kernel
theorem dX9_findGreatest_12 : decode cX9_findGreatest 12 = .ok (.aload_n 0, 1) := by decide +kernel
theorem dX9_findGreatest_13 : decode cX9_findGreatest 13 = .ok (.aload_n 1, 1) := by decide +kernel
theorem dX9_findGreatest_14 : decode cX9_findGreatest 14 = .ok (.invokevirtual 86, 3) := by decide +kernel
theorem dX9_findGreatest_17 : decode cX9_findGreatest 17 = .ok (.istore_n 3, 1) := by decide +kernel
theorem dX9_findGreatest_18 : decode cX9_findGreatest 18 = .ok (.iload_n 3, 1) := by decide +kernel
theorem dX9_findGreatest_19 : decode cX9_findGreatest 19 = .ok (.iconst (-1), 1) := by decide +kernel
theorem dX9_findGreatest_20 : decode cX9_findGreatest 20 = .ok (.if_icmp .ne 4, 3) := by decide +kernel
theorem dX9_findGreatest_23 : decode cX9_findGreatest 23 = .ok (.return_, 1) := by decide +kernel
theorem dX9_findGreatest_24 : decode cX9_findGreatest 24 = .ok (.aload_n 0, 1) := by decide +kernel
theorem dX9_findGreatest_25 : decode cX9_findGreatest 25 = .ok (.aload_n 0, 1) := by decide +kernel
theorem dX9_findGreatest_26 : decode cX9_findGreatest 26 = .ok (.iload_n 3, 1) := by decide +kernel
theorem dX9_findGreatest_27 : decode cX9_findGreatest 27 = .ok (.invokevirtual 90, 3) := by decide +kernel
theorem dX9_findGreatest_30 : decode cX9_findGreatest 30 = .ok (.aload_n 1, 1) := by decide +kernel
theorem dX9_findGreatest_31 : decode cX9_findGreatest 31 = .ok (.invokevirtual 94, 3) := by decide +kernel
theorem dX9_findGreatest_34 : decode cX9_findGreatest 34 = .ok (.iinc 2 1, 3) := by decide +kernel
theorem dX9_findGreatest_37 : decode cX9_findGreatest 37 = .ok (.goto (-31), 3) := by decide +kernel
theorem dX9_findGreatest_40 : decode cX9_findGreatest 40 = .ok (.return_, 1) := by decide +kernel
theorem dX9_nodeBehindGreaterRing_0 : decode cX9_nodeBehindGreaterRing 0 = .ok (.aload_n 0, 1) := by decide +kernel
theorem dX9_nodeBehindGreaterRing_1 : decode cX9_nodeBehindGreaterRing 1 = .ok (.getfield 24, 3) := by decide +kernel
theorem dX9_nodeBehindGreaterRing_4 : decode cX9_nodeBehindGreaterRing 4 = .ok (.iconst 0, 1) := by decide +kernel
theorem dX9_nodeBehindGreaterRing_5 : decode cX9_nodeBehindGreaterRing 5 = .ok (.invokestatic 98, 3) := by decide +kernel
theorem dX9_nodeBehindGreaterRing_8 : decode cX9_nodeBehindGreaterRing 8 = .ok (.aload_n 0, 1) := by decide +kernel
theorem dX9_nodeBehindGreaterRing_9 : decode cX9_nodeBehindGreaterRing 9 = .ok (.getfield 28, 3) := by decide +kernel
theorem dX9_nodeBehindGreaterRing_12 : decode cX9_nodeBehindGreaterRing 12 = .ok (.iconst (-1), 1) := by decide +kernel
theorem dX9_nodeBehindGreaterRing_13 : decode cX9_nodeBehindGreaterRing 13 = .ok (.invokestatic 98, 3) := by decide +kernel
theorem dX9_nodeBehindGreaterRing_16 : decode cX9_nodeBehindGreaterRing 16 = .ok (.iconst (-1), 1) := by decide +kernel
theorem dX9_nodeBehindGreaterRing_17 : decode cX9_nodeBehindGreaterRing 17 = .ok (.istore_n 2, 1) := by decide +kernel
theorem dX9_nodeBehindGreaterRing_18 : decode cX9_nodeBehindGreaterRing 18 = .ok (.iconst 0, 1) := by decide +kernel
theorem dX9_nodeBehindGreaterRing_19 : decode cX9_nodeBehindGreaterRing 19 = .ok (.istore_n 3, 1) := by decide +kernel
theorem dX9_nodeBehindGreaterRing_20 : decode cX9_nodeBehindGreaterRing 20 = .ok (.iload_n 3, 1) := by decide +kernel
theorem dX9_nodeBehindGreaterRing_21 : decode cX9_nodeBehindGreaterRing 21 = .ok (.aload_n 0, 1) := by decide +kernel
theorem dX9_nodeBehindGreaterRing_22 : decode cX9_nodeBehindGreaterRing 22 = .ok (.getfield 35, 3) := by decide +kernel
theorem dX9_nodeBehindGreaterRing_25 : decode cX9_nodeBehindGreaterRing 25 = .ok (.invokevirtual 104, 3) := by decide +kernel
theorem dX9_nodeBehindGreaterRing_28 : decode cX9_nodeBehindGreaterRing 28 = .ok (.if_icmp .ge 22, 3) := by decide +kernel
theorem dX9_nodeBehindGreaterRing_31 : decode cX9_nodeBehindGreaterRing 31 = .ok (.aload_n 0, 1) := by decide +kernel
theorem dX9_nodeBehindGreaterRing_32 : decode cX9_nodeBehindGreaterRing 32 = .ok (.aload_n 1, 1) := by decide +kernel
theorem dX9_nodeBehindGreaterRing_33 : decode cX9_nodeBehindGreaterRing 33 = .ok (.invokevirtual 107, 3) := by decide +kernel
theorem dX9_nodeBehindGreaterRing_36 : decode cX9_nodeBehindGreaterRing 36 = .ok (.istore_n 2, 1) := by decide +kernel
theorem dX9_nodeBehindGreaterRing_37 : decode cX9_nodeBehindGreaterRing 37 = .ok (.iload_n 2, 1) := by decide +kernel
theorem dX9_nodeBehindGreaterRing_38 : decode cX9_nodeBehindGreaterRing 38 = .ok (.iconst (-1), 1) := by decide +kernel
theorem dX9_nodeBehindGreaterRing_39 : decode cX9_nodeBehindGreaterRing 39 = .ok (.if_icmp .ne 5, 3) := by decide +kernel
theorem dX9_nodeBehindGreaterRing_42 : decode cX9_nodeBehindGreaterRing 42 = .ok (.iconst (-1), 1) := by decide +kernel
theorem dX9_nodeBehindGreaterRing_43 : decode cX9_nodeBehindGreaterRing 43 = .ok (.ireturn, 1) := by decide +kernel
theorem dX9_nodeBehindGreaterRing_44 : decode cX9_nodeBehindGreaterRing 44 = .ok (.iinc 3 1, 3) := by decide +kernel
theorem dX9_nodeBehindGreaterRing_47 : decode cX9_nodeBehindGreaterRing 47 = .ok (.goto (-27), 3) := by decide +kernel
theorem dX9_nodeBehindGreaterRing_50 : decode cX9_nodeBehindGreaterRing 50 = .ok (.iload_n 2, 1) := by decide +kernel
theorem dX9_nodeBehindGreaterRing_51 : decode cX9_nodeBehindGreaterRing 51 = .ok (.ireturn, 1) := by decide +kernel
theorem dX9_growPaths_0 : decode cX9_growPaths 0 = .ok (.iconst (-1), 1) := by decide +kernel
theorem dX9_growPaths_1 : decode cX9_growPaths 1 = .ok (.istore_n 2, 1) := by decide +kernel
theorem dX9_growPaths_2 : decode cX9_growPaths 2 = .ok (.iconst 0, 1) := by decide +kernel
theorem dX9_growPaths_3 : decode cX9_growPaths 3 = .ok (.istore_n 3, 1) := by decide +kernel
theorem dX9_growPaths_4 : decode cX9_growPaths 4 = .ok (.iload_n 3, 1) := by decide +kernel
theorem dX9_growPaths_5 : decode cX9_growPaths 5 = .ok (.aload_n 0, 1) := by decide +kernel
theorem dX9_growPaths_6 : decode cX9_growPaths 6 = .ok (.getfield 35, 3) := by decide +kernel
theorem dX9_growPaths_9 : decode cX9_growPaths 9 = .ok (.invokevirtual 75, 3) := by decide +kernel
theorem dX9_growPaths_12 : decode cX9_growPaths 12 = .ok (.if_icmp .ge 96, 3) := by decide +kernel
theorem dX9_growPaths_15 : decode cX9_growPaths 15 = .ok (.aload_n 0, 1) := by decide +kernel
theorem dX9_growPaths_16 : decode cX9_growPaths 16 = .ok (.getfield 35, 3) := by decide +kernel
theorem dX9_growPaths_19 : decode cX9_growPaths 19 = .ok (.iload_n 3, 1) := by decide +kernel
theorem dX9_growPaths_20 : decode cX9_growPaths 20 = .ok (.invokevirtual 110, 3) := by decide +kernel
theorem dX9_growPaths_23 : decode cX9_growPaths 23 = .ok (.istore 4, 2) := by decide +kernel
theorem dX9_growPaths_25 : decode cX9_growPaths 25 = .ok (.aload_n 1, 1) := by decide +kernel
theorem dX9_growPaths_26 : decode cX9_growPaths 26 = .ok (.invokevirtual 66, 3) := by decide +kernel
theorem dX9_growPaths_29 : decode cX9_growPaths 29 = .ok (.aload_n 0, 1) := by decide +kernel
theorem dX9_growPaths_30 : decode cX9_growPaths 30 = .ok (.getfield 35, 3) := by decide +kernel
theorem dX9_growPaths_33 : decode cX9_growPaths 33 = .ok (.iload 4, 2) := by decide +kernel
theorem dX9_growPaths_35 : decode cX9_growPaths 35 = .ok (.invokevirtual 113, 3) := by decide +kernel
theorem dX9_growPaths_38 : decode cX9_growPaths 38 = .ok (.imul, 1) := by decide +kernel
theorem dX9_growPaths_39 : decode cX9_growPaths 39 = .ok (.aload_n 1, 1) := by decide +kernel
theorem dX9_growPaths_40 : decode cX9_growPaths 40 = .ok (.invokevirtual 62, 3) := by decide +kernel
theorem dX9_growPaths_43 : decode cX9_growPaths 43 = .ok (.aload_n 0, 1) := by decide +kernel
theorem dX9_growPaths_44 : decode cX9_growPaths 44 = .ok (.iload_n 3, 1) := by decide +kernel
theorem dX9_growPaths_45 : decode cX9_growPaths 45 = .ok (.invokevirtual 116, 3) := by decide +kernel
theorem dX9_growPaths_48 : decode cX9_growPaths 48 = .ok (.imul, 1) := by decide +kernel
theorem dX9_growPaths_49 : decode cX9_growPaths 49 = .ok (.isub, 1) := by decide +kernel
theorem dX9_growPaths_50 : decode cX9_growPaths 50 = .ok (.istore 5, 2) := by decide +kernel
theorem dX9_growPaths_52 : decode cX9_growPaths 52 = .ok (.aload_n 0, 1) := by decide +kernel
theorem dX9_growPaths_53 : decode cX9_growPaths 53 = .ok (.getfield 24, 3) := by decide +kernel
theorem dX9_growPaths_56 : decode cX9_growPaths 56 = .ok (.aload_n 0, 1) := by decide +kernel
theorem dX9_growPaths_57 : decode cX9_growPaths 57 = .ok (.getfield 35, 3) := by decide +kernel
theorem dX9_growPaths_60 : decode cX9_growPaths 60 = .ok (.iload_n 3, 1) := by decide +kernel
theorem dX9_growPaths_61 : decode cX9_growPaths 61 = .ok (.invokevirtual 119, 3) := by decide +kernel
theorem dX9_growPaths_64 : decode cX9_growPaths 64 = .ok (.iaload, 1) := by decide +kernel
theorem dX9_growPaths_65 : decode cX9_growPaths 65 = .ok (.iload 5, 2) := by decide +kernel
theorem dX9_growPaths_67 : decode cX9_growPaths 67 = .ok (.iadd, 1) := by decide +kernel
theorem dX9_growPaths_68 : decode cX9_growPaths 68 = .ok (.istore 6, 2) := by decide +kernel
theorem dX9_growPaths_70 : decode cX9_growPaths 70 = .ok (.iload 6, 2) := by decide +kernel
theorem dX9_growPaths_72 : decode cX9_growPaths 72 = .ok (.aload_n 0, 1) := by decide +kernel
theorem dX9_growPaths_73 : decode cX9_growPaths 73 = .ok (.getfield 24, 3) := by decide +kernel
theorem dX9_growPaths_76 : decode cX9_growPaths 76 = .ok (.iload 4, 2) := by decide +kernel
theorem dX9_growPaths_78 : decode cX9_growPaths 78 = .ok (.iaload, 1) := by decide +kernel
theorem dX9_growPaths_79 : decode cX9_growPaths 79 = .ok (.if_icmp .le 23, 3) := by decide +kernel
theorem dX9_growPaths_82 : decode cX9_growPaths 82 = .ok (.aload_n 0, 1) := by decide +kernel
theorem dX9_growPaths_83 : decode cX9_growPaths 83 = .ok (.getfield 24, 3) := by decide +kernel
theorem dX9_growPaths_86 : decode cX9_growPaths 86 = .ok (.iload 4, 2) := by decide +kernel
theorem dX9_growPaths_88 : decode cX9_growPaths 88 = .ok (.iload 6, 2) := by decide +kernel
theorem dX9_growPaths_90 : decode cX9_growPaths 90 = .ok (.iastore, 1) := by decide +kernel
theorem dX9_growPaths_91 : decode cX9_growPaths 91 = .ok (.aload_n 0, 1) := by decide +kernel
theorem dX9_growPaths_92 : decode cX9_growPaths 92 = .ok (.getfield 28, 3) := by decide +kernel
theorem dX9_growPaths_95 : decode cX9_growPaths 95 = .ok (.iload 4, 2) := by decide +kernel
theorem dX9_growPaths_97 : decode cX9_growPaths 97 = .ok (.iload_n 3, 1) := by decide +kernel
theorem dX9_growPaths_98 : decode cX9_growPaths 98 = .ok (.iastore, 1) := by decide +kernel
theorem dX9_growPaths_99 : decode cX9_growPaths 99 = .ok (.iload 4, 2) := by decide +kernel
theorem dX9_growPaths_101 : decode cX9_growPaths 101 = .ok (.istore_n 2, 1) := by decide +kernel
theorem dX9_growPaths_102 : decode cX9_growPaths 102 = .ok (.iinc 3 1, 3) := by decide +kernel
theorem dX9_growPaths_105 : decode cX9_growPaths 105 = .ok (.goto (-101), 3) := by decide +kernel
theorem dX9_growPaths_108 : decode cX9_growPaths 108 = .ok (.iload_n 2, 1) := by decide +kernel
theorem dX9_growPaths_109 : decode cX9_growPaths 109 = .ok (.ireturn, 1) := by decide +kernel
theorem dX9_tokensOn_0 : decode cX9_tokensOn 0 = .ok (.aload_n 0, 1) := by decide +kernel
theorem dX9_tokensOn_1 : decode cX9_tokensOn 1 = .ok (.getfield 35, 3) := by decide +kernel
theorem dX9_tokensOn_4 : decode cX9_tokensOn 4 = .ok (.iload_n 1, 1) := by decide +kernel
theorem dX9_tokensOn_5 : decode cX9_tokensOn 5 = .ok (.invokevirtual 122, 3) := by decide +kernel
theorem dX9_tokensOn_8 : decode cX9_tokensOn 8 = .ok (.iload_n 1, 1) := by decide +kernel
theorem dX9_tokensOn_9 : decode cX9_tokensOn 9 = .ok (.aload_n 0, 1) := by decide +kernel
theorem dX9_tokensOn_10 : decode cX9_tokensOn 10 = .ok (.getfield 31, 3) := by decide +kernel
theorem dX9_tokensOn_13 : decode cX9_tokensOn 13 = .ok (.if_icmp .ne 7, 3) := by decide +kernel
theorem dX9_tokensOn_16 : decode cX9_tokensOn 16 = .ok (.iconst 1, 1) := by decide +kernel
theorem dX9_tokensOn_17 : decode cX9_tokensOn 17 = .ok (.goto 4, 3) := by decide +kernel
theorem dX9_tokensOn_20 : decode cX9_tokensOn 20 = .ok (.iconst 0, 1) := by decide +kernel
theorem dX9_tokensOn_21 : decode cX9_tokensOn 21 = .ok (.iadd, 1) := by decide +kernel
theorem dX9_tokensOn_22 : decode cX9_tokensOn 22 = .ok (.ireturn, 1) := by decide +kernel
theorem dX9_nodeOnRing_0 : decode cX9_nodeOnRing 0 = .ok (.iload_n 1, 1) := by decide +kernel
theorem dX9_nodeOnRing_1 : decode cX9_nodeOnRing 1 = .ok (.istore_n 2, 1) := by decide +kernel
theorem dX9_nodeOnRing_2 : decode cX9_nodeOnRing 2 = .ok (.iconst 0, 1) := by decide +kernel
theorem dX9_nodeOnRing_3 : decode cX9_nodeOnRing 3 = .ok (.istore_n 3, 1) := by decide +kernel
theorem dX9_nodeOnRing_4 : decode cX9_nodeOnRing 4 = .ok (.iload_n 3, 1) := by decide +kernel
theorem dX9_nodeOnRing_5 : decode cX9_nodeOnRing 5 = .ok (.aload_n 0, 1) := by decide +kernel
theorem dX9_nodeOnRing_6 : decode cX9_nodeOnRing 6 = .ok (.getfield 35, 3) := by decide +kernel
theorem dX9_nodeOnRing_9 : decode cX9_nodeOnRing 9 = .ok (.invokevirtual 104, 3) := by decide +kernel
theorem dX9_nodeOnRing_12 : decode cX9_nodeOnRing 12 = .ok (.if_icmp .ge 33, 3) := by decide +kernel
theorem dX9_nodeOnRing_15 : decode cX9_nodeOnRing 15 = .ok (.aload_n 0, 1) := by decide +kernel
theorem dX9_nodeOnRing_16 : decode cX9_nodeOnRing 16 = .ok (.getfield 28, 3) := by decide +kernel
theorem dX9_nodeOnRing_19 : decode cX9_nodeOnRing 19 = .ok (.iload_n 2, 1) := by decide +kernel
theorem dX9_nodeOnRing_20 : decode cX9_nodeOnRing 20 = .ok (.iaload, 1) := by decide +kernel
theorem dX9_nodeOnRing_21 : decode cX9_nodeOnRing 21 = .ok (.iconst (-1), 1) := by decide +kernel
theorem dX9_nodeOnRing_22 : decode cX9_nodeOnRing 22 = .ok (.if_icmp .eq 23, 3) := by decide +kernel
theorem dX9_nodeOnRing_25 : decode cX9_nodeOnRing 25 = .ok (.aload_n 0, 1) := by decide +kernel
theorem dX9_nodeOnRing_26 : decode cX9_nodeOnRing 26 = .ok (.getfield 35, 3) := by decide +kernel
theorem dX9_nodeOnRing_29 : decode cX9_nodeOnRing 29 = .ok (.aload_n 0, 1) := by decide +kernel
theorem dX9_nodeOnRing_30 : decode cX9_nodeOnRing 30 = .ok (.getfield 28, 3) := by decide +kernel
theorem dX9_nodeOnRing_33 : decode cX9_nodeOnRing 33 = .ok (.iload_n 2, 1) := by decide +kernel
theorem dX9_nodeOnRing_34 : decode cX9_nodeOnRing 34 = .ok (.iaload, 1) := by decide +kernel
theorem dX9_nodeOnRing_35 : decode cX9_nodeOnRing 35 = .ok (.invokevirtual 119, 3) := by decide +kernel
theorem dX9_nodeOnRing_38 : decode cX9_nodeOnRing 38 = .ok (.istore_n 2, 1) := by decide +kernel
theorem dX9_nodeOnRing_39 : decode cX9_nodeOnRing 39 = .ok (.iinc 3 1, 3) := by decide +kernel
theorem dX9_nodeOnRing_42 : decode cX9_nodeOnRing 42 = .ok (.goto (-38), 3) := by decide +kernel
theorem dX9_nodeOnRing_45 : decode cX9_nodeOnRing 45 = .ok (.iload_n 2, 1) := by decide +kernel
theorem dX9_nodeOnRing_46 : decode cX9_nodeOnRing 46 = .ok (.ireturn, 1) := by decide +kernel
theorem dX9_putRing_0 : decode cX9_putRing 0 = .ok (.iconst 0, 1) := by decide +kernel
theorem dX9_putRing_1 : decode cX9_putRing 1 = .ok (.istore_n 3, 1) := by decide +kernel
theorem dX9_putRing_2 : decode cX9_putRing 2 = .ok (.iconst 0, 1) := by decide +kernel
theorem dX9_putRing_3 : decode cX9_putRing 3 = .ok (.istore 4, 2) := by decide +kernel
theorem dX9_putRing_5 : decode cX9_putRing 5 = .ok (.iload_n 1, 1) := by decide +kernel
theorem dX9_putRing_6 : decode cX9_putRing 6 = .ok (.istore 5, 2) := by decide +kernel
theorem dX9_putRing_8 : decode cX9_putRing 8 = .ok (.iconst 0, 1) := by decide +kernel
theorem dX9_putRing_9 : decode cX9_putRing 9 = .ok (.istore 6, 2) := by decide +kernel
theorem dX9_putRing_11 : decode cX9_putRing 11 = .ok (.iload 6, 2) := by decide +kernel
theorem dX9_putRing_13 : decode cX9_putRing 13 = .ok (.aload_n 0, 1) := by decide +kernel
theorem dX9_putRing_14 : decode cX9_putRing 14 = .ok (.getfield 35, 3) := by decide +kernel
theorem dX9_putRing_17 : decode cX9_putRing 17 = .ok (.invokevirtual 104, 3) := by decide +kernel
theorem dX9_putRing_20 : decode cX9_putRing 20 = .ok (.if_icmp .ge 73, 3) := by decide +kernel
theorem dX9_putRing_23 : decode cX9_putRing 23 = .ok (.aload_n 0, 1) := by decide +kernel
theorem dX9_putRing_24 : decode cX9_putRing 24 = .ok (.getfield 28, 3) := by decide +kernel
theorem dX9_putRing_27 : decode cX9_putRing 27 = .ok (.iload 5, 2) := by decide +kernel
theorem dX9_putRing_29 : decode cX9_putRing 29 = .ok (.iaload, 1) := by decide +kernel
theorem dX9_putRing_30 : decode cX9_putRing 30 = .ok (.iconst (-1), 1) := by decide +kernel
theorem dX9_putRing_31 : decode cX9_putRing 31 = .ok (.if_icmp .eq 62, 3) := by decide +kernel
theorem dX9_putRing_34 : decode cX9_putRing 34 = .ok (.iload_n 3, 1) := by decide +kernel
theorem dX9_putRing_35 : decode cX9_putRing 35 = .ok (.aload_n 0, 1) := by decide +kernel
theorem dX9_putRing_36 : decode cX9_putRing 36 = .ok (.getfield 35, 3) := by decide +kernel
theorem dX9_putRing_39 : decode cX9_putRing 39 = .ok (.iload 5, 2) := by decide +kernel
theorem dX9_putRing_41 : decode cX9_putRing 41 = .ok (.invokevirtual 113, 3) := by decide +kernel
theorem dX9_putRing_44 : decode cX9_putRing 44 = .ok (.iadd, 1) := by decide +kernel
theorem dX9_putRing_45 : decode cX9_putRing 45 = .ok (.istore_n 3, 1) := by decide +kernel
theorem dX9_putRing_46 : decode cX9_putRing 46 = .ok (.iload 4, 2) := by decide +kernel
theorem dX9_putRing_48 : decode cX9_putRing 48 = .ok (.aload_n 0, 1) := by decide +kernel
theorem dX9_putRing_49 : decode cX9_putRing 49 = .ok (.aload_n 0, 1) := by decide +kernel
theorem dX9_putRing_50 : decode cX9_putRing 50 = .ok (.getfield 28, 3) := by decide +kernel
theorem dX9_putRing_53 : decode cX9_putRing 53 = .ok (.iload 5, 2) := by decide +kernel
theorem dX9_putRing_55 : decode cX9_putRing 55 = .ok (.iaload, 1) := by decide +kernel
theorem dX9_putRing_56 : decode cX9_putRing 56 = .ok (.invokevirtual 116, 3) := by decide +kernel
theorem dX9_putRing_59 : decode cX9_putRing 59 = .ok (.iadd, 1) := by decide +kernel
theorem dX9_putRing_60 : decode cX9_putRing 60 = .ok (.istore 4, 2) := by decide +kernel
theorem dX9_putRing_62 : decode cX9_putRing 62 = .ok (.aload_n 0, 1) := by decide +kernel
theorem dX9_putRing_63 : decode cX9_putRing 63 = .ok (.getfield 35, 3) := by decide +kernel
theorem dX9_putRing_66 : decode cX9_putRing 66 = .ok (.aload_n 0, 1) := by decide +kernel
theorem dX9_putRing_67 : decode cX9_putRing 67 = .ok (.getfield 28, 3) := by decide +kernel
theorem dX9_putRing_70 : decode cX9_putRing 70 = .ok (.iload 5, 2) := by decide +kernel
theorem dX9_putRing_72 : decode cX9_putRing 72 = .ok (.iaload, 1) := by decide +kernel
theorem dX9_putRing_73 : decode cX9_putRing 73 = .ok (.invokevirtual 119, 3) := by decide +kernel
theorem dX9_putRing_76 : decode cX9_putRing 76 = .ok (.istore 5, 2) := by decide +kernel
theorem dX9_putRing_78 : decode cX9_putRing 78 = .ok (.iload 5, 2) := by decide +kernel
theorem dX9_putRing_80 : decode cX9_putRing 80 = .ok (.iload_n 1, 1) := by decide +kernel
theorem dX9_putRing_81 : decode cX9_putRing 81 = .ok (.if_icmp .ne 6, 3) := by decide +kernel
theorem dX9_putRing_84 : decode cX9_putRing 84 = .ok (.goto 9, 3) := by decide +kernel
theorem dX9_putRing_87 : decode cX9_putRing 87 = .ok (.iinc 6 1, 3) := by decide +kernel
theorem dX9_putRing_90 : decode cX9_putRing 90 = .ok (.goto (-79), 3) := by decide +kernel
theorem dX9_putRing_93 : decode cX9_putRing 93 = .ok (.aload_n 2, 1) := by decide +kernel
theorem dX9_putRing_94 : decode cX9_putRing 94 = .ok (.iload_n 3, 1) := by decide +kernel
theorem dX9_putRing_95 : decode cX9_putRing 95 = .ok (.iload 4, 2) := by decide +kernel
theorem dX9_putRing_97 : decode cX9_putRing 97 = .ok (.invokevirtual 125, 3) := by decide +kernel
theorem dX9_putRing_100 : decode cX9_putRing 100 = .ok (.return_, 1) := by decide +kernel
theorem dX10_init_0 : decode cX10_init 0 = .ok (.aload_n 0, 1) := by decide +kernel
theorem dX10_init_1 : decode cX10_init 1 = .ok (.invokespecial 3, 3) := by decide +kernel
theorem dX10_init_4 : decode cX10_init 4 = .ok (.aload_n 0, 1) := by decide +kernel
theorem dX10_init_5 : decode cX10_init 5 = .ok (.sipush 4096, 3) := by decide +kernel
theorem dX10_init_8 : decode cX10_init 8 = .ok (.newarray .int, 2) := by decide +kernel
theorem dX10_init_10 : decode cX10_init 10 = .ok (.putfield 9, 3) := by decide +kernel
theorem dX10_init_13 : decode cX10_init 13 = .ok (.aload_n 0, 1) := by decide +kernel
theorem dX10_init_14 : decode cX10_init 14 = .ok (.sipush 4096, 3) := by decide +kernel
theorem dX10_init_17 : decode cX10_init 17 = .ok (.newarray .int, 2) := by decide +kernel
theorem dX10_init_19 : decode cX10_init 19 = .ok (.putfield 15, 3) := by decide +kernel
theorem dX10_init_22 : decode cX10_init 22 = .ok (.aload_n 0, 1) := by decide +kernel
theorem dX10_init_23 : decode cX10_init 23 = .ok (.sipush 4096, 3) := by decide +kernel
theorem dX10_init_26 : decode cX10_init 26 = .ok (.newarray .int, 2) := by decide +kernel
theorem dX10_init_28 : decode cX10_init 28 = .ok (.putfield 18, 3) := by decide +kernel
theorem dX10_init_31 : decode cX10_init 31 = .ok (.aload_n 0, 1) := by decide +kernel
theorem dX10_init_32 : decode cX10_init 32 = .ok (.sipush 4096, 3) := by decide +kernel
theorem dX10_init_35 : decode cX10_init 35 = .ok (.newarray .int, 2) := by decide +kernel
theorem dX10_init_37 : decode cX10_init 37 = .ok (.putfield 21, 3) := by decide +kernel
theorem dX10_init_40 : decode cX10_init 40 = .ok (.aload_n 0, 1) := by decide +kernel
theorem dX10_init_41 : decode cX10_init 41 = .ok (.aload_n 1, 1) := by decide +kernel
theorem dX10_init_42 : decode cX10_init 42 = .ok (.putfield 24, 3) := by decide +kernel
theorem dX10_init_45 : decode cX10_init 45 = .ok (.return_, 1) := by decide +kernel
theorem dX10_forget_0 : decode cX10_forget 0 = .ok (.aload_n 0, 1) := by decide +kernel
theorem dX10_forget_1 : decode cX10_forget 1 = .ok (.iconst 0, 1) := by decide +kernel
theorem dX10_forget_2 : decode cX10_forget 2 = .ok (.putfield 28, 3) := by decide +kernel
theorem dX10_forget_5 : decode cX10_forget 5 = .ok (.return_, 1) := by decide +kernel
theorem dX10_renew_0 : decode cX10_renew 0 = .ok (.aload_n 0, 1) := by decide +kernel
theorem dX10_renew_1 : decode cX10_renew 1 = .ok (.getfield 28, 3) := by decide +kernel
theorem dX10_renew_4 : decode cX10_renew 4 = .ok (.ifCond .eq 4, 3) := by decide +kernel
theorem dX10_renew_7 : decode cX10_renew 7 = .ok (.return_, 1) := by decide +kernel
theorem dX10_renew_8 : decode cX10_renew 8 = .ok (.aload_n 0, 1) := by decide +kernel
theorem dX10_renew_9 : decode cX10_renew 9 = .ok (.getfield 15, 3) := by decide +kernel
theorem dX10_renew_12 : decode cX10_renew 12 = .ok (.iconst (-1), 1) := by decide +kernel
theorem dX10_renew_13 : decode cX10_renew 13 = .ok (.invokestatic 32, 3) := by decide +kernel
theorem dX10_renew_16 : decode cX10_renew 16 = .ok (.aload_n 0, 1) := by decide +kernel
theorem dX10_renew_17 : decode cX10_renew 17 = .ok (.iconst 0, 1) := by decide +kernel
theorem dX10_renew_18 : decode cX10_renew 18 = .ok (.putfield 38, 3) := by decide +kernel
theorem dX10_renew_21 : decode cX10_renew 21 = .ok (.aload_n 0, 1) := by decide +kernel
theorem dX10_renew_22 : decode cX10_renew 22 = .ok (.iconst 0, 1) := by decide +kernel
theorem dX10_renew_23 : decode cX10_renew 23 = .ok (.putfield 42, 3) := by decide +kernel
theorem dX10_renew_26 : decode cX10_renew 26 = .ok (.aload_n 0, 1) := by decide +kernel
theorem dX10_renew_27 : decode cX10_renew 27 = .ok (.aload_n 0, 1) := by decide +kernel
theorem dX10_renew_28 : decode cX10_renew 28 = .ok (.getfield 24, 3) := by decide +kernel
theorem dX10_renew_31 : decode cX10_renew 31 = .ok (.invokevirtual 45, 3) := by decide +kernel
theorem dX10_renew_34 : decode cX10_renew 34 = .ok (.iconst (-1), 1) := by decide +kernel
theorem dX10_renew_35 : decode cX10_renew 35 = .ok (.invokevirtual 51, 3) := by decide +kernel
theorem dX10_renew_38 : decode cX10_renew 38 = .ok (.iconst 0, 1) := by decide +kernel
theorem dX10_renew_39 : decode cX10_renew 39 = .ok (.istore_n 1, 1) := by decide +kernel
theorem dX10_renew_40 : decode cX10_renew 40 = .ok (.iload_n 1, 1) := by decide +kernel
theorem dX10_renew_41 : decode cX10_renew 41 = .ok (.aload_n 0, 1) := by decide +kernel
theorem dX10_renew_42 : decode cX10_renew 42 = .ok (.getfield 38, 3) := by decide +kernel
theorem dX10_renew_45 : decode cX10_renew 45 = .ok (.if_icmp .ge 26, 3) := by decide +kernel
theorem dX10_renew_48 : decode cX10_renew 48 = .ok (.iload_n 1, 1) := by decide +kernel
theorem dX10_renew_49 : decode cX10_renew 49 = .ok (.sipush 4096, 3) := by decide +kernel
theorem dX10_renew_52 : decode cX10_renew 52 = .ok (.if_icmp .ge 19, 3) := by decide +kernel
theorem dX10_renew_55 : decode cX10_renew 55 = .ok (.aload_n 0, 1) := by decide +kernel
theorem dX10_renew_56 : decode cX10_renew 56 = .ok (.aload_n 0, 1) := by decide +kernel
theorem dX10_renew_57 : decode cX10_renew 57 = .ok (.getfield 9, 3) := by decide +kernel
theorem dX10_renew_60 : decode cX10_renew 60 = .ok (.iload_n 1, 1) := by decide +kernel
theorem dX10_renew_61 : decode cX10_renew 61 = .ok (.iaload, 1) := by decide +kernel
theorem dX10_renew_62 : decode cX10_renew 62 = .ok (.invokevirtual 55, 3) := by decide +kernel
theorem dX10_renew_65 : decode cX10_renew 65 = .ok (.iinc 1 1, 3) := by decide +kernel
theorem dX10_renew_68 : decode cX10_renew 68 = .ok (.goto (-28), 3) := by decide +kernel
theorem dX10_renew_71 : decode cX10_renew 71 = .ok (.aload_n 0, 1) := by decide +kernel
theorem dX10_renew_72 : decode cX10_renew 72 = .ok (.iconst 1, 1) := by decide +kernel
theorem dX10_renew_73 : decode cX10_renew 73 = .ok (.putfield 28, 3) := by decide +kernel
theorem dX10_renew_76 : decode cX10_renew 76 = .ok (.return_, 1) := by decide +kernel
theorem dX10_goOnFrom_0 : decode cX10_goOnFrom 0 = .ok (.aload_n 0, 1) := by decide +kernel
theorem dX10_goOnFrom_1 : decode cX10_goOnFrom 1 = .ok (.getfield 24, 3) := by decide +kernel
theorem dX10_goOnFrom_4 : decode cX10_goOnFrom 4 = .ok (.iload_n 1, 1) := by decide +kernel
theorem dX10_goOnFrom_5 : decode cX10_goOnFrom 5 = .ok (.invokevirtual 59, 3) := by decide +kernel
theorem dX10_goOnFrom_8 : decode cX10_goOnFrom 8 = .ok (.istore_n 2, 1) := by decide +kernel
theorem dX10_goOnFrom_9 : decode cX10_goOnFrom 9 = .ok (.iload_n 2, 1) := by decide +kernel
theorem dX10_goOnFrom_10 : decode cX10_goOnFrom 10 = .ok (.ifCond .ne 33, 3) := by decide +kernel
theorem dX10_goOnFrom_13 : decode cX10_goOnFrom 13 = .ok (.aload_n 0, 1) := by decide +kernel
theorem dX10_goOnFrom_14 : decode cX10_goOnFrom 14 = .ok (.getfield 42, 3) := by decide +kernel
theorem dX10_goOnFrom_17 : decode cX10_goOnFrom 17 = .ok (.sipush 4096, 3) := by decide +kernel
theorem dX10_goOnFrom_20 : decode cX10_goOnFrom 20 = .ok (.if_icmp .ge 23, 3) := by decide +kernel
theorem dX10_goOnFrom_23 : decode cX10_goOnFrom 23 = .ok (.aload_n 0, 1) := by decide +kernel
theorem dX10_goOnFrom_24 : decode cX10_goOnFrom 24 = .ok (.getfield 21, 3) := by decide +kernel
theorem dX10_goOnFrom_27 : decode cX10_goOnFrom 27 = .ok (.aload_n 0, 1) := by decide +kernel
theorem dX10_goOnFrom_28 : decode cX10_goOnFrom 28 = .ok (.getfield 42, 3) := by decide +kernel
theorem dX10_goOnFrom_31 : decode cX10_goOnFrom 31 = .ok (.iload_n 1, 1) := by decide +kernel
theorem dX10_goOnFrom_32 : decode cX10_goOnFrom 32 = .ok (.iastore, 1) := by decide +kernel
theorem dX10_goOnFrom_33 : decode cX10_goOnFrom 33 = .ok (.aload_n 0, 1) := by decide +kernel
theorem dX10_goOnFrom_34 : decode cX10_goOnFrom 34 = .ok (.dup, 1) := by decide +kernel
theorem dX10_goOnFrom_35 : decode cX10_goOnFrom 35 = .ok (.getfield 42, 3) := by decide +kernel
theorem dX10_goOnFrom_38 : decode cX10_goOnFrom 38 = .ok (.iconst 1, 1) := by decide +kernel
theorem dX10_goOnFrom_39 : decode cX10_goOnFrom 39 = .ok (.iadd, 1) := by decide +kernel
theorem dX10_goOnFrom_40 : decode cX10_goOnFrom 40 = .ok (.putfield 42, 3) := by decide +kernel
theorem dX10_goOnFrom_43 : decode cX10_goOnFrom 43 = .ok (.iconst 0, 1) := by decide +kernel
theorem dX10_goOnFrom_44 : decode cX10_goOnFrom 44 = .ok (.istore_n 3, 1) := by decide +kernel
theorem dX10_goOnFrom_45 : decode cX10_goOnFrom 45 = .ok (.iload_n 3, 1) := by decide +kernel
theorem dX10_goOnFrom_46 : decode cX10_goOnFrom 46 = .ok (.bipush 12, 2) := by decide +kernel
theorem dX10_goOnFrom_48 : decode cX10_goOnFrom 48 = .ok (.if_icmp .ge 27, 3) := by decide +kernel
theorem dX10_goOnFrom_51 : decode cX10_goOnFrom 51 = .ok (.iload_n 2, 1) := by decide +kernel
theorem dX10_goOnFrom_52 : decode cX10_goOnFrom 52 = .ok (.iload_n 3, 1) := by decide +kernel
theorem dX10_goOnFrom_53 : decode cX10_goOnFrom 53 = .ok (.invokestatic 63, 3) := by decide +kernel
theorem dX10_goOnFrom_56 : decode cX10_goOnFrom 56 = .ok (.ifCond .eq 13, 3) := by decide +kernel
theorem dX10_goOnFrom_59 : decode cX10_goOnFrom 59 = .ok (.aload_n 0, 1) := by decide +kernel
theorem dX10_goOnFrom_60 : decode cX10_goOnFrom 60 = .ok (.iload_n 1, 1) := by decide +kernel
theorem dX10_goOnFrom_61 : decode cX10_goOnFrom 61 = .ok (.iconst 1, 1) := by decide +kernel
theorem dX10_goOnFrom_62 : decode cX10_goOnFrom 62 = .ok (.iload_n 3, 1) := by decide +kernel
theorem dX10_goOnFrom_63 : decode cX10_goOnFrom 63 = .ok (.ishl, 1) := by decide +kernel
theorem dX10_goOnFrom_64 : decode cX10_goOnFrom 64 = .ok (.ixor, 1) := by decide +kernel
theorem dX10_goOnFrom_65 : decode cX10_goOnFrom 65 = .ok (.iload_n 3, 1) := by decide +kernel
theorem dX10_goOnFrom_66 : decode cX10_goOnFrom 66 = .ok (.invokevirtual 51, 3) := by decide +kernel
theorem dX10_goOnFrom_69 : decode cX10_goOnFrom 69 = .ok (.iinc 3 1, 3) := by decide +kernel
theorem dX10_goOnFrom_72 : decode cX10_goOnFrom 72 = .ok (.goto (-27), 3) := by decide +kernel
theorem dX10_goOnFrom_75 : decode cX10_goOnFrom 75 = .ok (.return_, 1) := by decide +kernel
theorem dX10_enter_0 : decode cX10_enter 0 = .ok (.aload_n 0, 1) := by decide +kernel
theorem dX10_enter_1 : decode cX10_enter 1 = .ok (.getfield 15, 3) := by decide +kernel
theorem dX10_enter_4 : decode cX10_enter 4 = .ok (.iload_n 1, 1) := by decide +kernel
theorem dX10_enter_5 : decode cX10_enter 5 = .ok (.iaload, 1) := by decide +kernel
theorem dX10_enter_6 : decode cX10_enter 6 = .ok (.iconst (-1), 1) := by decide +kernel
theorem dX10_enter_7 : decode cX10_enter 7 = .ok (.if_icmp .ne 50, 3) := by decide +kernel
theorem dX10_enter_10 : decode cX10_enter 10 = .ok (.aload_n 0, 1) := by decide +kernel
theorem dX10_enter_11 : decode cX10_enter 11 = .ok (.getfield 38, 3) := by decide +kernel
theorem dX10_enter_14 : decode cX10_enter 14 = .ok (.sipush 4096, 3) := by decide +kernel
theorem dX10_enter_17 : decode cX10_enter 17 = .ok (.if_icmp .ge 40, 3) := by decide +kernel
theorem dX10_enter_20 : decode cX10_enter 20 = .ok (.aload_n 0, 1) := by decide +kernel
theorem dX10_enter_21 : decode cX10_enter 21 = .ok (.getfield 15, 3) := by decide +kernel
theorem dX10_enter_24 : decode cX10_enter 24 = .ok (.iload_n 1, 1) := by decide +kernel
theorem dX10_enter_25 : decode cX10_enter 25 = .ok (.aload_n 0, 1) := by decide +kernel
theorem dX10_enter_26 : decode cX10_enter 26 = .ok (.getfield 38, 3) := by decide +kernel
theorem dX10_enter_29 : decode cX10_enter 29 = .ok (.iastore, 1) := by decide +kernel
theorem dX10_enter_30 : decode cX10_enter 30 = .ok (.aload_n 0, 1) := by decide +kernel
theorem dX10_enter_31 : decode cX10_enter 31 = .ok (.getfield 18, 3) := by decide +kernel
theorem dX10_enter_34 : decode cX10_enter 34 = .ok (.iload_n 1, 1) := by decide +kernel
theorem dX10_enter_35 : decode cX10_enter 35 = .ok (.iload_n 2, 1) := by decide +kernel
theorem dX10_enter_36 : decode cX10_enter 36 = .ok (.iastore, 1) := by decide +kernel
theorem dX10_enter_37 : decode cX10_enter 37 = .ok (.aload_n 0, 1) := by decide +kernel
theorem dX10_enter_38 : decode cX10_enter 38 = .ok (.getfield 9, 3) := by decide +kernel
theorem dX10_enter_41 : decode cX10_enter 41 = .ok (.aload_n 0, 1) := by decide +kernel
theorem dX10_enter_42 : decode cX10_enter 42 = .ok (.getfield 38, 3) := by decide +kernel
theorem dX10_enter_45 : decode cX10_enter 45 = .ok (.iload_n 1, 1) := by decide +kernel
theorem dX10_enter_46 : decode cX10_enter 46 = .ok (.iastore, 1) := by decide +kernel
theorem dX10_enter_47 : decode cX10_enter 47 = .ok (.aload_n 0, 1) := by decide +kernel
theorem dX10_enter_48 : decode cX10_enter 48 = .ok (.dup, 1) := by decide +kernel
theorem dX10_enter_49 : decode cX10_enter 49 = .ok (.getfield 38, 3) := by decide +kernel
theorem dX10_enter_52 : decode cX10_enter 52 = .ok (.iconst 1, 1) := by decide +kernel
theorem dX10_enter_53 : decode cX10_enter 53 = .ok (.iadd, 1) := by decide +kernel
theorem dX10_enter_54 : decode cX10_enter 54 = .ok (.putfield 38, 3) := by decide +kernel
theorem dX10_enter_57 : decode cX10_enter 57 = .ok (.return_, 1) := by decide +kernel
theorem dX10_size_0 : decode cX10_size 0 = .ok (.aload_n 0, 1) := by decide +kernel
theorem dX10_size_1 : decode cX10_size 1 = .ok (.getfield 38, 3) := by decide +kernel
theorem dX10_size_4 : decode cX10_size 4 = .ok (.ireturn, 1) := by decide +kernel
theorem dX10_stops_0 : decode cX10_stops 0 = .ok (.aload_n 0, 1) := by decide +kernel
theorem dX10_stops_1 : decode cX10_stops 1 = .ok (.getfield 42, 3) := by decide +kernel
theorem dX10_stops_4 : decode cX10_stops 4 = .ok (.ireturn, 1) := by decide +kernel
theorem dX10_stateAt_0 : decode cX10_stateAt 0 = .ok (.iload_n 1, 1) := by decide +kernel
theorem dX10_stateAt_1 : decode cX10_stateAt 1 = .ok (.ifCond .lt 20, 3) := by decide +kernel
theorem dX10_stateAt_4 : decode cX10_stateAt 4 = .ok (.iload_n 1, 1) := by decide +kernel
theorem dX10_stateAt_5 : decode cX10_stateAt 5 = .ok (.aload_n 0, 1) := by decide +kernel
theorem dX10_stateAt_6 : decode cX10_stateAt 6 = .ok (.getfield 38, 3) := by decide +kernel
theorem dX10_stateAt_9 : decode cX10_stateAt 9 = .ok (.if_icmp .ge 12, 3) := by decide +kernel
theorem dX10_stateAt_12 : decode cX10_stateAt 12 = .ok (.aload_n 0, 1) := by decide +kernel
theorem dX10_stateAt_13 : decode cX10_stateAt 13 = .ok (.getfield 9, 3) := by decide +kernel
theorem dX10_stateAt_16 : decode cX10_stateAt 16 = .ok (.iload_n 1, 1) := by decide +kernel
theorem dX10_stateAt_17 : decode cX10_stateAt 17 = .ok (.iaload, 1) := by decide +kernel
theorem dX10_stateAt_18 : decode cX10_stateAt 18 = .ok (.goto 4, 3) := by decide +kernel
theorem dX10_stateAt_21 : decode cX10_stateAt 21 = .ok (.iconst (-1), 1) := by decide +kernel
theorem dX10_stateAt_22 : decode cX10_stateAt 22 = .ok (.ireturn, 1) := by decide +kernel
theorem dX10_stopAt_0 : decode cX10_stopAt 0 = .ok (.iload_n 1, 1) := by decide +kernel
theorem dX10_stopAt_1 : decode cX10_stopAt 1 = .ok (.ifCond .lt 20, 3) := by decide +kernel
theorem dX10_stopAt_4 : decode cX10_stopAt 4 = .ok (.iload_n 1, 1) := by decide +kernel
theorem dX10_stopAt_5 : decode cX10_stopAt 5 = .ok (.aload_n 0, 1) := by decide +kernel
theorem dX10_stopAt_6 : decode cX10_stopAt 6 = .ok (.getfield 42, 3) := by decide +kernel
theorem dX10_stopAt_9 : decode cX10_stopAt 9 = .ok (.if_icmp .ge 12, 3) := by decide +kernel
theorem dX10_stopAt_12 : decode cX10_stopAt 12 = .ok (.aload_n 0, 1) := by decide +kernel
theorem dX10_stopAt_13 : decode cX10_stopAt 13 = .ok (.getfield 21, 3) := by decide +kernel
theorem dX10_stopAt_16 : decode cX10_stopAt 16 = .ok (.iload_n 1, 1) := by decide +kernel
theorem dX10_stopAt_17 : decode cX10_stopAt 17 = .ok (.iaload, 1) := by decide +kernel
theorem dX10_stopAt_18 : decode cX10_stopAt 18 = .ok (.goto 4, 3) := by decide +kernel
theorem dX10_stopAt_21 : decode cX10_stopAt 21 = .ok (.iconst (-1), 1) := by decide +kernel
theorem dX10_stopAt_22 : decode cX10_stopAt 22 = .ok (.ireturn, 1) := by decide +kernel
theorem dX10_placeOf_0 : decode cX10_placeOf 0 = .ok (.iload_n 1, 1) := by decide +kernel
theorem dX10_placeOf_1 : decode cX10_placeOf 1 = .ok (.invokestatic 67, 3) := by decide +kernel
theorem dX10_placeOf_4 : decode cX10_placeOf 4 = .ok (.ifCond .eq 12, 3) := by decide +kernel
theorem dX10_placeOf_7 : decode cX10_placeOf 7 = .ok (.aload_n 0, 1) := by decide +kernel
theorem dX10_placeOf_8 : decode cX10_placeOf 8 = .ok (.getfield 15, 3) := by decide +kernel
theorem dX10_placeOf_11 : decode cX10_placeOf 11 = .ok (.iload_n 1, 1) := by decide +kernel
theorem dX10_placeOf_12 : decode cX10_placeOf 12 = .ok (.iaload, 1) := by decide +kernel
theorem dX10_placeOf_13 : decode cX10_placeOf 13 = .ok (.goto 4, 3) := by decide +kernel
theorem dX10_placeOf_16 : decode cX10_placeOf 16 = .ok (.iconst (-1), 1) := by decide +kernel
theorem dX10_placeOf_17 : decode cX10_placeOf 17 = .ok (.ireturn, 1) := by decide +kernel
theorem dX10_wayLength_0 : decode cX10_wayLength 0 = .ok (.aload_n 0, 1) := by decide +kernel
theorem dX10_wayLength_1 : decode cX10_wayLength 1 = .ok (.iload_n 1, 1) := by decide +kernel
theorem dX10_wayLength_2 : decode cX10_wayLength 2 = .ok (.invokevirtual 71, 3) := by decide +kernel
theorem dX10_wayLength_5 : decode cX10_wayLength 5 = .ok (.iconst (-1), 1) := by decide +kernel
theorem dX10_wayLength_6 : decode cX10_wayLength 6 = .ok (.if_icmp .ne 5, 3) := by decide +kernel
theorem dX10_wayLength_9 : decode cX10_wayLength 9 = .ok (.iconst (-1), 1) := by decide +kernel
theorem dX10_wayLength_10 : decode cX10_wayLength 10 = .ok (.ireturn, 1) := by decide +kernel
theorem dX10_wayLength_11 : decode cX10_wayLength 11 = .ok (.iconst 0, 1) := by decide +kernel
theorem dX10_wayLength_12 : decode cX10_wayLength 12 = .ok (.istore_n 2, 1) := by decide +kernel
theorem dX10_wayLength_13 : decode cX10_wayLength 13 = .ok (.iload_n 1, 1) := by decide +kernel
theorem dX10_wayLength_14 : decode cX10_wayLength 14 = .ok (.istore_n 3, 1) := by decide +kernel
theorem dX10_wayLength_15 : decode cX10_wayLength 15 = .ok (.iconst 0, 1) := by decide +kernel
theorem dX10_wayLength_16 : decode cX10_wayLength 16 = .ok (.istore 4, 2) := by decide +kernel
theorem dX10_wayLength_18 : decode cX10_wayLength 18 = .ok (.iload 4, 2) := by decide +kernel
theorem dX10_wayLength_20 : decode cX10_wayLength 20 = .ok (.sipush 4096, 3) := by decide +kernel
theorem dX10_wayLength_23 : decode cX10_wayLength 23 = .ok (.if_icmp .ge 33, 3) := by decide +kernel
theorem dX10_wayLength_26 : decode cX10_wayLength 26 = .ok (.aload_n 0, 1) := by decide +kernel
theorem dX10_wayLength_27 : decode cX10_wayLength 27 = .ok (.getfield 18, 3) := by decide +kernel
theorem dX10_wayLength_30 : decode cX10_wayLength 30 = .ok (.iload_n 3, 1) := by decide +kernel
theorem dX10_wayLength_31 : decode cX10_wayLength 31 = .ok (.iaload, 1) := by decide +kernel
theorem dX10_wayLength_32 : decode cX10_wayLength 32 = .ok (.iconst (-1), 1) := by decide +kernel
theorem dX10_wayLength_33 : decode cX10_wayLength 33 = .ok (.if_icmp .eq 23, 3) := by decide +kernel
theorem dX10_wayLength_36 : decode cX10_wayLength 36 = .ok (.iload_n 3, 1) := by decide +kernel
theorem dX10_wayLength_37 : decode cX10_wayLength 37 = .ok (.iconst 1, 1) := by decide +kernel
theorem dX10_wayLength_38 : decode cX10_wayLength 38 = .ok (.aload_n 0, 1) := by decide +kernel
theorem dX10_wayLength_39 : decode cX10_wayLength 39 = .ok (.getfield 18, 3) := by decide +kernel
theorem dX10_wayLength_42 : decode cX10_wayLength 42 = .ok (.iload_n 3, 1) := by decide +kernel
theorem dX10_wayLength_43 : decode cX10_wayLength 43 = .ok (.iaload, 1) := by decide +kernel
theorem dX10_wayLength_44 : decode cX10_wayLength 44 = .ok (.ishl, 1) := by decide +kernel
theorem dX10_wayLength_45 : decode cX10_wayLength 45 = .ok (.ixor, 1) := by decide +kernel
theorem dX10_wayLength_46 : decode cX10_wayLength 46 = .ok (.istore_n 3, 1) := by decide +kernel
theorem dX10_wayLength_47 : decode cX10_wayLength 47 = .ok (.iinc 2 1, 3) := by decide +kernel
theorem dX10_wayLength_50 : decode cX10_wayLength 50 = .ok (.iinc 4 1, 3) := by decide +kernel
theorem dX10_wayLength_53 : decode cX10_wayLength 53 = .ok (.goto (-35), 3) := by decide +kernel
theorem dX10_wayLength_56 : decode cX10_wayLength 56 = .ok (.iload_n 2, 1) := by decide +kernel
theorem dX10_wayLength_57 : decode cX10_wayLength 57 = .ok (.ireturn, 1) := by decide +kernel
theorem dX10_wayStep_0 : decode cX10_wayStep 0 = .ok (.aload_n 0, 1) := by decide +kernel
theorem dX10_wayStep_1 : decode cX10_wayStep 1 = .ok (.iload_n 1, 1) := by decide +kernel
theorem dX10_wayStep_2 : decode cX10_wayStep 2 = .ok (.invokevirtual 74, 3) := by decide +kernel
theorem dX10_wayStep_5 : decode cX10_wayStep 5 = .ok (.istore_n 3, 1) := by decide +kernel
theorem dX10_wayStep_6 : decode cX10_wayStep 6 = .ok (.iload_n 2, 1) := by decide +kernel
theorem dX10_wayStep_7 : decode cX10_wayStep 7 = .ok (.ifCond .lt 8, 3) := by decide +kernel
theorem dX10_wayStep_10 : decode cX10_wayStep 10 = .ok (.iload_n 2, 1) := by decide +kernel
theorem dX10_wayStep_11 : decode cX10_wayStep 11 = .ok (.iload_n 3, 1) := by decide +kernel
theorem dX10_wayStep_12 : decode cX10_wayStep 12 = .ok (.if_icmp .lt 5, 3) := by decide +kernel
theorem dX10_wayStep_15 : decode cX10_wayStep 15 = .ok (.iconst (-1), 1) := by decide +kernel
theorem dX10_wayStep_16 : decode cX10_wayStep 16 = .ok (.ireturn, 1) := by decide +kernel
theorem dX10_wayStep_17 : decode cX10_wayStep 17 = .ok (.iload_n 1, 1) := by decide +kernel
theorem dX10_wayStep_18 : decode cX10_wayStep 18 = .ok (.istore 4, 2) := by decide +kernel
theorem dX10_wayStep_20 : decode cX10_wayStep 20 = .ok (.iload_n 3, 1) := by decide +kernel
theorem dX10_wayStep_21 : decode cX10_wayStep 21 = .ok (.iconst 1, 1) := by decide +kernel
theorem dX10_wayStep_22 : decode cX10_wayStep 22 = .ok (.isub, 1) := by decide +kernel
theorem dX10_wayStep_23 : decode cX10_wayStep 23 = .ok (.istore 5, 2) := by decide +kernel
theorem dX10_wayStep_25 : decode cX10_wayStep 25 = .ok (.iload 5, 2) := by decide +kernel
theorem dX10_wayStep_27 : decode cX10_wayStep 27 = .ok (.iload_n 2, 1) := by decide +kernel
theorem dX10_wayStep_28 : decode cX10_wayStep 28 = .ok (.if_icmp .le 23, 3) := by decide +kernel
theorem dX10_wayStep_31 : decode cX10_wayStep 31 = .ok (.iload 4, 2) := by decide +kernel
theorem dX10_wayStep_33 : decode cX10_wayStep 33 = .ok (.iconst 1, 1) := by decide +kernel
theorem dX10_wayStep_34 : decode cX10_wayStep 34 = .ok (.aload_n 0, 1) := by decide +kernel
theorem dX10_wayStep_35 : decode cX10_wayStep 35 = .ok (.getfield 18, 3) := by decide +kernel
theorem dX10_wayStep_38 : decode cX10_wayStep 38 = .ok (.iload 4, 2) := by decide +kernel
theorem dX10_wayStep_40 : decode cX10_wayStep 40 = .ok (.iaload, 1) := by decide +kernel
theorem dX10_wayStep_41 : decode cX10_wayStep 41 = .ok (.ishl, 1) := by decide +kernel
theorem dX10_wayStep_42 : decode cX10_wayStep 42 = .ok (.ixor, 1) := by decide +kernel
theorem dX10_wayStep_43 : decode cX10_wayStep 43 = .ok (.istore 4, 2) := by decide +kernel
theorem dX10_wayStep_45 : decode cX10_wayStep 45 = .ok (.iinc 5 (-1), 3) := by decide +kernel
theorem dX10_wayStep_48 : decode cX10_wayStep 48 = .ok (.goto (-23), 3) := by decide +kernel
theorem dX10_wayStep_51 : decode cX10_wayStep 51 = .ok (.aload_n 0, 1) := by decide +kernel
theorem dX10_wayStep_52 : decode cX10_wayStep 52 = .ok (.getfield 18, 3) := by decide +kernel
theorem dX10_wayStep_55 : decode cX10_wayStep 55 = .ok (.iload 4, 2) := by decide +kernel
theorem dX10_wayStep_57 : decode cX10_wayStep 57 = .ok (.iaload, 1) := by decide +kernel
theorem dX10_wayStep_58 : decode cX10_wayStep 58 = .ok (.ireturn, 1) := by decide +kernel
theorem dX10_firstWithAll_0 : decode cX10_firstWithAll 0 = .ok (.iconst 0, 1) := by decide +kernel
theorem dX10_firstWithAll_1 : decode cX10_firstWithAll 1 = .ok (.istore_n 2, 1) := by decide +kernel
theorem dX10_firstWithAll_2 : decode cX10_firstWithAll 2 = .ok (.iload_n 2, 1) := by decide +kernel
theorem dX10_firstWithAll_3 : decode cX10_firstWithAll 3 = .ok (.aload_n 0, 1) := by decide +kernel
theorem dX10_firstWithAll_4 : decode cX10_firstWithAll 4 = .ok (.getfield 38, 3) := by decide +kernel
theorem dX10_firstWithAll_7 : decode cX10_firstWithAll 7 = .ok (.if_icmp .ge 28, 3) := by decide +kernel
theorem dX10_firstWithAll_10 : decode cX10_firstWithAll 10 = .ok (.aload_n 0, 1) := by decide +kernel
theorem dX10_firstWithAll_11 : decode cX10_firstWithAll 11 = .ok (.getfield 9, 3) := by decide +kernel
theorem dX10_firstWithAll_14 : decode cX10_firstWithAll 14 = .ok (.iload_n 2, 1) := by decide +kernel
theorem dX10_firstWithAll_15 : decode cX10_firstWithAll 15 = .ok (.iaload, 1) := by decide +kernel
theorem dX10_firstWithAll_16 : decode cX10_firstWithAll 16 = .ok (.iload_n 1, 1) := by decide +kernel
theorem dX10_firstWithAll_17 : decode cX10_firstWithAll 17 = .ok (.iand, 1) := by decide +kernel
theorem dX10_firstWithAll_18 : decode cX10_firstWithAll 18 = .ok (.iload_n 1, 1) := by decide +kernel
theorem dX10_firstWithAll_19 : decode cX10_firstWithAll 19 = .ok (.if_icmp .ne 10, 3) := by decide +kernel
theorem dX10_firstWithAll_22 : decode cX10_firstWithAll 22 = .ok (.aload_n 0, 1) := by decide +kernel
theorem dX10_firstWithAll_23 : decode cX10_firstWithAll 23 = .ok (.getfield 9, 3) := by decide +kernel
theorem dX10_firstWithAll_26 : decode cX10_firstWithAll 26 = .ok (.iload_n 2, 1) := by decide +kernel
theorem dX10_firstWithAll_27 : decode cX10_firstWithAll 27 = .ok (.iaload, 1) := by decide +kernel
theorem dX10_firstWithAll_28 : decode cX10_firstWithAll 28 = .ok (.ireturn, 1) := by decide +kernel
theorem dX10_firstWithAll_29 : decode cX10_firstWithAll 29 = .ok (.iinc 2 1, 3) := by decide +kernel
theorem dX10_firstWithAll_32 : decode cX10_firstWithAll 32 = .ok (.goto (-30), 3) := by decide +kernel
theorem dX10_firstWithAll_35 : decode cX10_firstWithAll 35 = .ok (.iconst (-1), 1) := by decide +kernel
theorem dX10_firstWithAll_36 : decode cX10_firstWithAll 36 = .ok (.ireturn, 1) := by decide +kernel
theorem dJ6_bitCount_0f7a4_0 : decode cJ6_bitCount_0f7a4 0 = .ok (.iload_n 0, 1) := by decide +kernel
theorem dJ6_bitCount_0f7a4_1 : decode cJ6_bitCount_0f7a4 1 = .ok (.iload_n 0, 1) := by decide +kernel
theorem dJ6_bitCount_0f7a4_2 : decode cJ6_bitCount_0f7a4 2 = .ok (.iconst 1, 1) := by decide +kernel
theorem dJ6_bitCount_0f7a4_3 : decode cJ6_bitCount_0f7a4 3 = .ok (.iushr, 1) := by decide +kernel
theorem dJ6_bitCount_0f7a4_4 : decode cJ6_bitCount_0f7a4 4 = .ok (.ldc_w 265, 3) := by decide +kernel
theorem dJ6_bitCount_0f7a4_7 : decode cJ6_bitCount_0f7a4 7 = .ok (.iand, 1) := by decide +kernel
theorem dJ6_bitCount_0f7a4_8 : decode cJ6_bitCount_0f7a4 8 = .ok (.isub, 1) := by decide +kernel
theorem dJ6_bitCount_0f7a4_9 : decode cJ6_bitCount_0f7a4 9 = .ok (.istore_n 0, 1) := by decide +kernel
theorem dJ6_bitCount_0f7a4_10 : decode cJ6_bitCount_0f7a4 10 = .ok (.iload_n 0, 1) := by decide +kernel
theorem dJ6_bitCount_0f7a4_11 : decode cJ6_bitCount_0f7a4 11 = .ok (.ldc_w 266, 3) := by decide +kernel
theorem dJ6_bitCount_0f7a4_14 : decode cJ6_bitCount_0f7a4 14 = .ok (.iand, 1) := by decide +kernel
theorem dJ6_bitCount_0f7a4_15 : decode cJ6_bitCount_0f7a4 15 = .ok (.iload_n 0, 1) := by decide +kernel
theorem dJ6_bitCount_0f7a4_16 : decode cJ6_bitCount_0f7a4 16 = .ok (.iconst 2, 1) := by decide +kernel
theorem dJ6_bitCount_0f7a4_17 : decode cJ6_bitCount_0f7a4 17 = .ok (.iushr, 1) := by decide +kernel
theorem dJ6_bitCount_0f7a4_18 : decode cJ6_bitCount_0f7a4 18 = .ok (.ldc_w 266, 3) := by decide +kernel
theorem dJ6_bitCount_0f7a4_21 : decode cJ6_bitCount_0f7a4 21 = .ok (.iand, 1) := by decide +kernel
theorem dJ6_bitCount_0f7a4_22 : decode cJ6_bitCount_0f7a4 22 = .ok (.iadd, 1) := by decide +kernel
theorem dJ6_bitCount_0f7a4_23 : decode cJ6_bitCount_0f7a4 23 = .ok (.istore_n 0, 1) := by decide +kernel
theorem dJ6_bitCount_0f7a4_24 : decode cJ6_bitCount_0f7a4 24 = .ok (.iload_n 0, 1) := by decide +kernel
theorem dJ6_bitCount_0f7a4_25 : decode cJ6_bitCount_0f7a4 25 = .ok (.iload_n 0, 1) := by decide +kernel
theorem dJ6_bitCount_0f7a4_26 : decode cJ6_bitCount_0f7a4 26 = .ok (.iconst 4, 1) := by decide +kernel
theorem dJ6_bitCount_0f7a4_27 : decode cJ6_bitCount_0f7a4 27 = .ok (.iushr, 1) := by decide +kernel
theorem dJ6_bitCount_0f7a4_28 : decode cJ6_bitCount_0f7a4 28 = .ok (.iadd, 1) := by decide +kernel
theorem dJ6_bitCount_0f7a4_29 : decode cJ6_bitCount_0f7a4 29 = .ok (.ldc_w 267, 3) := by decide +kernel
theorem dJ6_bitCount_0f7a4_32 : decode cJ6_bitCount_0f7a4 32 = .ok (.iand, 1) := by decide +kernel
theorem dJ6_bitCount_0f7a4_33 : decode cJ6_bitCount_0f7a4 33 = .ok (.istore_n 0, 1) := by decide +kernel
theorem dJ6_bitCount_0f7a4_34 : decode cJ6_bitCount_0f7a4 34 = .ok (.iload_n 0, 1) := by decide +kernel
theorem dJ6_bitCount_0f7a4_35 : decode cJ6_bitCount_0f7a4 35 = .ok (.iload_n 0, 1) := by decide +kernel
theorem dJ6_bitCount_0f7a4_36 : decode cJ6_bitCount_0f7a4 36 = .ok (.bipush 8, 2) := by decide +kernel
theorem dJ6_bitCount_0f7a4_38 : decode cJ6_bitCount_0f7a4 38 = .ok (.iushr, 1) := by decide +kernel
theorem dJ6_bitCount_0f7a4_39 : decode cJ6_bitCount_0f7a4 39 = .ok (.iadd, 1) := by decide +kernel
theorem dJ6_bitCount_0f7a4_40 : decode cJ6_bitCount_0f7a4 40 = .ok (.istore_n 0, 1) := by decide +kernel
theorem dJ6_bitCount_0f7a4_41 : decode cJ6_bitCount_0f7a4 41 = .ok (.iload_n 0, 1) := by decide +kernel
theorem dJ6_bitCount_0f7a4_42 : decode cJ6_bitCount_0f7a4 42 = .ok (.iload_n 0, 1) := by decide +kernel
theorem dJ6_bitCount_0f7a4_43 : decode cJ6_bitCount_0f7a4 43 = .ok (.bipush 16, 2) := by decide +kernel
theorem dJ6_bitCount_0f7a4_45 : decode cJ6_bitCount_0f7a4 45 = .ok (.iushr, 1) := by decide +kernel
theorem dJ6_bitCount_0f7a4_46 : decode cJ6_bitCount_0f7a4 46 = .ok (.iadd, 1) := by decide +kernel
theorem dJ6_bitCount_0f7a4_47 : decode cJ6_bitCount_0f7a4 47 = .ok (.istore_n 0, 1) := by decide +kernel
theorem dJ6_bitCount_0f7a4_48 : decode cJ6_bitCount_0f7a4 48 = .ok (.iload_n 0, 1) := by decide +kernel
theorem dJ6_bitCount_0f7a4_49 : decode cJ6_bitCount_0f7a4 49 = .ok (.bipush 63, 2) := by decide +kernel
theorem dJ6_bitCount_0f7a4_51 : decode cJ6_bitCount_0f7a4 51 = .ok (.iand, 1) := by decide +kernel
theorem dJ6_bitCount_0f7a4_52 : decode cJ6_bitCount_0f7a4 52 = .ok (.ireturn, 1) := by decide +kernel
theorem dJ9_max_7cf53_0 : decode cJ9_max_7cf53 0 = .ok (.iload_n 0, 1) := by decide +kernel
theorem dJ9_max_7cf53_1 : decode cJ9_max_7cf53 1 = .ok (.iload_n 1, 1) := by decide +kernel
theorem dJ9_max_7cf53_2 : decode cJ9_max_7cf53 2 = .ok (.if_icmp .lt 7, 3) := by decide +kernel
theorem dJ9_max_7cf53_5 : decode cJ9_max_7cf53 5 = .ok (.iload_n 0, 1) := by decide +kernel
theorem dJ9_max_7cf53_6 : decode cJ9_max_7cf53 6 = .ok (.goto 4, 3) := by decide +kernel
theorem dJ9_max_7cf53_9 : decode cJ9_max_7cf53 9 = .ok (.iload_n 1, 1) := by decide +kernel
theorem dJ9_max_7cf53_10 : decode cJ9_max_7cf53 10 = .ok (.ireturn, 1) := by decide +kernel
theorem dJ7_fill_53178_0 : decode cJ7_fill_53178 0 = .ok (.iconst 0, 1) := by decide +kernel
theorem dJ7_fill_53178_1 : decode cJ7_fill_53178 1 = .ok (.istore_n 2, 1) := by decide +kernel
theorem dJ7_fill_53178_2 : decode cJ7_fill_53178 2 = .ok (.aload_n 0, 1) := by decide +kernel
theorem dJ7_fill_53178_3 : decode cJ7_fill_53178 3 = .ok (.arraylength, 1) := by decide +kernel
theorem dJ7_fill_53178_4 : decode cJ7_fill_53178 4 = .ok (.istore_n 3, 1) := by decide +kernel
theorem dJ7_fill_53178_5 : decode cJ7_fill_53178 5 = .ok (.iload_n 2, 1) := by decide +kernel
theorem dJ7_fill_53178_6 : decode cJ7_fill_53178 6 = .ok (.iload_n 3, 1) := by decide +kernel
theorem dJ7_fill_53178_7 : decode cJ7_fill_53178 7 = .ok (.if_icmp .ge 13, 3) := by decide +kernel
theorem dJ7_fill_53178_10 : decode cJ7_fill_53178 10 = .ok (.aload_n 0, 1) := by decide +kernel
theorem dJ7_fill_53178_11 : decode cJ7_fill_53178 11 = .ok (.iload_n 2, 1) := by decide +kernel
theorem dJ7_fill_53178_12 : decode cJ7_fill_53178 12 = .ok (.iload_n 1, 1) := by decide +kernel
theorem dJ7_fill_53178_13 : decode cJ7_fill_53178 13 = .ok (.iastore, 1) := by decide +kernel
theorem dJ7_fill_53178_14 : decode cJ7_fill_53178 14 = .ok (.iinc 2 1, 3) := by decide +kernel
theorem dJ7_fill_53178_17 : decode cJ7_fill_53178 17 = .ok (.goto (-12), 3) := by decide +kernel
theorem dJ7_fill_53178_20 : decode cJ7_fill_53178 20 = .ok (.return_, 1) := by decide +kernel
end
section
theorem dX11_init_0 : decode cX11_init 0 = .ok (.aload_n 0, 1) := by decide +kernel
theorem dX11_init_1 : decode cX11_init 1 = .ok (.invokespecial 3, 3) := by decide +kernel
theorem dX11_init_4 : decode cX11_init 4 = .ok (.aload_n 0, 1) := by decide +kernel
theorem dX11_init_5 : decode cX11_init 5 = .ok (.new 9, 3) := by decide +kernel
theorem dX11_init_8 : decode cX11_init 8 = .ok (.dup, 1) := by decide +kernel
theorem dX11_init_9 : decode cX11_init 9 = .ok (.invokespecial 11, 3) := by decide +kernel
theorem dX11_init_12 : decode cX11_init 12 = .ok (.putfield 12, 3) := by decide +kernel
theorem dX11_init_15 : decode cX11_init 15 = .ok (.aload_n 0, 1) := by decide +kernel
theorem dX11_init_16 : decode cX11_init 16 = .ok (.new 16, 3) := by decide +kernel
theorem dX11_init_19 : decode cX11_init 19 = .ok (.dup, 1) := by decide +kernel
theorem dX11_init_20 : decode cX11_init 20 = .ok (.aload_n 0, 1) := by decide +kernel
theorem dX11_init_21 : decode cX11_init 21 = .ok (.getfield 12, 3) := by decide +kernel
theorem dX11_init_24 : decode cX11_init 24 = .ok (.invokespecial 18, 3) := by decide +kernel
theorem dX11_init_27 : decode cX11_init 27 = .ok (.putfield 21, 3) := by decide +kernel
theorem dX11_init_30 : decode cX11_init 30 = .ok (.aload_n 0, 1) := by decide +kernel
theorem dX11_init_31 : decode cX11_init 31 = .ok (.new 25, 3) := by decide +kernel
theorem dX11_init_34 : decode cX11_init 34 = .ok (.dup, 1) := by decide +kernel
theorem dX11_init_35 : decode cX11_init 35 = .ok (.invokespecial 27, 3) := by decide +kernel
theorem dX11_init_38 : decode cX11_init 38 = .ok (.putfield 28, 3) := by decide +kernel
theorem dX11_init_41 : decode cX11_init 41 = .ok (.aload_n 0, 1) := by decide +kernel
theorem dX11_init_42 : decode cX11_init 42 = .ok (.new 32, 3) := by decide +kernel
theorem dX11_init_45 : decode cX11_init 45 = .ok (.dup, 1) := by decide +kernel
theorem dX11_init_46 : decode cX11_init 46 = .ok (.aload_n 0, 1) := by decide +kernel
theorem dX11_init_47 : decode cX11_init 47 = .ok (.getfield 28, 3) := by decide +kernel
theorem dX11_init_50 : decode cX11_init 50 = .ok (.invokespecial 34, 3) := by decide +kernel
theorem dX11_init_53 : decode cX11_init 53 = .ok (.putfield 37, 3) := by decide +kernel
theorem dX11_init_56 : decode cX11_init 56 = .ok (.aload_n 0, 1) := by decide +kernel
theorem dX11_init_57 : decode cX11_init 57 = .ok (.new 41, 3) := by decide +kernel
theorem dX11_init_60 : decode cX11_init 60 = .ok (.dup, 1) := by decide +kernel
theorem dX11_init_61 : decode cX11_init 61 = .ok (.aload_n 0, 1) := by decide +kernel
theorem dX11_init_62 : decode cX11_init 62 = .ok (.getfield 28, 3) := by decide +kernel
theorem dX11_init_65 : decode cX11_init 65 = .ok (.aload_n 0, 1) := by decide +kernel
theorem dX11_init_66 : decode cX11_init 66 = .ok (.getfield 37, 3) := by decide +kernel
theorem dX11_init_69 : decode cX11_init 69 = .ok (.invokespecial 43, 3) := by decide +kernel
theorem dX11_init_72 : decode cX11_init 72 = .ok (.putfield 46, 3) := by decide +kernel
theorem dX11_init_75 : decode cX11_init 75 = .ok (.aload_n 0, 1) := by decide +kernel
theorem dX11_init_76 : decode cX11_init 76 = .ok (.new 50, 3) := by decide +kernel
theorem dX11_init_79 : decode cX11_init 79 = .ok (.dup, 1) := by decide +kernel
theorem dX11_init_80 : decode cX11_init 80 = .ok (.aload_n 0, 1) := by decide +kernel
theorem dX11_init_81 : decode cX11_init 81 = .ok (.getfield 28, 3) := by decide +kernel
theorem dX11_init_84 : decode cX11_init 84 = .ok (.aload_n 0, 1) := by decide +kernel
theorem dX11_init_85 : decode cX11_init 85 = .ok (.getfield 37, 3) := by decide +kernel
theorem dX11_init_88 : decode cX11_init 88 = .ok (.invokespecial 52, 3) := by decide +kernel
theorem dX11_init_91 : decode cX11_init 91 = .ok (.putfield 53, 3) := by decide +kernel
theorem dX11_init_94 : decode cX11_init 94 = .ok (.aload_n 0, 1) := by decide +kernel
theorem dX11_init_95 : decode cX11_init 95 = .ok (.bipush 12, 2) := by decide +kernel
theorem dX11_init_97 : decode cX11_init 97 = .ok (.newarray .int, 2) := by decide +kernel
theorem dX11_init_99 : decode cX11_init 99 = .ok (.putfield 57, 3) := by decide +kernel
theorem dX11_init_102 : decode cX11_init 102 = .ok (.aload_n 0, 1) := by decide +kernel
theorem dX11_init_103 : decode cX11_init 103 = .ok (.new 61, 3) := by decide +kernel
theorem dX11_init_106 : decode cX11_init 106 = .ok (.dup, 1) := by decide +kernel
theorem dX11_init_107 : decode cX11_init 107 = .ok (.invokespecial 63, 3) := by decide +kernel
theorem dX11_init_110 : decode cX11_init 110 = .ok (.putfield 64, 3) := by decide +kernel
theorem dX11_init_113 : decode cX11_init 113 = .ok (.aload_n 0, 1) := by decide +kernel
theorem dX11_init_114 : decode cX11_init 114 = .ok (.new 68, 3) := by decide +kernel
theorem dX11_init_117 : decode cX11_init 117 = .ok (.dup, 1) := by decide +kernel
theorem dX11_init_118 : decode cX11_init 118 = .ok (.aload_n 0, 1) := by decide +kernel
theorem dX11_init_119 : decode cX11_init 119 = .ok (.getfield 64, 3) := by decide +kernel
theorem dX11_init_122 : decode cX11_init 122 = .ok (.invokespecial 70, 3) := by decide +kernel
theorem dX11_init_125 : decode cX11_init 125 = .ok (.putfield 73, 3) := by decide +kernel
theorem dX11_init_128 : decode cX11_init 128 = .ok (.aload_n 0, 1) := by decide +kernel
theorem dX11_init_129 : decode cX11_init 129 = .ok (.new 77, 3) := by decide +kernel
theorem dX11_init_132 : decode cX11_init 132 = .ok (.dup, 1) := by decide +kernel
theorem dX11_init_133 : decode cX11_init 133 = .ok (.aload_n 0, 1) := by decide +kernel
theorem dX11_init_134 : decode cX11_init 134 = .ok (.getfield 64, 3) := by decide +kernel
theorem dX11_init_137 : decode cX11_init 137 = .ok (.invokespecial 79, 3) := by decide +kernel
theorem dX11_init_140 : decode cX11_init 140 = .ok (.putfield 80, 3) := by decide +kernel
theorem dX11_init_143 : decode cX11_init 143 = .ok (.aload_n 0, 1) := by decide +kernel
theorem dX11_init_144 : decode cX11_init 144 = .ok (.new 84, 3) := by decide +kernel
theorem dX11_init_147 : decode cX11_init 147 = .ok (.dup, 1) := by decide +kernel
theorem dX11_init_148 : decode cX11_init 148 = .ok (.invokespecial 86, 3) := by decide +kernel
theorem dX11_init_151 : decode cX11_init 151 = .ok (.putfield 87, 3) := by decide +kernel
theorem dX11_init_154 : decode cX11_init 154 = .ok (.return_, 1) := by decide +kernel
theorem dX11_feed_0 : decode cX11_feed 0 = .ok (.iload_n 1, 1) := by decide +kernel
theorem dX11_feed_1 : decode cX11_feed 1 = .ok (.invokestatic 91, 3) := by decide +kernel
theorem dX11_feed_4 : decode cX11_feed 4 = .ok (.iload_n 2, 1) := by decide +kernel
theorem dX11_feed_5 : decode cX11_feed 5 = .ok (.invokestatic 91, 3) := by decide +kernel
theorem dX11_feed_8 : decode cX11_feed 8 = .ok (.iadd, 1) := by decide +kernel
theorem dX11_feed_9 : decode cX11_feed 9 = .ok (.iload_n 3, 1) := by decide +kernel
theorem dX11_feed_10 : decode cX11_feed 10 = .ok (.invokestatic 91, 3) := by decide +kernel
theorem dX11_feed_13 : decode cX11_feed 13 = .ok (.iadd, 1) := by decide +kernel
theorem dX11_feed_14 : decode cX11_feed 14 = .ok (.iload 4, 2) := by decide +kernel
theorem dX11_feed_16 : decode cX11_feed 16 = .ok (.invokestatic 91, 3) := by decide +kernel
theorem dX11_feed_19 : decode cX11_feed 19 = .ok (.iadd, 1) := by decide +kernel
theorem dX11_feed_20 : decode cX11_feed 20 = .ok (.iload 5, 2) := by decide +kernel
theorem dX11_feed_22 : decode cX11_feed 22 = .ok (.invokestatic 91, 3) := by decide +kernel
theorem dX11_feed_25 : decode cX11_feed 25 = .ok (.iadd, 1) := by decide +kernel
theorem dX11_feed_26 : decode cX11_feed 26 = .ok (.istore 6, 2) := by decide +kernel
theorem dX11_feed_28 : decode cX11_feed 28 = .ok (.aload_n 0, 1) := by decide +kernel
theorem dX11_feed_29 : decode cX11_feed 29 = .ok (.getfield 12, 3) := by decide +kernel
theorem dX11_feed_32 : decode cX11_feed 32 = .ok (.invokevirtual 95, 3) := by decide +kernel
theorem dX11_feed_35 : decode cX11_feed 35 = .ok (.iload 6, 2) := by decide +kernel
theorem dX11_feed_37 : decode cX11_feed 37 = .ok (.iadd, 1) := by decide +kernel
theorem dX11_feed_38 : decode cX11_feed 38 = .ok (.sipush 300, 3) := by decide +kernel
theorem dX11_feed_41 : decode cX11_feed 41 = .ok (.if_icmp .le 5, 3) := by decide +kernel
theorem dX11_feed_44 : decode cX11_feed 44 = .ok (.iconst (-1), 1) := by decide +kernel
theorem dX11_feed_45 : decode cX11_feed 45 = .ok (.ireturn, 1) := by decide +kernel
theorem dX11_feed_46 : decode cX11_feed 46 = .ok (.aload_n 0, 1) := by decide +kernel
theorem dX11_feed_47 : decode cX11_feed 47 = .ok (.getfield 12, 3) := by decide +kernel
theorem dX11_feed_50 : decode cX11_feed 50 = .ok (.iload_n 1, 1) := by decide +kernel
theorem dX11_feed_51 : decode cX11_feed 51 = .ok (.invokevirtual 99, 3) := by decide +kernel
theorem dX11_feed_54 : decode cX11_feed 54 = .ok (.aload_n 0, 1) := by decide +kernel
theorem dX11_feed_55 : decode cX11_feed 55 = .ok (.getfield 12, 3) := by decide +kernel
theorem dX11_feed_58 : decode cX11_feed 58 = .ok (.iload_n 2, 1) := by decide +kernel
theorem dX11_feed_59 : decode cX11_feed 59 = .ok (.invokevirtual 99, 3) := by decide +kernel
theorem dX11_feed_62 : decode cX11_feed 62 = .ok (.aload_n 0, 1) := by decide +kernel
theorem dX11_feed_63 : decode cX11_feed 63 = .ok (.getfield 12, 3) := by decide +kernel
theorem dX11_feed_66 : decode cX11_feed 66 = .ok (.iload_n 3, 1) := by decide +kernel
theorem dX11_feed_67 : decode cX11_feed 67 = .ok (.invokevirtual 99, 3) := by decide +kernel
theorem dX11_feed_70 : decode cX11_feed 70 = .ok (.aload_n 0, 1) := by decide +kernel
theorem dX11_feed_71 : decode cX11_feed 71 = .ok (.getfield 12, 3) := by decide +kernel
theorem dX11_feed_74 : decode cX11_feed 74 = .ok (.iload 4, 2) := by decide +kernel
theorem dX11_feed_76 : decode cX11_feed 76 = .ok (.invokevirtual 99, 3) := by decide +kernel
theorem dX11_feed_79 : decode cX11_feed 79 = .ok (.aload_n 0, 1) := by decide +kernel
theorem dX11_feed_80 : decode cX11_feed 80 = .ok (.getfield 12, 3) := by decide +kernel
theorem dX11_feed_83 : decode cX11_feed 83 = .ok (.iload 5, 2) := by decide +kernel
theorem dX11_feed_85 : decode cX11_feed 85 = .ok (.invokevirtual 99, 3) := by decide +kernel
theorem dX11_feed_88 : decode cX11_feed 88 = .ok (.aload_n 0, 1) := by decide +kernel
theorem dX11_feed_89 : decode cX11_feed 89 = .ok (.getfield 12, 3) := by decide +kernel
theorem dX11_feed_92 : decode cX11_feed 92 = .ok (.invokevirtual 95, 3) := by decide +kernel
theorem dX11_feed_95 : decode cX11_feed 95 = .ok (.ireturn, 1) := by decide +kernel
theorem dX11_end_0 : decode cX11_end 0 = .ok (.iload_n 1, 1) := by decide +kernel
theorem dX11_end_1 : decode cX11_end 1 = .ok (.ifCond .lt 14, 3) := by decide +kernel
theorem dX11_end_4 : decode cX11_end 4 = .ok (.iload_n 1, 1) := by decide +kernel
theorem dX11_end_5 : decode cX11_end 5 = .ok (.aload_n 0, 1) := by decide +kernel
theorem dX11_end_6 : decode cX11_end 6 = .ok (.getfield 12, 3) := by decide +kernel
theorem dX11_end_9 : decode cX11_end 9 = .ok (.invokevirtual 95, 3) := by decide +kernel
theorem dX11_end_12 : decode cX11_end 12 = .ok (.if_icmp .le 5, 3) := by decide +kernel
theorem dX11_end_15 : decode cX11_end 15 = .ok (.iconst 0, 1) := by decide +kernel
theorem dX11_end_16 : decode cX11_end 16 = .ok (.ireturn, 1) := by decide +kernel
theorem dX11_end_17 : decode cX11_end 17 = .ok (.aload_n 0, 1) := by decide +kernel
theorem dX11_end_18 : decode cX11_end 18 = .ok (.getfield 12, 3) := by decide +kernel
theorem dX11_end_21 : decode cX11_end 21 = .ok (.iload_n 1, 1) := by decide +kernel
theorem dX11_end_22 : decode cX11_end 22 = .ok (.invokevirtual 103, 3) := by decide +kernel
theorem dX11_end_25 : decode cX11_end 25 = .ok (.iconst 1, 1) := by decide +kernel
theorem dX11_end_26 : decode cX11_end 26 = .ok (.ireturn, 1) := by decide +kernel
theorem dX11_fault_0 : decode cX11_fault 0 = .ok (.aload_n 0, 1) := by decide +kernel
theorem dX11_fault_1 : decode cX11_fault 1 = .ok (.getfield 21, 3) := by decide +kernel
theorem dX11_fault_4 : decode cX11_fault 4 = .ok (.aload_n 0, 1) := by decide +kernel
theorem dX11_fault_5 : decode cX11_fault 5 = .ok (.getfield 87, 3) := by decide +kernel
theorem dX11_fault_8 : decode cX11_fault 8 = .ok (.invokevirtual 106, 3) := by decide +kernel
theorem dX11_fault_11 : decode cX11_fault 11 = .ok (.ireturn, 1) := by decide +kernel
theorem dX11_circuit_0 : decode cX11_circuit 0 = .ok (.iload_n 1, 1) := by decide +kernel
theorem dX11_circuit_1 : decode cX11_circuit 1 = .ok (.invokestatic 110, 3) := by decide +kernel
theorem dX11_circuit_4 : decode cX11_circuit 4 = .ok (.ifCond .eq 18, 3) := by decide +kernel
theorem dX11_circuit_7 : decode cX11_circuit 7 = .ok (.aload_n 0, 1) := by decide +kernel
theorem dX11_circuit_8 : decode cX11_circuit 8 = .ok (.getfield 21, 3) := by decide +kernel
theorem dX11_circuit_11 : decode cX11_circuit 11 = .ok (.aload_n 0, 1) := by decide +kernel
theorem dX11_circuit_12 : decode cX11_circuit 12 = .ok (.getfield 87, 3) := by decide +kernel
theorem dX11_circuit_15 : decode cX11_circuit 15 = .ok (.invokevirtual 106, 3) := by decide +kernel
theorem dX11_circuit_18 : decode cX11_circuit 18 = .ok (.iconst (-1), 1) := by decide +kernel
theorem dX11_circuit_19 : decode cX11_circuit 19 = .ok (.if_icmp .eq 5, 3) := by decide +kernel
theorem dX11_circuit_22 : decode cX11_circuit 22 = .ok (.iconst 0, 1) := by decide +kernel
theorem dX11_circuit_23 : decode cX11_circuit 23 = .ok (.ireturn, 1) := by decide +kernel
theorem dX11_circuit_24 : decode cX11_circuit 24 = .ok (.aload_n 0, 1) := by decide +kernel
theorem dX11_circuit_25 : decode cX11_circuit 25 = .ok (.aload_n 0, 1) := by decide +kernel
theorem dX11_circuit_26 : decode cX11_circuit 26 = .ok (.getfield 28, 3) := by decide +kernel
theorem dX11_circuit_29 : decode cX11_circuit 29 = .ok (.aload_n 0, 1) := by decide +kernel
theorem dX11_circuit_30 : decode cX11_circuit 30 = .ok (.getfield 87, 3) := by decide +kernel
theorem dX11_circuit_33 : decode cX11_circuit 33 = .ok (.iload_n 1, 1) := by decide +kernel
theorem dX11_circuit_34 : decode cX11_circuit 34 = .ok (.invokevirtual 114, 3) := by decide +kernel
theorem dX11_circuit_37 : decode cX11_circuit 37 = .ok (.putfield 87, 3) := by decide +kernel
theorem dX11_circuit_40 : decode cX11_circuit 40 = .ok (.aload_n 0, 1) := by decide +kernel
theorem dX11_circuit_41 : decode cX11_circuit 41 = .ok (.getfield 12, 3) := by decide +kernel
theorem dX11_circuit_44 : decode cX11_circuit 44 = .ok (.iconst 0, 1) := by decide +kernel
theorem dX11_circuit_45 : decode cX11_circuit 45 = .ok (.invokevirtual 103, 3) := by decide +kernel
theorem dX11_circuit_48 : decode cX11_circuit 48 = .ok (.aload_n 0, 1) := by decide +kernel
theorem dX11_circuit_49 : decode cX11_circuit 49 = .ok (.invokevirtual 118, 3) := by decide +kernel
theorem dX11_circuit_52 : decode cX11_circuit 52 = .ok (.iconst 1, 1) := by decide +kernel
theorem dX11_circuit_53 : decode cX11_circuit 53 = .ok (.ireturn, 1) := by decide +kernel
theorem dX11_arbiter_0 : decode cX11_arbiter 0 = .ok (.iload_n 1, 1) := by decide +kernel
theorem dX11_arbiter_1 : decode cX11_arbiter 1 = .ok (.invokestatic 121, 3) := by decide +kernel
theorem dX11_arbiter_4 : decode cX11_arbiter 4 = .ok (.ifCond .eq 28, 3) := by decide +kernel
theorem dX11_arbiter_7 : decode cX11_arbiter 7 = .ok (.iload_n 2, 1) := by decide +kernel
theorem dX11_arbiter_8 : decode cX11_arbiter 8 = .ok (.invokestatic 121, 3) := by decide +kernel
theorem dX11_arbiter_11 : decode cX11_arbiter 11 = .ok (.ifCond .eq 21, 3) := by decide +kernel
theorem dX11_arbiter_14 : decode cX11_arbiter 14 = .ok (.iload_n 1, 1) := by decide +kernel
theorem dX11_arbiter_15 : decode cX11_arbiter 15 = .ok (.iload_n 2, 1) := by decide +kernel
theorem dX11_arbiter_16 : decode cX11_arbiter 16 = .ok (.if_icmp .eq 16, 3) := by decide +kernel
theorem dX11_arbiter_19 : decode cX11_arbiter 19 = .ok (.aload_n 0, 1) := by decide +kernel
theorem dX11_arbiter_20 : decode cX11_arbiter 20 = .ok (.getfield 28, 3) := by decide +kernel
theorem dX11_arbiter_23 : decode cX11_arbiter 23 = .ok (.iload_n 1, 1) := by decide +kernel
theorem dX11_arbiter_24 : decode cX11_arbiter 24 = .ok (.iload_n 2, 1) := by decide +kernel
theorem dX11_arbiter_25 : decode cX11_arbiter 25 = .ok (.invokevirtual 124, 3) := by decide +kernel
theorem dX11_arbiter_28 : decode cX11_arbiter 28 = .ok (.iload_n 3, 1) := by decide +kernel
theorem dX11_arbiter_29 : decode cX11_arbiter 29 = .ok (.if_icmp .ne 5, 3) := by decide +kernel
theorem dX11_arbiter_32 : decode cX11_arbiter 32 = .ok (.iconst 0, 1) := by decide +kernel
theorem dX11_arbiter_33 : decode cX11_arbiter 33 = .ok (.ireturn, 1) := by decide +kernel
theorem dX11_arbiter_34 : decode cX11_arbiter 34 = .ok (.aload_n 0, 1) := by decide +kernel
theorem dX11_arbiter_35 : decode cX11_arbiter 35 = .ok (.getfield 28, 3) := by decide +kernel
theorem dX11_arbiter_38 : decode cX11_arbiter 38 = .ok (.iload_n 1, 1) := by decide +kernel
theorem dX11_arbiter_39 : decode cX11_arbiter 39 = .ok (.iload_n 2, 1) := by decide +kernel
theorem dX11_arbiter_40 : decode cX11_arbiter 40 = .ok (.invokevirtual 128, 3) := by decide +kernel
theorem dX11_arbiter_43 : decode cX11_arbiter 43 = .ok (.aload_n 0, 1) := by decide +kernel
theorem dX11_arbiter_44 : decode cX11_arbiter 44 = .ok (.getfield 46, 3) := by decide +kernel
theorem dX11_arbiter_47 : decode cX11_arbiter 47 = .ok (.invokevirtual 132, 3) := by decide +kernel
theorem dX11_arbiter_50 : decode cX11_arbiter 50 = .ok (.iconst 1, 1) := by decide +kernel
theorem dX11_arbiter_51 : decode cX11_arbiter 51 = .ok (.ireturn, 1) := by decide +kernel
theorem dX11_stuck_0 : decode cX11_stuck 0 = .ok (.iload_n 1, 1) := by decide +kernel
theorem dX11_stuck_1 : decode cX11_stuck 1 = .ok (.invokestatic 121, 3) := by decide +kernel
theorem dX11_stuck_4 : decode cX11_stuck 4 = .ok (.ifCond .eq 15, 3) := by decide +kernel
theorem dX11_stuck_7 : decode cX11_stuck 7 = .ok (.aload_n 0, 1) := by decide +kernel
theorem dX11_stuck_8 : decode cX11_stuck 8 = .ok (.getfield 28, 3) := by decide +kernel
theorem dX11_stuck_11 : decode cX11_stuck 11 = .ok (.iload_n 1, 1) := by decide +kernel
theorem dX11_stuck_12 : decode cX11_stuck 12 = .ok (.invokevirtual 135, 3) := by decide +kernel
theorem dX11_stuck_15 : decode cX11_stuck 15 = .ok (.iload_n 2, 1) := by decide +kernel
theorem dX11_stuck_16 : decode cX11_stuck 16 = .ok (.if_icmp .ne 5, 3) := by decide +kernel
theorem dX11_stuck_19 : decode cX11_stuck 19 = .ok (.iconst 0, 1) := by decide +kernel
theorem dX11_stuck_20 : decode cX11_stuck 20 = .ok (.ireturn, 1) := by decide +kernel
theorem dX11_stuck_21 : decode cX11_stuck 21 = .ok (.aload_n 0, 1) := by decide +kernel
theorem dX11_stuck_22 : decode cX11_stuck 22 = .ok (.getfield 28, 3) := by decide +kernel
theorem dX11_stuck_25 : decode cX11_stuck 25 = .ok (.iload_n 1, 1) := by decide +kernel
theorem dX11_stuck_26 : decode cX11_stuck 26 = .ok (.invokevirtual 138, 3) := by decide +kernel
theorem dX11_stuck_29 : decode cX11_stuck 29 = .ok (.aload_n 0, 1) := by decide +kernel
theorem dX11_stuck_30 : decode cX11_stuck 30 = .ok (.invokevirtual 118, 3) := by decide +kernel
theorem dX11_stuck_33 : decode cX11_stuck 33 = .ok (.iconst 1, 1) := by decide +kernel
theorem dX11_stuck_34 : decode cX11_stuck 34 = .ok (.ireturn, 1) := by decide +kernel
theorem dX11_asked_0 : decode cX11_asked 0 = .ok (.iload_n 1, 1) := by decide +kernel
theorem dX11_asked_1 : decode cX11_asked 1 = .ok (.invokestatic 110, 3) := by decide +kernel
theorem dX11_asked_4 : decode cX11_asked 4 = .ok (.ifCond .eq 14, 3) := by decide +kernel
theorem dX11_asked_7 : decode cX11_asked 7 = .ok (.aload_n 0, 1) := by decide +kernel
theorem dX11_asked_8 : decode cX11_asked 8 = .ok (.getfield 28, 3) := by decide +kernel
theorem dX11_asked_11 : decode cX11_asked 11 = .ok (.iload_n 1, 1) := by decide +kernel
theorem dX11_asked_12 : decode cX11_asked 12 = .ok (.invokevirtual 141, 3) := by decide +kernel
theorem dX11_asked_15 : decode cX11_asked 15 = .ok (.goto 4, 3) := by decide +kernel
theorem dX11_asked_18 : decode cX11_asked 18 = .ok (.iconst (-1), 1) := by decide +kernel
theorem dX11_asked_19 : decode cX11_asked 19 = .ok (.ireturn, 1) := by decide +kernel
theorem dX11_states_0 : decode cX11_states 0 = .ok (.aload_n 0, 1) := by decide +kernel
theorem dX11_states_1 : decode cX11_states 1 = .ok (.getfield 37, 3) := by decide +kernel
theorem dX11_states_4 : decode cX11_states 4 = .ok (.invokevirtual 144, 3) := by decide +kernel
theorem dX11_states_7 : decode cX11_states 7 = .ok (.aload_n 0, 1) := by decide +kernel
theorem dX11_states_8 : decode cX11_states 8 = .ok (.getfield 37, 3) := by decide +kernel
theorem dX11_states_11 : decode cX11_states 11 = .ok (.invokevirtual 147, 3) := by decide +kernel
theorem dX11_states_14 : decode cX11_states 14 = .ok (.ireturn, 1) := by decide +kernel
theorem dX11_state_0 : decode cX11_state 0 = .ok (.aload_n 0, 1) := by decide +kernel
theorem dX11_state_1 : decode cX11_state 1 = .ok (.getfield 37, 3) := by decide +kernel
theorem dX11_state_4 : decode cX11_state 4 = .ok (.invokevirtual 144, 3) := by decide +kernel
theorem dX11_state_7 : decode cX11_state 7 = .ok (.aload_n 0, 1) := by decide +kernel
theorem dX11_state_8 : decode cX11_state 8 = .ok (.getfield 37, 3) := by decide +kernel
theorem dX11_state_11 : decode cX11_state 11 = .ok (.iload_n 1, 1) := by decide +kernel
theorem dX11_state_12 : decode cX11_state 12 = .ok (.invokevirtual 148, 3) := by decide +kernel
theorem dX11_state_15 : decode cX11_state 15 = .ok (.ireturn, 1) := by decide +kernel
theorem dX11_place_0 : decode cX11_place 0 = .ok (.aload_n 0, 1) := by decide +kernel
theorem dX11_place_1 : decode cX11_place 1 = .ok (.getfield 37, 3) := by decide +kernel
theorem dX11_place_4 : decode cX11_place 4 = .ok (.invokevirtual 144, 3) := by decide +kernel
theorem dX11_place_7 : decode cX11_place 7 = .ok (.aload_n 0, 1) := by decide +kernel
theorem dX11_place_8 : decode cX11_place 8 = .ok (.getfield 37, 3) := by decide +kernel
theorem dX11_place_11 : decode cX11_place 11 = .ok (.iload_n 1, 1) := by decide +kernel
theorem dX11_place_12 : decode cX11_place 12 = .ok (.invokevirtual 151, 3) := by decide +kernel
theorem dX11_place_15 : decode cX11_place 15 = .ok (.ireturn, 1) := by decide +kernel
theorem dX11_hazard_0 : decode cX11_hazard 0 = .ok (.iload_n 2, 1) := by decide +kernel
theorem dX11_hazard_1 : decode cX11_hazard 1 = .ok (.ifCond .lt 8, 3) := by decide +kernel
theorem dX11_hazard_4 : decode cX11_hazard 4 = .ok (.iload_n 2, 1) := by decide +kernel
theorem dX11_hazard_5 : decode cX11_hazard 5 = .ok (.iconst 2, 1) := by decide +kernel
theorem dX11_hazard_6 : decode cX11_hazard 6 = .ok (.if_icmp .le 5, 3) := by decide +kernel
theorem dX11_hazard_9 : decode cX11_hazard 9 = .ok (.iconst (-1), 1) := by decide +kernel
theorem dX11_hazard_10 : decode cX11_hazard 10 = .ok (.ireturn, 1) := by decide +kernel
theorem dX11_hazard_11 : decode cX11_hazard 11 = .ok (.aload_n 0, 1) := by decide +kernel
theorem dX11_hazard_12 : decode cX11_hazard 12 = .ok (.getfield 37, 3) := by decide +kernel
theorem dX11_hazard_15 : decode cX11_hazard 15 = .ok (.invokevirtual 144, 3) := by decide +kernel
theorem dX11_hazard_18 : decode cX11_hazard 18 = .ok (.aload_n 0, 1) := by decide +kernel
theorem dX11_hazard_19 : decode cX11_hazard 19 = .ok (.getfield 46, 3) := by decide +kernel
theorem dX11_hazard_22 : decode cX11_hazard 22 = .ok (.invokevirtual 154, 3) := by decide +kernel
theorem dX11_hazard_25 : decode cX11_hazard 25 = .ok (.aload_n 0, 1) := by decide +kernel
theorem dX11_hazard_26 : decode cX11_hazard 26 = .ok (.getfield 46, 3) := by decide +kernel
theorem dX11_hazard_29 : decode cX11_hazard 29 = .ok (.iload_n 1, 1) := by decide +kernel
theorem dX11_hazard_30 : decode cX11_hazard 30 = .ok (.iload_n 2, 1) := by decide +kernel
theorem dX11_hazard_31 : decode cX11_hazard 31 = .ok (.invokevirtual 155, 3) := by decide +kernel
theorem dX11_hazard_34 : decode cX11_hazard 34 = .ok (.ireturn, 1) := by decide +kernel
theorem dX11_stop_0 : decode cX11_stop 0 = .ok (.aload_n 0, 1) := by decide +kernel
theorem dX11_stop_1 : decode cX11_stop 1 = .ok (.getfield 37, 3) := by decide +kernel
theorem dX11_stop_4 : decode cX11_stop 4 = .ok (.invokevirtual 144, 3) := by decide +kernel
theorem dX11_stop_7 : decode cX11_stop 7 = .ok (.aload_n 0, 1) := by decide +kernel
theorem dX11_stop_8 : decode cX11_stop 8 = .ok (.getfield 37, 3) := by decide +kernel
theorem dX11_stop_11 : decode cX11_stop 11 = .ok (.iload_n 1, 1) := by decide +kernel
theorem dX11_stop_12 : decode cX11_stop 12 = .ok (.invokevirtual 159, 3) := by decide +kernel
theorem dX11_stop_15 : decode cX11_stop 15 = .ok (.ireturn, 1) := by decide +kernel
theorem dX11_way_0 : decode cX11_way 0 = .ok (.aload_n 0, 1) := by decide +kernel
theorem dX11_way_1 : decode cX11_way 1 = .ok (.getfield 37, 3) := by decide +kernel
theorem dX11_way_4 : decode cX11_way 4 = .ok (.invokevirtual 144, 3) := by decide +kernel
theorem dX11_way_7 : decode cX11_way 7 = .ok (.aload_n 0, 1) := by decide +kernel
theorem dX11_way_8 : decode cX11_way 8 = .ok (.getfield 37, 3) := by decide +kernel
theorem dX11_way_11 : decode cX11_way 11 = .ok (.iload_n 1, 1) := by decide +kernel
theorem dX11_way_12 : decode cX11_way 12 = .ok (.invokevirtual 162, 3) := by decide +kernel
theorem dX11_way_15 : decode cX11_way 15 = .ok (.ireturn, 1) := by decide +kernel
theorem dX11_change_0 : decode cX11_change 0 = .ok (.aload_n 0, 1) := by decide +kernel
theorem dX11_change_1 : decode cX11_change 1 = .ok (.getfield 37, 3) := by decide +kernel
theorem dX11_change_4 : decode cX11_change 4 = .ok (.invokevirtual 144, 3) := by decide +kernel
theorem dX11_change_7 : decode cX11_change 7 = .ok (.aload_n 0, 1) := by decide +kernel
theorem dX11_change_8 : decode cX11_change 8 = .ok (.getfield 37, 3) := by decide +kernel
theorem dX11_change_11 : decode cX11_change 11 = .ok (.iload_n 1, 1) := by decide +kernel
theorem dX11_change_12 : decode cX11_change 12 = .ok (.iload_n 2, 1) := by decide +kernel
theorem dX11_change_13 : decode cX11_change 13 = .ok (.invokevirtual 165, 3) := by decide +kernel
theorem dX11_change_16 : decode cX11_change 16 = .ok (.ireturn, 1) := by decide +kernel
theorem dX11_live_0 : decode cX11_live 0 = .ok (.iload_n 1, 1) := by decide +kernel
theorem dX11_live_1 : decode cX11_live 1 = .ok (.invokestatic 121, 3) := by decide +kernel
theorem dX11_live_4 : decode cX11_live 4 = .ok (.ifCond .ne 5, 3) := by decide +kernel
theorem dX11_live_7 : decode cX11_live 7 = .ok (.iconst (-1), 1) := by decide +kernel
theorem dX11_live_8 : decode cX11_live 8 = .ok (.ireturn, 1) := by decide +kernel
theorem dX11_live_9 : decode cX11_live 9 = .ok (.aload_n 0, 1) := by decide +kernel
theorem dX11_live_10 : decode cX11_live 10 = .ok (.getfield 37, 3) := by decide +kernel
theorem dX11_live_13 : decode cX11_live 13 = .ok (.invokevirtual 144, 3) := by decide +kernel
theorem dX11_live_16 : decode cX11_live 16 = .ok (.aload_n 0, 1) := by decide +kernel
theorem dX11_live_17 : decode cX11_live 17 = .ok (.getfield 53, 3) := by decide +kernel
theorem dX11_live_20 : decode cX11_live 20 = .ok (.iload_n 1, 1) := by decide +kernel
theorem dX11_live_21 : decode cX11_live 21 = .ok (.invokevirtual 168, 3) := by decide +kernel
theorem dX11_live_24 : decode cX11_live 24 = .ok (.ifCond .eq 7, 3) := by decide +kernel
theorem dX11_live_27 : decode cX11_live 27 = .ok (.iconst 1, 1) := by decide +kernel
theorem dX11_live_28 : decode cX11_live 28 = .ok (.goto 4, 3) := by decide +kernel
theorem dX11_live_31 : decode cX11_live 31 = .ok (.iconst 0, 1) := by decide +kernel
theorem dX11_live_32 : decode cX11_live 32 = .ok (.ireturn, 1) := by decide +kernel
theorem dX11_both_0 : decode cX11_both 0 = .ok (.iload_n 1, 1) := by decide +kernel
theorem dX11_both_1 : decode cX11_both 1 = .ok (.invokestatic 110, 3) := by decide +kernel
theorem dX11_both_4 : decode cX11_both 4 = .ok (.ifCond .ne 5, 3) := by decide +kernel
theorem dX11_both_7 : decode cX11_both 7 = .ok (.iconst (-1), 1) := by decide +kernel
theorem dX11_both_8 : decode cX11_both 8 = .ok (.ireturn, 1) := by decide +kernel
theorem dX11_both_9 : decode cX11_both 9 = .ok (.aload_n 0, 1) := by decide +kernel
theorem dX11_both_10 : decode cX11_both 10 = .ok (.getfield 37, 3) := by decide +kernel
theorem dX11_both_13 : decode cX11_both 13 = .ok (.invokevirtual 144, 3) := by decide +kernel
theorem dX11_both_16 : decode cX11_both 16 = .ok (.aload_n 0, 1) := by decide +kernel
theorem dX11_both_17 : decode cX11_both 17 = .ok (.getfield 37, 3) := by decide +kernel
theorem dX11_both_20 : decode cX11_both 20 = .ok (.iload_n 1, 1) := by decide +kernel
theorem dX11_both_21 : decode cX11_both 21 = .ok (.invokevirtual 171, 3) := by decide +kernel
theorem dX11_both_24 : decode cX11_both 24 = .ok (.ireturn, 1) := by decide +kernel
theorem dX11_run_0 : decode cX11_run 0 = .ok (.iload_n 1, 1) := by decide +kernel
theorem dX11_run_1 : decode cX11_run 1 = .ok (.invokestatic 174, 3) := by decide +kernel
theorem dX11_run_4 : decode cX11_run 4 = .ok (.ifCond .eq 19, 3) := by decide +kernel
theorem dX11_run_7 : decode cX11_run 7 = .ok (.aload_n 0, 1) := by decide +kernel
theorem dX11_run_8 : decode cX11_run 8 = .ok (.getfield 28, 3) := by decide +kernel
theorem dX11_run_11 : decode cX11_run 11 = .ok (.iload_n 1, 1) := by decide +kernel
theorem dX11_run_12 : decode cX11_run 12 = .ok (.lload_n 2, 1) := by decide +kernel
theorem dX11_run_13 : decode cX11_run 13 = .ok (.aload_n 0, 1) := by decide +kernel
theorem dX11_run_14 : decode cX11_run 14 = .ok (.getfield 57, 3) := by decide +kernel
theorem dX11_run_17 : decode cX11_run 17 = .ok (.invokevirtual 177, 3) := by decide +kernel
theorem dX11_run_20 : decode cX11_run 20 = .ok (.goto 4, 3) := by decide +kernel
theorem dX11_run_23 : decode cX11_run 23 = .ok (.iconst (-1), 1) := by decide +kernel
theorem dX11_run_24 : decode cX11_run 24 = .ok (.ireturn, 1) := by decide +kernel
theorem dX11_changed_0 : decode cX11_changed 0 = .ok (.iload_n 1, 1) := by decide +kernel
theorem dX11_changed_1 : decode cX11_changed 1 = .ok (.invokestatic 174, 3) := by decide +kernel
theorem dX11_changed_4 : decode cX11_changed 4 = .ok (.ifCond .eq 11, 3) := by decide +kernel
theorem dX11_changed_7 : decode cX11_changed 7 = .ok (.iload 4, 2) := by decide +kernel
theorem dX11_changed_9 : decode cX11_changed 9 = .ok (.invokestatic 121, 3) := by decide +kernel
theorem dX11_changed_12 : decode cX11_changed 12 = .ok (.ifCond .ne 5, 3) := by decide +kernel
theorem dX11_changed_15 : decode cX11_changed 15 = .ok (.iconst (-1), 1) := by decide +kernel
theorem dX11_changed_16 : decode cX11_changed 16 = .ok (.ireturn, 1) := by decide +kernel
theorem dX11_changed_17 : decode cX11_changed 17 = .ok (.aload_n 0, 1) := by decide +kernel
theorem dX11_changed_18 : decode cX11_changed 18 = .ok (.getfield 28, 3) := by decide +kernel
theorem dX11_changed_21 : decode cX11_changed 21 = .ok (.iload_n 1, 1) := by decide +kernel
theorem dX11_changed_22 : decode cX11_changed 22 = .ok (.lload_n 2, 1) := by decide +kernel
theorem dX11_changed_23 : decode cX11_changed 23 = .ok (.aload_n 0, 1) := by decide +kernel
theorem dX11_changed_24 : decode cX11_changed 24 = .ok (.getfield 57, 3) := by decide +kernel
theorem dX11_changed_27 : decode cX11_changed 27 = .ok (.invokevirtual 177, 3) := by decide +kernel
theorem dX11_changed_30 : decode cX11_changed 30 = .ok (.pop, 1) := by decide +kernel
theorem dX11_changed_31 : decode cX11_changed 31 = .ok (.aload_n 0, 1) := by decide +kernel
theorem dX11_changed_32 : decode cX11_changed 32 = .ok (.getfield 57, 3) := by decide +kernel
theorem dX11_changed_35 : decode cX11_changed 35 = .ok (.iload 4, 2) := by decide +kernel
theorem dX11_changed_37 : decode cX11_changed 37 = .ok (.iaload, 1) := by decide +kernel
theorem dX11_changed_38 : decode cX11_changed 38 = .ok (.ireturn, 1) := by decide +kernel
theorem dX11_node_0 : decode cX11_node 0 = .ok (.aload_n 0, 1) := by decide +kernel
theorem dX11_node_1 : decode cX11_node 1 = .ok (.getfield 64, 3) := by decide +kernel
theorem dX11_node_4 : decode cX11_node 4 = .ok (.iload_n 1, 1) := by decide +kernel
theorem dX11_node_5 : decode cX11_node 5 = .ok (.invokevirtual 181, 3) := by decide +kernel
theorem dX11_node_8 : decode cX11_node 8 = .ok (.istore_n 2, 1) := by decide +kernel
theorem dX11_node_9 : decode cX11_node 9 = .ok (.aload_n 0, 1) := by decide +kernel
theorem dX11_node_10 : decode cX11_node 10 = .ok (.invokevirtual 184, 3) := by decide +kernel
theorem dX11_node_13 : decode cX11_node 13 = .ok (.iload_n 2, 1) := by decide +kernel
theorem dX11_node_14 : decode cX11_node 14 = .ok (.ireturn, 1) := by decide +kernel
theorem dX11_arc_0 : decode cX11_arc 0 = .ok (.aload_n 0, 1) := by decide +kernel
theorem dX11_arc_1 : decode cX11_arc 1 = .ok (.getfield 64, 3) := by decide +kernel
theorem dX11_arc_4 : decode cX11_arc 4 = .ok (.iload_n 1, 1) := by decide +kernel
theorem dX11_arc_5 : decode cX11_arc 5 = .ok (.iload_n 2, 1) := by decide +kernel
theorem dX11_arc_6 : decode cX11_arc 6 = .ok (.iload_n 3, 1) := by decide +kernel
theorem dX11_arc_7 : decode cX11_arc 7 = .ok (.invokevirtual 187, 3) := by decide +kernel
theorem dX11_arc_10 : decode cX11_arc 10 = .ok (.istore 4, 2) := by decide +kernel
theorem dX11_arc_12 : decode cX11_arc 12 = .ok (.aload_n 0, 1) := by decide +kernel
theorem dX11_arc_13 : decode cX11_arc 13 = .ok (.invokevirtual 184, 3) := by decide +kernel
theorem dX11_arc_16 : decode cX11_arc 16 = .ok (.iload 4, 2) := by decide +kernel
theorem dX11_arc_18 : decode cX11_arc 18 = .ok (.ireturn, 1) := by decide +kernel
theorem dX11_tokens_0 : decode cX11_tokens 0 = .ok (.aload_n 0, 1) := by decide +kernel
theorem dX11_tokens_1 : decode cX11_tokens 1 = .ok (.getfield 64, 3) := by decide +kernel
theorem dX11_tokens_4 : decode cX11_tokens 4 = .ok (.iload_n 1, 1) := by decide +kernel
theorem dX11_tokens_5 : decode cX11_tokens 5 = .ok (.iload_n 2, 1) := by decide +kernel
theorem dX11_tokens_6 : decode cX11_tokens 6 = .ok (.invokevirtual 191, 3) := by decide +kernel
theorem dX11_tokens_9 : decode cX11_tokens 9 = .ok (.istore_n 3, 1) := by decide +kernel
theorem dX11_tokens_10 : decode cX11_tokens 10 = .ok (.aload_n 0, 1) := by decide +kernel
theorem dX11_tokens_11 : decode cX11_tokens 11 = .ok (.invokevirtual 184, 3) := by decide +kernel
theorem dX11_tokens_14 : decode cX11_tokens 14 = .ok (.iload_n 3, 1) := by decide +kernel
theorem dX11_tokens_15 : decode cX11_tokens 15 = .ok (.ireturn, 1) := by decide +kernel
theorem dX11_clear_0 : decode cX11_clear 0 = .ok (.aload_n 0, 1) := by decide +kernel
theorem dX11_clear_1 : decode cX11_clear 1 = .ok (.getfield 64, 3) := by decide +kernel
theorem dX11_clear_4 : decode cX11_clear 4 = .ok (.invokevirtual 194, 3) := by decide +kernel
theorem dX11_clear_7 : decode cX11_clear 7 = .ok (.aload_n 0, 1) := by decide +kernel
theorem dX11_clear_8 : decode cX11_clear 8 = .ok (.invokevirtual 184, 3) := by decide +kernel
theorem dX11_clear_11 : decode cX11_clear 11 = .ok (.return_, 1) := by decide +kernel
theorem dX11_dead_0 : decode cX11_dead 0 = .ok (.aload_n 0, 1) := by decide +kernel
theorem dX11_dead_1 : decode cX11_dead 1 = .ok (.getfield 64, 3) := by decide +kernel
theorem dX11_dead_4 : decode cX11_dead 4 = .ok (.invokevirtual 197, 3) := by decide +kernel
theorem dX11_dead_7 : decode cX11_dead 7 = .ok (.ifCond .eq 7, 3) := by decide +kernel
theorem dX11_dead_10 : decode cX11_dead 10 = .ok (.iconst 1, 1) := by decide +kernel
theorem dX11_dead_11 : decode cX11_dead 11 = .ok (.goto 4, 3) := by decide +kernel
theorem dX11_dead_14 : decode cX11_dead 14 = .ok (.iconst 0, 1) := by decide +kernel
theorem dX11_dead_15 : decode cX11_dead 15 = .ok (.ireturn, 1) := by decide +kernel
theorem dX11_turn_0 : decode cX11_turn 0 = .ok (.iload_n 1, 1) := by decide +kernel
theorem dX11_turn_1 : decode cX11_turn 1 = .ok (.ifCond .lt 8, 3) := by decide +kernel
theorem dX11_turn_4 : decode cX11_turn 4 = .ok (.iload_n 1, 1) := by decide +kernel
theorem dX11_turn_5 : decode cX11_turn 5 = .ok (.iconst 1, 1) := by decide +kernel
theorem dX11_turn_6 : decode cX11_turn 6 = .ok (.if_icmp .le 7, 3) := by decide +kernel
theorem dX11_turn_9 : decode cX11_turn 9 = .ok (.ldc2_w 201, 3) := by decide +kernel
theorem dX11_turn_12 : decode cX11_turn 12 = .ok (.lreturn, 1) := by decide +kernel
theorem dX11_turn_13 : decode cX11_turn 13 = .ok (.aload_n 0, 1) := by decide +kernel
theorem dX11_turn_14 : decode cX11_turn 14 = .ok (.getfield 73, 3) := by decide +kernel
theorem dX11_turn_17 : decode cX11_turn 17 = .ok (.invokevirtual 203, 3) := by decide +kernel
theorem dX11_turn_20 : decode cX11_turn 20 = .ok (.iload_n 1, 1) := by decide +kernel
theorem dX11_turn_21 : decode cX11_turn 21 = .ok (.ifCond .ne 14, 3) := by decide +kernel
theorem dX11_turn_24 : decode cX11_turn 24 = .ok (.aload_n 0, 1) := by decide +kernel
theorem dX11_turn_25 : decode cX11_turn 25 = .ok (.getfield 73, 3) := by decide +kernel
theorem dX11_turn_28 : decode cX11_turn 28 = .ok (.invokevirtual 204, 3) := by decide +kernel
theorem dX11_turn_31 : decode cX11_turn 31 = .ok (.i2l, 1) := by decide +kernel
theorem dX11_turn_32 : decode cX11_turn 32 = .ok (.goto 11, 3) := by decide +kernel
theorem dX11_turn_35 : decode cX11_turn 35 = .ok (.aload_n 0, 1) := by decide +kernel
theorem dX11_turn_36 : decode cX11_turn 36 = .ok (.getfield 73, 3) := by decide +kernel
theorem dX11_turn_39 : decode cX11_turn 39 = .ok (.invokevirtual 207, 3) := by decide +kernel
theorem dX11_turn_42 : decode cX11_turn 42 = .ok (.i2l, 1) := by decide +kernel
theorem dX11_turn_43 : decode cX11_turn 43 = .ok (.lreturn, 1) := by decide +kernel
theorem dX11_time_0 : decode cX11_time 0 = .ok (.aload_n 0, 1) := by decide +kernel
theorem dX11_time_1 : decode cX11_time 1 = .ok (.getfield 64, 3) := by decide +kernel
theorem dX11_time_4 : decode cX11_time 4 = .ok (.iload_n 1, 1) := by decide +kernel
theorem dX11_time_5 : decode cX11_time 5 = .ok (.invokevirtual 210, 3) := by decide +kernel
theorem dX11_time_8 : decode cX11_time 8 = .ok (.ifCond .eq 15, 3) := by decide +kernel
theorem dX11_time_11 : decode cX11_time 11 = .ok (.iload_n 2, 1) := by decide +kernel
theorem dX11_time_12 : decode cX11_time 12 = .ok (.iconst 1, 1) := by decide +kernel
theorem dX11_time_13 : decode cX11_time 13 = .ok (.if_icmp .lt 10, 3) := by decide +kernel
theorem dX11_time_16 : decode cX11_time 16 = .ok (.iload_n 2, 1) := by decide +kernel
theorem dX11_time_17 : decode cX11_time 17 = .ok (.sipush 200, 3) := by decide +kernel
theorem dX11_time_20 : decode cX11_time 20 = .ok (.if_icmp .le 13, 3) := by decide +kernel
theorem dX11_time_23 : decode cX11_time 23 = .ok (.new 213, 3) := by decide +kernel
theorem dX11_time_26 : decode cX11_time 26 = .ok (.dup, 1) := by decide +kernel
theorem dX11_time_27 : decode cX11_time 27 = .ok (.ldc 215, 2) := by decide +kernel
theorem dX11_time_29 : decode cX11_time 29 = .ok (.invokespecial 217, 3) := by decide +kernel
theorem dX11_time_32 : decode cX11_time 32 = .ok (.athrow, 1) := by decide +kernel
theorem dX11_time_33 : decode cX11_time 33 = .ok (.aload_n 0, 1) := by decide +kernel
theorem dX11_time_34 : decode cX11_time 34 = .ok (.getfield 80, 3) := by decide +kernel
theorem dX11_time_37 : decode cX11_time 37 = .ok (.iload_n 2, 1) := by decide +kernel
theorem dX11_time_38 : decode cX11_time 38 = .ok (.invokevirtual 220, 3) := by decide +kernel
theorem dX11_time_41 : decode cX11_time 41 = .ok (.aload_n 0, 1) := by decide +kernel
theorem dX11_time_42 : decode cX11_time 42 = .ok (.getfield 80, 3) := by decide +kernel
theorem dX11_time_45 : decode cX11_time 45 = .ok (.iload_n 1, 1) := by decide +kernel
theorem dX11_time_46 : decode cX11_time 46 = .ok (.iload_n 2, 1) := by decide +kernel
theorem dX11_time_47 : decode cX11_time 47 = .ok (.invokevirtual 223, 3) := by decide +kernel
theorem dX11_time_50 : decode cX11_time 50 = .ok (.istore_n 3, 1) := by decide +kernel
theorem dX11_time_51 : decode cX11_time 51 = .ok (.iload_n 3, 1) := by decide +kernel
theorem dX11_time_52 : decode cX11_time 52 = .ok (.iconst (-1), 1) := by decide +kernel
theorem dX11_time_53 : decode cX11_time 53 = .ok (.if_icmp .ne 13, 3) := by decide +kernel
theorem dX11_time_56 : decode cX11_time 56 = .ok (.new 213, 3) := by decide +kernel
theorem dX11_time_59 : decode cX11_time 59 = .ok (.dup, 1) := by decide +kernel
theorem dX11_time_60 : decode cX11_time 60 = .ok (.ldc 226, 2) := by decide +kernel
theorem dX11_time_62 : decode cX11_time 62 = .ok (.invokespecial 217, 3) := by decide +kernel
theorem dX11_time_65 : decode cX11_time 65 = .ok (.athrow, 1) := by decide +kernel
theorem dX11_time_66 : decode cX11_time 66 = .ok (.iload_n 3, 1) := by decide +kernel
theorem dX11_time_67 : decode cX11_time 67 = .ok (.ireturn, 1) := by decide +kernel
theorem dX11_helps_0 : decode cX11_helps 0 = .ok (.aload_n 0, 1) := by decide +kernel
theorem dX11_helps_1 : decode cX11_helps 1 = .ok (.getfield 73, 3) := by decide +kernel
theorem dX11_helps_4 : decode cX11_helps 4 = .ok (.invokevirtual 203, 3) := by decide +kernel
theorem dX11_helps_7 : decode cX11_helps 7 = .ok (.aload_n 0, 1) := by decide +kernel
theorem dX11_helps_8 : decode cX11_helps 8 = .ok (.getfield 73, 3) := by decide +kernel
theorem dX11_helps_11 : decode cX11_helps 11 = .ok (.invokevirtual 228, 3) := by decide +kernel
theorem dX11_helps_14 : decode cX11_helps 14 = .ok (.ireturn, 1) := by decide +kernel
theorem dX11_count_0 : decode cX11_count 0 = .ok (.iload_n 1, 1) := by decide +kernel
theorem dX11_count_1 : decode cX11_count 1 = .ok (.tableswitch 132 0 7 #[47, 55, 63, 85, 100, 108, 116, 124], 47) := by decide +kernel
theorem dX11_count_48 : decode cX11_count 48 = .ok (.aload_n 0, 1) := by decide +kernel
theorem dX11_count_49 : decode cX11_count 49 = .ok (.getfield 28, 3) := by decide +kernel
theorem dX11_count_52 : decode cX11_count 52 = .ok (.invokevirtual 231, 3) := by decide +kernel
theorem dX11_count_55 : decode cX11_count 55 = .ok (.ireturn, 1) := by decide +kernel
theorem dX11_count_56 : decode cX11_count 56 = .ok (.aload_n 0, 1) := by decide +kernel
theorem dX11_count_57 : decode cX11_count 57 = .ok (.getfield 28, 3) := by decide +kernel
theorem dX11_count_60 : decode cX11_count 60 = .ok (.invokevirtual 234, 3) := by decide +kernel
theorem dX11_count_63 : decode cX11_count 63 = .ok (.ireturn, 1) := by decide +kernel
theorem dX11_count_64 : decode cX11_count 64 = .ok (.aload_n 0, 1) := by decide +kernel
theorem dX11_count_65 : decode cX11_count 65 = .ok (.getfield 37, 3) := by decide +kernel
theorem dX11_count_68 : decode cX11_count 68 = .ok (.invokevirtual 144, 3) := by decide +kernel
theorem dX11_count_71 : decode cX11_count 71 = .ok (.aload_n 0, 1) := by decide +kernel
theorem dX11_count_72 : decode cX11_count 72 = .ok (.getfield 46, 3) := by decide +kernel
theorem dX11_count_75 : decode cX11_count 75 = .ok (.invokevirtual 154, 3) := by decide +kernel
theorem dX11_count_78 : decode cX11_count 78 = .ok (.aload_n 0, 1) := by decide +kernel
theorem dX11_count_79 : decode cX11_count 79 = .ok (.getfield 46, 3) := by decide +kernel
theorem dX11_count_82 : decode cX11_count 82 = .ok (.invokevirtual 237, 3) := by decide +kernel
theorem dX11_count_85 : decode cX11_count 85 = .ok (.ireturn, 1) := by decide +kernel
theorem dX11_count_86 : decode cX11_count 86 = .ok (.aload_n 0, 1) := by decide +kernel
theorem dX11_count_87 : decode cX11_count 87 = .ok (.getfield 37, 3) := by decide +kernel
theorem dX11_count_90 : decode cX11_count 90 = .ok (.invokevirtual 144, 3) := by decide +kernel
theorem dX11_count_93 : decode cX11_count 93 = .ok (.aload_n 0, 1) := by decide +kernel
theorem dX11_count_94 : decode cX11_count 94 = .ok (.getfield 37, 3) := by decide +kernel
theorem dX11_count_97 : decode cX11_count 97 = .ok (.invokevirtual 238, 3) := by decide +kernel
theorem dX11_count_100 : decode cX11_count 100 = .ok (.ireturn, 1) := by decide +kernel
theorem dX11_count_101 : decode cX11_count 101 = .ok (.aload_n 0, 1) := by decide +kernel
theorem dX11_count_102 : decode cX11_count 102 = .ok (.getfield 64, 3) := by decide +kernel
theorem dX11_count_105 : decode cX11_count 105 = .ok (.invokevirtual 241, 3) := by decide +kernel
theorem dX11_count_108 : decode cX11_count 108 = .ok (.ireturn, 1) := by decide +kernel
theorem dX11_count_109 : decode cX11_count 109 = .ok (.aload_n 0, 1) := by decide +kernel
theorem dX11_count_110 : decode cX11_count 110 = .ok (.getfield 64, 3) := by decide +kernel
theorem dX11_count_113 : decode cX11_count 113 = .ok (.invokevirtual 244, 3) := by decide +kernel
theorem dX11_count_116 : decode cX11_count 116 = .ok (.ireturn, 1) := by decide +kernel
theorem dX11_count_117 : decode cX11_count 117 = .ok (.aload_n 0, 1) := by decide +kernel
theorem dX11_count_118 : decode cX11_count 118 = .ok (.getfield 12, 3) := by decide +kernel
theorem dX11_count_121 : decode cX11_count 121 = .ok (.invokevirtual 95, 3) := by decide +kernel
theorem dX11_count_124 : decode cX11_count 124 = .ok (.ireturn, 1) := by decide +kernel
theorem dX11_count_125 : decode cX11_count 125 = .ok (.aload_n 0, 1) := by decide +kernel
theorem dX11_count_126 : decode cX11_count 126 = .ok (.getfield 28, 3) := by decide +kernel
theorem dX11_count_129 : decode cX11_count 129 = .ok (.invokevirtual 247, 3) := by decide +kernel
theorem dX11_count_132 : decode cX11_count 132 = .ok (.ireturn, 1) := by decide +kernel
theorem dX11_count_133 : decode cX11_count 133 = .ok (.iconst (-1), 1) := by decide +kernel
theorem dX11_count_134 : decode cX11_count 134 = .ok (.ireturn, 1) := by decide +kernel
theorem dX11_forgetWalk_0 : decode cX11_forgetWalk 0 = .ok (.aload_n 0, 1) := by decide +kernel
theorem dX11_forgetWalk_1 : decode cX11_forgetWalk 1 = .ok (.getfield 37, 3) := by decide +kernel
theorem dX11_forgetWalk_4 : decode cX11_forgetWalk 4 = .ok (.invokevirtual 250, 3) := by decide +kernel
theorem dX11_forgetWalk_7 : decode cX11_forgetWalk 7 = .ok (.aload_n 0, 1) := by decide +kernel
theorem dX11_forgetWalk_8 : decode cX11_forgetWalk 8 = .ok (.getfield 46, 3) := by decide +kernel
theorem dX11_forgetWalk_11 : decode cX11_forgetWalk 11 = .ok (.invokevirtual 132, 3) := by decide +kernel
theorem dX11_forgetWalk_14 : decode cX11_forgetWalk 14 = .ok (.aload_n 0, 1) := by decide +kernel
theorem dX11_forgetWalk_15 : decode cX11_forgetWalk 15 = .ok (.getfield 53, 3) := by decide +kernel
theorem dX11_forgetWalk_18 : decode cX11_forgetWalk 18 = .ok (.invokevirtual 251, 3) := by decide +kernel
theorem dX11_forgetWalk_21 : decode cX11_forgetWalk 21 = .ok (.return_, 1) := by decide +kernel
theorem dX11_forgetRings_0 : decode cX11_forgetRings 0 = .ok (.aload_n 0, 1) := by decide +kernel
theorem dX11_forgetRings_1 : decode cX11_forgetRings 1 = .ok (.getfield 73, 3) := by decide +kernel
theorem dX11_forgetRings_4 : decode cX11_forgetRings 4 = .ok (.invokevirtual 252, 3) := by decide +kernel
theorem dX11_forgetRings_7 : decode cX11_forgetRings 7 = .ok (.aload_n 0, 1) := by decide +kernel
theorem dX11_forgetRings_8 : decode cX11_forgetRings 8 = .ok (.getfield 80, 3) := by decide +kernel
theorem dX11_forgetRings_11 : decode cX11_forgetRings 11 = .ok (.invokevirtual 253, 3) := by decide +kernel
theorem dX11_forgetRings_14 : decode cX11_forgetRings 14 = .ok (.return_, 1) := by decide +kernel
theorem dX11_isSignal_0 : decode cX11_isSignal 0 = .ok (.iload_n 0, 1) := by decide +kernel
theorem dX11_isSignal_1 : decode cX11_isSignal 1 = .ok (.ifCond .lt 13, 3) := by decide +kernel
theorem dX11_isSignal_4 : decode cX11_isSignal 4 = .ok (.iload_n 0, 1) := by decide +kernel
theorem dX11_isSignal_5 : decode cX11_isSignal 5 = .ok (.bipush 12, 2) := by decide +kernel
theorem dX11_isSignal_7 : decode cX11_isSignal 7 = .ok (.if_icmp .ge 7, 3) := by decide +kernel
theorem dX11_isSignal_10 : decode cX11_isSignal 10 = .ok (.iconst 1, 1) := by decide +kernel
theorem dX11_isSignal_11 : decode cX11_isSignal 11 = .ok (.goto 4, 3) := by decide +kernel
theorem dX11_isSignal_14 : decode cX11_isSignal 14 = .ok (.iconst 0, 1) := by decide +kernel
theorem dX11_isSignal_15 : decode cX11_isSignal 15 = .ok (.ireturn, 1) := by decide +kernel
theorem dX11_isState_0 : decode cX11_isState 0 = .ok (.iload_n 0, 1) := by decide +kernel
theorem dX11_isState_1 : decode cX11_isState 1 = .ok (.ifCond .lt 14, 3) := by decide +kernel
theorem dX11_isState_4 : decode cX11_isState 4 = .ok (.iload_n 0, 1) := by decide +kernel
theorem dX11_isState_5 : decode cX11_isState 5 = .ok (.sipush 4096, 3) := by decide +kernel
theorem dX11_isState_8 : decode cX11_isState 8 = .ok (.if_icmp .ge 7, 3) := by decide +kernel
theorem dX11_isState_11 : decode cX11_isState 11 = .ok (.iconst 1, 1) := by decide +kernel
theorem dX11_isState_12 : decode cX11_isState 12 = .ok (.goto 4, 3) := by decide +kernel
theorem dX11_isState_15 : decode cX11_isState 15 = .ok (.iconst 0, 1) := by decide +kernel
theorem dX11_isState_16 : decode cX11_isState 16 = .ok (.ireturn, 1) := by decide +kernel
theorem dX11_isRunLength_0 : decode cX11_isRunLength 0 = .ok (.iload_n 0, 1) := by decide +kernel
theorem dX11_isRunLength_1 : decode cX11_isRunLength 1 = .ok (.ifCond .lt 14, 3) := by decide +kernel
theorem dX11_isRunLength_4 : decode cX11_isRunLength 4 = .ok (.iload_n 0, 1) := by decide +kernel
theorem dX11_isRunLength_5 : decode cX11_isRunLength 5 = .ok (.sipush 2000, 3) := by decide +kernel
theorem dX11_isRunLength_8 : decode cX11_isRunLength 8 = .ok (.if_icmp .gt 7, 3) := by decide +kernel
theorem dX11_isRunLength_11 : decode cX11_isRunLength 11 = .ok (.iconst 1, 1) := by decide +kernel
theorem dX11_isRunLength_12 : decode cX11_isRunLength 12 = .ok (.goto 4, 3) := by decide +kernel
theorem dX11_isRunLength_15 : decode cX11_isRunLength 15 = .ok (.iconst 0, 1) := by decide +kernel
theorem dX11_isRunLength_16 : decode cX11_isRunLength 16 = .ok (.ireturn, 1) := by decide +kernel
theorem dX11_isIn_0 : decode cX11_isIn 0 = .ok (.iload_n 0, 1) := by decide +kernel
theorem dX11_isIn_1 : decode cX11_isIn 1 = .ok (.iload_n 1, 1) := by decide +kernel
theorem dX11_isIn_2 : decode cX11_isIn 2 = .ok (.ishr, 1) := by decide +kernel
theorem dX11_isIn_3 : decode cX11_isIn 3 = .ok (.iconst 1, 1) := by decide +kernel
theorem dX11_isIn_4 : decode cX11_isIn 4 = .ok (.iand, 1) := by decide +kernel
theorem dX11_isIn_5 : decode cX11_isIn 5 = .ok (.ifCond .eq 7, 3) := by decide +kernel
theorem dX11_isIn_8 : decode cX11_isIn 8 = .ok (.iconst 1, 1) := by decide +kernel
theorem dX11_isIn_9 : decode cX11_isIn 9 = .ok (.goto 4, 3) := by decide +kernel
theorem dX11_isIn_12 : decode cX11_isIn 12 = .ok (.iconst 0, 1) := by decide +kernel
theorem dX11_isIn_13 : decode cX11_isIn 13 = .ok (.ireturn, 1) := by decide +kernel
theorem dX12_init_0 : decode cX12_init 0 = .ok (.aload_n 0, 1) := by decide +kernel
theorem dX12_init_1 : decode cX12_init 1 = .ok (.invokespecial 3, 3) := by decide +kernel
theorem dX12_init_4 : decode cX12_init 4 = .ok (.aload_n 0, 1) := by decide +kernel
theorem dX12_init_5 : decode cX12_init 5 = .ok (.sipush 300, 3) := by decide +kernel
theorem dX12_init_8 : decode cX12_init 8 = .ok (.newarray .byte, 2) := by decide +kernel
theorem dX12_init_10 : decode cX12_init 10 = .ok (.putfield 9, 3) := by decide +kernel
theorem dX12_init_13 : decode cX12_init 13 = .ok (.aload_n 0, 1) := by decide +kernel
theorem dX12_init_14 : decode cX12_init 14 = .ok (.bipush 12, 2) := by decide +kernel
theorem dX12_init_16 : decode cX12_init 16 = .ok (.newarray .int, 2) := by decide +kernel
theorem dX12_init_18 : decode cX12_init 18 = .ok (.putfield 13, 3) := by decide +kernel
theorem dX12_init_21 : decode cX12_init 21 = .ok (.aload_n 0, 1) := by decide +kernel
theorem dX12_init_22 : decode cX12_init 22 = .ok (.sipush 144, 3) := by decide +kernel
theorem dX12_init_25 : decode cX12_init 25 = .ok (.newarray .int, 2) := by decide +kernel
theorem dX12_init_27 : decode cX12_init 27 = .ok (.putfield 17, 3) := by decide +kernel
theorem dX12_init_30 : decode cX12_init 30 = .ok (.aload_n 0, 1) := by decide +kernel
theorem dX12_init_31 : decode cX12_init 31 = .ok (.sipush 144, 3) := by decide +kernel
theorem dX12_init_34 : decode cX12_init 34 = .ok (.newarray .int, 2) := by decide +kernel
theorem dX12_init_36 : decode cX12_init 36 = .ok (.putfield 20, 3) := by decide +kernel
theorem dX12_init_39 : decode cX12_init 39 = .ok (.aload_n 0, 1) := by decide +kernel
theorem dX12_init_40 : decode cX12_init 40 = .ok (.bipush 12, 2) := by decide +kernel
theorem dX12_init_42 : decode cX12_init 42 = .ok (.newarray .int, 2) := by decide +kernel
theorem dX12_init_44 : decode cX12_init 44 = .ok (.putfield 23, 3) := by decide +kernel
theorem dX12_init_47 : decode cX12_init 47 = .ok (.aload_n 0, 1) := by decide +kernel
theorem dX12_init_48 : decode cX12_init 48 = .ok (.sipush 144, 3) := by decide +kernel
theorem dX12_init_51 : decode cX12_init 51 = .ok (.newarray .int, 2) := by decide +kernel
theorem dX12_init_53 : decode cX12_init 53 = .ok (.putfield 26, 3) := by decide +kernel
theorem dX12_init_56 : decode cX12_init 56 = .ok (.aload_n 0, 1) := by decide +kernel
theorem dX12_init_57 : decode cX12_init 57 = .ok (.sipush 144, 3) := by decide +kernel
theorem dX12_init_60 : decode cX12_init 60 = .ok (.newarray .int, 2) := by decide +kernel
theorem dX12_init_62 : decode cX12_init 62 = .ok (.putfield 29, 3) := by decide +kernel
theorem dX12_init_65 : decode cX12_init 65 = .ok (.aload_n 0, 1) := by decide +kernel
theorem dX12_init_66 : decode cX12_init 66 = .ok (.bipush 12, 2) := by decide +kernel
theorem dX12_init_68 : decode cX12_init 68 = .ok (.newarray .boolean, 2) := by decide +kernel
theorem dX12_init_70 : decode cX12_init 70 = .ok (.putfield 32, 3) := by decide +kernel
theorem dX12_init_73 : decode cX12_init 73 = .ok (.aload_n 0, 1) := by decide +kernel
theorem dX12_init_74 : decode cX12_init 74 = .ok (.sipush 144, 3) := by decide +kernel
theorem dX12_init_77 : decode cX12_init 77 = .ok (.newarray .boolean, 2) := by decide +kernel
theorem dX12_init_79 : decode cX12_init 79 = .ok (.putfield 36, 3) := by decide +kernel
theorem dX12_init_82 : decode cX12_init 82 = .ok (.aload_n 0, 1) := by decide +kernel
theorem dX12_init_83 : decode cX12_init 83 = .ok (.sipush 4096, 3) := by decide +kernel
theorem dX12_init_86 : decode cX12_init 86 = .ok (.newarray .int, 2) := by decide +kernel
theorem dX12_init_88 : decode cX12_init 88 = .ok (.putfield 39, 3) := by decide +kernel
theorem dX12_init_91 : decode cX12_init 91 = .ok (.aload_n 0, 1) := by decide +kernel
theorem dX12_init_92 : decode cX12_init 92 = .ok (.sipush 4096, 3) := by decide +kernel
theorem dX12_init_95 : decode cX12_init 95 = .ok (.newarray .int, 2) := by decide +kernel
theorem dX12_init_97 : decode cX12_init 97 = .ok (.putfield 42, 3) := by decide +kernel
theorem dX12_init_100 : decode cX12_init 100 = .ok (.aload_n 0, 1) := by decide +kernel
theorem dX12_init_101 : decode cX12_init 101 = .ok (.sipush 4096, 3) := by decide +kernel
theorem dX12_init_104 : decode cX12_init 104 = .ok (.newarray .int, 2) := by decide +kernel
theorem dX12_init_106 : decode cX12_init 106 = .ok (.putfield 45, 3) := by decide +kernel
theorem dX12_init_109 : decode cX12_init 109 = .ok (.aload_n 0, 1) := by decide +kernel
theorem dX12_init_110 : decode cX12_init 110 = .ok (.sipush 4096, 3) := by decide +kernel
theorem dX12_init_113 : decode cX12_init 113 = .ok (.newarray .int, 2) := by decide +kernel
theorem dX12_init_115 : decode cX12_init 115 = .ok (.putfield 48, 3) := by decide +kernel
theorem dX12_init_118 : decode cX12_init 118 = .ok (.aload_n 0, 1) := by decide +kernel
theorem dX12_init_119 : decode cX12_init 119 = .ok (.sipush 4096, 3) := by decide +kernel
theorem dX12_init_122 : decode cX12_init 122 = .ok (.newarray .boolean, 2) := by decide +kernel
theorem dX12_init_124 : decode cX12_init 124 = .ok (.putfield 51, 3) := by decide +kernel
theorem dX12_init_127 : decode cX12_init 127 = .ok (.aload_n 0, 1) := by decide +kernel
theorem dX12_init_128 : decode cX12_init 128 = .ok (.bipush 12, 2) := by decide +kernel
theorem dX12_init_130 : decode cX12_init 130 = .ok (.newarray .int, 2) := by decide +kernel
theorem dX12_init_132 : decode cX12_init 132 = .ok (.putfield 54, 3) := by decide +kernel
theorem dX12_init_135 : decode cX12_init 135 = .ok (.aload_n 0, 1) := by decide +kernel
theorem dX12_init_136 : decode cX12_init 136 = .ok (.bipush 10, 2) := by decide +kernel
theorem dX12_init_138 : decode cX12_init 138 = .ok (.newarray .int, 2) := by decide +kernel
theorem dX12_init_140 : decode cX12_init 140 = .ok (.putfield 57, 3) := by decide +kernel
theorem dX12_init_143 : decode cX12_init 143 = .ok (.aload_n 0, 1) := by decide +kernel
theorem dX12_init_144 : decode cX12_init 144 = .ok (.bipush 20, 2) := by decide +kernel
theorem dX12_init_146 : decode cX12_init 146 = .ok (.newarray .int, 2) := by decide +kernel
theorem dX12_init_148 : decode cX12_init 148 = .ok (.putfield 60, 3) := by decide +kernel
theorem dX12_init_151 : decode cX12_init 151 = .ok (.aload_n 0, 1) := by decide +kernel
theorem dX12_init_152 : decode cX12_init 152 = .ok (.bipush 20, 2) := by decide +kernel
theorem dX12_init_154 : decode cX12_init 154 = .ok (.newarray .int, 2) := by decide +kernel
theorem dX12_init_156 : decode cX12_init 156 = .ok (.putfield 63, 3) := by decide +kernel
theorem dX12_init_159 : decode cX12_init 159 = .ok (.aload_n 0, 1) := by decide +kernel
theorem dX12_init_160 : decode cX12_init 160 = .ok (.bipush 20, 2) := by decide +kernel
theorem dX12_init_162 : decode cX12_init 162 = .ok (.newarray .int, 2) := by decide +kernel
theorem dX12_init_164 : decode cX12_init 164 = .ok (.putfield 66, 3) := by decide +kernel
theorem dX12_init_167 : decode cX12_init 167 = .ok (.aload_n 0, 1) := by decide +kernel
theorem dX12_init_168 : decode cX12_init 168 = .ok (.sipush 2010, 3) := by decide +kernel
theorem dX12_init_171 : decode cX12_init 171 = .ok (.newarray .int, 2) := by decide +kernel
theorem dX12_init_173 : decode cX12_init 173 = .ok (.putfield 69, 3) := by decide +kernel
theorem dX12_init_176 : decode cX12_init 176 = .ok (.aload_n 0, 1) := by decide +kernel
theorem dX12_init_177 : decode cX12_init 177 = .ok (.bipush 10, 2) := by decide +kernel
theorem dX12_init_179 : decode cX12_init 179 = .ok (.newarray .int, 2) := by decide +kernel
theorem dX12_init_181 : decode cX12_init 181 = .ok (.putfield 72, 3) := by decide +kernel
theorem dX12_init_184 : decode cX12_init 184 = .ok (.iconst 0, 1) := by decide +kernel
theorem dX12_init_185 : decode cX12_init 185 = .ok (.istore_n 1, 1) := by decide +kernel
theorem dX12_init_186 : decode cX12_init 186 = .ok (.iload_n 1, 1) := by decide +kernel
theorem dX12_init_187 : decode cX12_init 187 = .ok (.bipush 12, 2) := by decide +kernel
theorem dX12_init_189 : decode cX12_init 189 = .ok (.if_icmp .ge 16, 3) := by decide +kernel
theorem dX12_init_192 : decode cX12_init 192 = .ok (.aload_n 0, 1) := by decide +kernel
theorem dX12_init_193 : decode cX12_init 193 = .ok (.getfield 13, 3) := by decide +kernel
theorem dX12_init_196 : decode cX12_init 196 = .ok (.iload_n 1, 1) := by decide +kernel
theorem dX12_init_197 : decode cX12_init 197 = .ok (.iconst (-1), 1) := by decide +kernel
theorem dX12_init_198 : decode cX12_init 198 = .ok (.iastore, 1) := by decide +kernel
theorem dX12_init_199 : decode cX12_init 199 = .ok (.iinc 1 1, 3) := by decide +kernel
theorem dX12_init_202 : decode cX12_init 202 = .ok (.goto (-16), 3) := by decide +kernel
theorem dX12_init_205 : decode cX12_init 205 = .ok (.return_, 1) := by decide +kernel
theorem dX12_thrown_0 : decode cX12_thrown 0 = .ok (.aload_n 0, 1) := by decide +kernel
theorem dX12_thrown_1 : decode cX12_thrown 1 = .ok (.getfield 75, 3) := by decide +kernel
theorem dX12_thrown_4 : decode cX12_thrown 4 = .ok (.ireturn, 1) := by decide +kernel
theorem dX12_isIn_0 : decode cX12_isIn 0 = .ok (.iload_n 0, 1) := by decide +kernel
theorem dX12_isIn_1 : decode cX12_isIn 1 = .ok (.iload_n 1, 1) := by decide +kernel
theorem dX12_isIn_2 : decode cX12_isIn 2 = .ok (.if_icmp .lt 12, 3) := by decide +kernel
theorem dX12_isIn_5 : decode cX12_isIn 5 = .ok (.iload_n 0, 1) := by decide +kernel
theorem dX12_isIn_6 : decode cX12_isIn 6 = .ok (.iload_n 2, 1) := by decide +kernel
theorem dX12_isIn_7 : decode cX12_isIn 7 = .ok (.if_icmp .gt 7, 3) := by decide +kernel
theorem dX12_isIn_10 : decode cX12_isIn 10 = .ok (.iconst 1, 1) := by decide +kernel
theorem dX12_isIn_11 : decode cX12_isIn 11 = .ok (.goto 4, 3) := by decide +kernel
theorem dX12_isIn_14 : decode cX12_isIn 14 = .ok (.iconst 0, 1) := by decide +kernel
theorem dX12_isIn_15 : decode cX12_isIn 15 = .ok (.ireturn, 1) := by decide +kernel
theorem dX12_isSignal_0 : decode cX12_isSignal 0 = .ok (.iload_n 0, 1) := by decide +kernel
theorem dX12_isSignal_1 : decode cX12_isSignal 1 = .ok (.ifCond .lt 13, 3) := by decide +kernel
theorem dX12_isSignal_4 : decode cX12_isSignal 4 = .ok (.iload_n 0, 1) := by decide +kernel
theorem dX12_isSignal_5 : decode cX12_isSignal 5 = .ok (.bipush 12, 2) := by decide +kernel
theorem dX12_isSignal_7 : decode cX12_isSignal 7 = .ok (.if_icmp .ge 7, 3) := by decide +kernel
theorem dX12_isSignal_10 : decode cX12_isSignal 10 = .ok (.iconst 1, 1) := by decide +kernel
theorem dX12_isSignal_11 : decode cX12_isSignal 11 = .ok (.goto 4, 3) := by decide +kernel
theorem dX12_isSignal_14 : decode cX12_isSignal 14 = .ok (.iconst 0, 1) := by decide +kernel
theorem dX12_isSignal_15 : decode cX12_isSignal 15 = .ok (.ireturn, 1) := by decide +kernel
theorem dX12_isState_0 : decode cX12_isState 0 = .ok (.iload_n 0, 1) := by decide +kernel
theorem dX12_isState_1 : decode cX12_isState 1 = .ok (.ifCond .lt 14, 3) := by decide +kernel
theorem dX12_isState_4 : decode cX12_isState 4 = .ok (.iload_n 0, 1) := by decide +kernel
theorem dX12_isState_5 : decode cX12_isState 5 = .ok (.sipush 4096, 3) := by decide +kernel
theorem dX12_isState_8 : decode cX12_isState 8 = .ok (.if_icmp .ge 7, 3) := by decide +kernel
theorem dX12_isState_11 : decode cX12_isState 11 = .ok (.iconst 1, 1) := by decide +kernel
theorem dX12_isState_12 : decode cX12_isState 12 = .ok (.goto 4, 3) := by decide +kernel
theorem dX12_isState_15 : decode cX12_isState 15 = .ok (.iconst 0, 1) := by decide +kernel
theorem dX12_isState_16 : decode cX12_isState 16 = .ok (.ireturn, 1) := by decide +kernel
theorem dX12_bytesIn_0 : decode cX12_bytesIn 0 = .ok (.iconst 0, 1) := by decide +kernel
theorem dX12_bytesIn_1 : decode cX12_bytesIn 1 = .ok (.istore_n 1, 1) := by decide +kernel
theorem dX12_bytesIn_2 : decode cX12_bytesIn 2 = .ok (.bipush 24, 2) := by decide +kernel
theorem dX12_bytesIn_4 : decode cX12_bytesIn 4 = .ok (.istore_n 2, 1) := by decide +kernel
theorem dX12_bytesIn_5 : decode cX12_bytesIn 5 = .ok (.iload_n 2, 1) := by decide +kernel
theorem dX12_bytesIn_6 : decode cX12_bytesIn 6 = .ok (.ifCond .lt 27, 3) := by decide +kernel
theorem dX12_bytesIn_9 : decode cX12_bytesIn 9 = .ok (.iload_n 1, 1) := by decide +kernel
theorem dX12_bytesIn_10 : decode cX12_bytesIn 10 = .ok (.iload_n 0, 1) := by decide +kernel
theorem dX12_bytesIn_11 : decode cX12_bytesIn 11 = .ok (.iload_n 2, 1) := by decide +kernel
theorem dX12_bytesIn_12 : decode cX12_bytesIn 12 = .ok (.ishr, 1) := by decide +kernel
theorem dX12_bytesIn_13 : decode cX12_bytesIn 13 = .ok (.sipush 255, 3) := by decide +kernel
theorem dX12_bytesIn_16 : decode cX12_bytesIn 16 = .ok (.iand, 1) := by decide +kernel
theorem dX12_bytesIn_17 : decode cX12_bytesIn 17 = .ok (.ifCond .eq 7, 3) := by decide +kernel
theorem dX12_bytesIn_20 : decode cX12_bytesIn 20 = .ok (.iconst 1, 1) := by decide +kernel
theorem dX12_bytesIn_21 : decode cX12_bytesIn 21 = .ok (.goto 4, 3) := by decide +kernel
theorem dX12_bytesIn_24 : decode cX12_bytesIn 24 = .ok (.iconst 0, 1) := by decide +kernel
theorem dX12_bytesIn_25 : decode cX12_bytesIn 25 = .ok (.iadd, 1) := by decide +kernel
theorem dX12_bytesIn_26 : decode cX12_bytesIn 26 = .ok (.istore_n 1, 1) := by decide +kernel
theorem dX12_bytesIn_27 : decode cX12_bytesIn 27 = .ok (.iinc 2 (-8), 3) := by decide +kernel
theorem dX12_bytesIn_30 : decode cX12_bytesIn 30 = .ok (.goto (-25), 3) := by decide +kernel
theorem dX12_bytesIn_33 : decode cX12_bytesIn 33 = .ok (.iload_n 1, 1) := by decide +kernel
theorem dX12_bytesIn_34 : decode cX12_bytesIn 34 = .ok (.ireturn, 1) := by decide +kernel
theorem dX12_put_0 : decode cX12_put 0 = .ok (.bipush 24, 2) := by decide +kernel
theorem dX12_put_2 : decode cX12_put 2 = .ok (.istore_n 2, 1) := by decide +kernel
theorem dX12_put_3 : decode cX12_put 3 = .ok (.iload_n 2, 1) := by decide +kernel
theorem dX12_put_4 : decode cX12_put 4 = .ok (.ifCond .lt 45, 3) := by decide +kernel
theorem dX12_put_7 : decode cX12_put 7 = .ok (.iload_n 1, 1) := by decide +kernel
theorem dX12_put_8 : decode cX12_put 8 = .ok (.iload_n 2, 1) := by decide +kernel
theorem dX12_put_9 : decode cX12_put 9 = .ok (.ishr, 1) := by decide +kernel
theorem dX12_put_10 : decode cX12_put 10 = .ok (.sipush 255, 3) := by decide +kernel
theorem dX12_put_13 : decode cX12_put 13 = .ok (.iand, 1) := by decide +kernel
theorem dX12_put_14 : decode cX12_put 14 = .ok (.ifCond .ne 6, 3) := by decide +kernel
theorem dX12_put_17 : decode cX12_put 17 = .ok (.goto 26, 3) := by decide +kernel
theorem dX12_put_20 : decode cX12_put 20 = .ok (.aload_n 0, 1) := by decide +kernel
theorem dX12_put_21 : decode cX12_put 21 = .ok (.getfield 9, 3) := by decide +kernel
theorem dX12_put_24 : decode cX12_put 24 = .ok (.aload_n 0, 1) := by decide +kernel
theorem dX12_put_25 : decode cX12_put 25 = .ok (.getfield 79, 3) := by decide +kernel
theorem dX12_put_28 : decode cX12_put 28 = .ok (.iload_n 1, 1) := by decide +kernel
theorem dX12_put_29 : decode cX12_put 29 = .ok (.iload_n 2, 1) := by decide +kernel
theorem dX12_put_30 : decode cX12_put 30 = .ok (.ishr, 1) := by decide +kernel
theorem dX12_put_31 : decode cX12_put 31 = .ok (.i2b, 1) := by decide +kernel
theorem dX12_put_32 : decode cX12_put 32 = .ok (.bastore, 1) := by decide +kernel
theorem dX12_put_33 : decode cX12_put 33 = .ok (.aload_n 0, 1) := by decide +kernel
theorem dX12_put_34 : decode cX12_put 34 = .ok (.dup, 1) := by decide +kernel
theorem dX12_put_35 : decode cX12_put 35 = .ok (.getfield 79, 3) := by decide +kernel
theorem dX12_put_38 : decode cX12_put 38 = .ok (.iconst 1, 1) := by decide +kernel
theorem dX12_put_39 : decode cX12_put 39 = .ok (.iadd, 1) := by decide +kernel
theorem dX12_put_40 : decode cX12_put 40 = .ok (.putfield 79, 3) := by decide +kernel
theorem dX12_put_43 : decode cX12_put 43 = .ok (.iinc 2 (-8), 3) := by decide +kernel
theorem dX12_put_46 : decode cX12_put 46 = .ok (.goto (-43), 3) := by decide +kernel
theorem dX12_put_49 : decode cX12_put 49 = .ok (.return_, 1) := by decide +kernel
theorem dX12_feed_0 : decode cX12_feed 0 = .ok (.aload_n 0, 1) := by decide +kernel
theorem dX12_feed_1 : decode cX12_feed 1 = .ok (.iconst 0, 1) := by decide +kernel
theorem dX12_feed_2 : decode cX12_feed 2 = .ok (.putfield 75, 3) := by decide +kernel
theorem dX12_feed_5 : decode cX12_feed 5 = .ok (.aload_n 0, 1) := by decide +kernel
theorem dX12_feed_6 : decode cX12_feed 6 = .ok (.getfield 79, 3) := by decide +kernel
theorem dX12_feed_9 : decode cX12_feed 9 = .ok (.iload_n 1, 1) := by decide +kernel
theorem dX12_feed_10 : decode cX12_feed 10 = .ok (.invokestatic 82, 3) := by decide +kernel
theorem dX12_feed_13 : decode cX12_feed 13 = .ok (.iadd, 1) := by decide +kernel
theorem dX12_feed_14 : decode cX12_feed 14 = .ok (.iload_n 2, 1) := by decide +kernel
theorem dX12_feed_15 : decode cX12_feed 15 = .ok (.invokestatic 82, 3) := by decide +kernel
theorem dX12_feed_18 : decode cX12_feed 18 = .ok (.iadd, 1) := by decide +kernel
theorem dX12_feed_19 : decode cX12_feed 19 = .ok (.iload_n 3, 1) := by decide +kernel
theorem dX12_feed_20 : decode cX12_feed 20 = .ok (.invokestatic 82, 3) := by decide +kernel
theorem dX12_feed_23 : decode cX12_feed 23 = .ok (.iadd, 1) := by decide +kernel
theorem dX12_feed_24 : decode cX12_feed 24 = .ok (.iload 4, 2) := by decide +kernel
theorem dX12_feed_26 : decode cX12_feed 26 = .ok (.invokestatic 82, 3) := by decide +kernel
theorem dX12_feed_29 : decode cX12_feed 29 = .ok (.iadd, 1) := by decide +kernel
theorem dX12_feed_30 : decode cX12_feed 30 = .ok (.iload 5, 2) := by decide +kernel
theorem dX12_feed_32 : decode cX12_feed 32 = .ok (.invokestatic 82, 3) := by decide +kernel
theorem dX12_feed_35 : decode cX12_feed 35 = .ok (.iadd, 1) := by decide +kernel
theorem dX12_feed_36 : decode cX12_feed 36 = .ok (.sipush 300, 3) := by decide +kernel
theorem dX12_feed_39 : decode cX12_feed 39 = .ok (.if_icmp .le 5, 3) := by decide +kernel
theorem dX12_feed_42 : decode cX12_feed 42 = .ok (.iconst (-1), 1) := by decide +kernel
theorem dX12_feed_43 : decode cX12_feed 43 = .ok (.ireturn, 1) := by decide +kernel
theorem dX12_feed_44 : decode cX12_feed 44 = .ok (.aload_n 0, 1) := by decide +kernel
theorem dX12_feed_45 : decode cX12_feed 45 = .ok (.iload_n 1, 1) := by decide +kernel
theorem dX12_feed_46 : decode cX12_feed 46 = .ok (.invokevirtual 86, 3) := by decide +kernel
theorem dX12_feed_49 : decode cX12_feed 49 = .ok (.aload_n 0, 1) := by decide +kernel
theorem dX12_feed_50 : decode cX12_feed 50 = .ok (.iload_n 2, 1) := by decide +kernel
theorem dX12_feed_51 : decode cX12_feed 51 = .ok (.invokevirtual 86, 3) := by decide +kernel
theorem dX12_feed_54 : decode cX12_feed 54 = .ok (.aload_n 0, 1) := by decide +kernel
theorem dX12_feed_55 : decode cX12_feed 55 = .ok (.iload_n 3, 1) := by decide +kernel
theorem dX12_feed_56 : decode cX12_feed 56 = .ok (.invokevirtual 86, 3) := by decide +kernel
theorem dX12_feed_59 : decode cX12_feed 59 = .ok (.aload_n 0, 1) := by decide +kernel
theorem dX12_feed_60 : decode cX12_feed 60 = .ok (.iload 4, 2) := by decide +kernel
theorem dX12_feed_62 : decode cX12_feed 62 = .ok (.invokevirtual 86, 3) := by decide +kernel
theorem dX12_feed_65 : decode cX12_feed 65 = .ok (.aload_n 0, 1) := by decide +kernel
theorem dX12_feed_66 : decode cX12_feed 66 = .ok (.iload 5, 2) := by decide +kernel
theorem dX12_feed_68 : decode cX12_feed 68 = .ok (.invokevirtual 86, 3) := by decide +kernel
theorem dX12_feed_71 : decode cX12_feed 71 = .ok (.aload_n 0, 1) := by decide +kernel
theorem dX12_feed_72 : decode cX12_feed 72 = .ok (.getfield 79, 3) := by decide +kernel
theorem dX12_feed_75 : decode cX12_feed 75 = .ok (.ireturn, 1) := by decide +kernel
theorem dX12_end_0 : decode cX12_end 0 = .ok (.aload_n 0, 1) := by decide +kernel
theorem dX12_end_1 : decode cX12_end 1 = .ok (.iconst 0, 1) := by decide +kernel
theorem dX12_end_2 : decode cX12_end 2 = .ok (.putfield 75, 3) := by decide +kernel
theorem dX12_end_5 : decode cX12_end 5 = .ok (.iload_n 1, 1) := by decide +kernel
theorem dX12_end_6 : decode cX12_end 6 = .ok (.ifCond .lt 11, 3) := by decide +kernel
theorem dX12_end_9 : decode cX12_end 9 = .ok (.iload_n 1, 1) := by decide +kernel
theorem dX12_end_10 : decode cX12_end 10 = .ok (.aload_n 0, 1) := by decide +kernel
theorem dX12_end_11 : decode cX12_end 11 = .ok (.getfield 79, 3) := by decide +kernel
theorem dX12_end_14 : decode cX12_end 14 = .ok (.if_icmp .le 5, 3) := by decide +kernel
theorem dX12_end_17 : decode cX12_end 17 = .ok (.iconst 0, 1) := by decide +kernel
theorem dX12_end_18 : decode cX12_end 18 = .ok (.ireturn, 1) := by decide +kernel
theorem dX12_end_19 : decode cX12_end 19 = .ok (.aload_n 0, 1) := by decide +kernel
theorem dX12_end_20 : decode cX12_end 20 = .ok (.iload_n 1, 1) := by decide +kernel
theorem dX12_end_21 : decode cX12_end 21 = .ok (.putfield 79, 3) := by decide +kernel
theorem dX12_end_24 : decode cX12_end 24 = .ok (.iconst 1, 1) := by decide +kernel
theorem dX12_end_25 : decode cX12_end 25 = .ok (.ireturn, 1) := by decide +kernel
theorem dX12_look_0 : decode cX12_look 0 = .ok (.aload_n 0, 1) := by decide +kernel
theorem dX12_look_1 : decode cX12_look 1 = .ok (.getfield 90, 3) := by decide +kernel
theorem dX12_look_4 : decode cX12_look 4 = .ok (.aload_n 0, 1) := by decide +kernel
theorem dX12_look_5 : decode cX12_look 5 = .ok (.getfield 79, 3) := by decide +kernel
theorem dX12_look_8 : decode cX12_look 8 = .ok (.if_icmp .ge 30, 3) := by decide +kernel
theorem dX12_look_11 : decode cX12_look 11 = .ok (.aload_n 0, 1) := by decide +kernel
theorem dX12_look_12 : decode cX12_look 12 = .ok (.getfield 9, 3) := by decide +kernel
theorem dX12_look_15 : decode cX12_look 15 = .ok (.aload_n 0, 1) := by decide +kernel
theorem dX12_look_16 : decode cX12_look 16 = .ok (.getfield 90, 3) := by decide +kernel
theorem dX12_look_19 : decode cX12_look 19 = .ok (.baload, 1) := by decide +kernel
theorem dX12_look_20 : decode cX12_look 20 = .ok (.bipush 32, 2) := by decide +kernel
theorem dX12_look_22 : decode cX12_look 22 = .ok (.if_icmp .ne 16, 3) := by decide +kernel
theorem dX12_look_25 : decode cX12_look 25 = .ok (.aload_n 0, 1) := by decide +kernel
theorem dX12_look_26 : decode cX12_look 26 = .ok (.dup, 1) := by decide +kernel
theorem dX12_look_27 : decode cX12_look 27 = .ok (.getfield 90, 3) := by decide +kernel
theorem dX12_look_30 : decode cX12_look 30 = .ok (.iconst 1, 1) := by decide +kernel
theorem dX12_look_31 : decode cX12_look 31 = .ok (.iadd, 1) := by decide +kernel
theorem dX12_look_32 : decode cX12_look 32 = .ok (.putfield 90, 3) := by decide +kernel
theorem dX12_look_35 : decode cX12_look 35 = .ok (.goto (-35), 3) := by decide +kernel
theorem dX12_look_38 : decode cX12_look 38 = .ok (.aload_n 0, 1) := by decide +kernel
theorem dX12_look_39 : decode cX12_look 39 = .ok (.getfield 90, 3) := by decide +kernel
theorem dX12_look_42 : decode cX12_look 42 = .ok (.aload_n 0, 1) := by decide +kernel
theorem dX12_look_43 : decode cX12_look 43 = .ok (.getfield 79, 3) := by decide +kernel
theorem dX12_look_46 : decode cX12_look 46 = .ok (.if_icmp .ge 19, 3) := by decide +kernel
theorem dX12_look_49 : decode cX12_look 49 = .ok (.aload_n 0, 1) := by decide +kernel
theorem dX12_look_50 : decode cX12_look 50 = .ok (.getfield 9, 3) := by decide +kernel
theorem dX12_look_53 : decode cX12_look 53 = .ok (.aload_n 0, 1) := by decide +kernel
theorem dX12_look_54 : decode cX12_look 54 = .ok (.getfield 90, 3) := by decide +kernel
theorem dX12_look_57 : decode cX12_look 57 = .ok (.baload, 1) := by decide +kernel
theorem dX12_look_58 : decode cX12_look 58 = .ok (.sipush 255, 3) := by decide +kernel
theorem dX12_look_61 : decode cX12_look 61 = .ok (.iand, 1) := by decide +kernel
theorem dX12_look_62 : decode cX12_look 62 = .ok (.goto 4, 3) := by decide +kernel
theorem dX12_look_65 : decode cX12_look 65 = .ok (.iconst (-1), 1) := by decide +kernel
theorem dX12_look_66 : decode cX12_look 66 = .ok (.ireturn, 1) := by decide +kernel
theorem dX12_isLetter_0 : decode cX12_isLetter 0 = .ok (.iload_n 0, 1) := by decide +kernel
theorem dX12_isLetter_1 : decode cX12_isLetter 1 = .ok (.bipush 97, 2) := by decide +kernel
theorem dX12_isLetter_3 : decode cX12_isLetter 3 = .ok (.if_icmp .lt 13, 3) := by decide +kernel
theorem dX12_isLetter_6 : decode cX12_isLetter 6 = .ok (.iload_n 0, 1) := by decide +kernel
theorem dX12_isLetter_7 : decode cX12_isLetter 7 = .ok (.bipush 109, 2) := by decide +kernel
theorem dX12_isLetter_9 : decode cX12_isLetter 9 = .ok (.if_icmp .ge 7, 3) := by decide +kernel
theorem dX12_isLetter_12 : decode cX12_isLetter 12 = .ok (.iconst 1, 1) := by decide +kernel
theorem dX12_isLetter_13 : decode cX12_isLetter 13 = .ok (.goto 4, 3) := by decide +kernel
theorem dX12_isLetter_16 : decode cX12_isLetter 16 = .ok (.iconst 0, 1) := by decide +kernel
theorem dX12_isLetter_17 : decode cX12_isLetter 17 = .ok (.ireturn, 1) := by decide +kernel
theorem dX12_read_0 : decode cX12_read 0 = .ok (.aload_n 0, 1) := by decide +kernel
theorem dX12_read_1 : decode cX12_read 1 = .ok (.iconst 0, 1) := by decide +kernel
theorem dX12_read_2 : decode cX12_read 2 = .ok (.putfield 90, 3) := by decide +kernel
theorem dX12_read_5 : decode cX12_read 5 = .ok (.iconst 0, 1) := by decide +kernel
theorem dX12_read_6 : decode cX12_read 6 = .ok (.istore_n 1, 1) := by decide +kernel
theorem dX12_read_7 : decode cX12_read 7 = .ok (.iload_n 1, 1) := by decide +kernel
theorem dX12_read_8 : decode cX12_read 8 = .ok (.bipush 12, 2) := by decide +kernel
theorem dX12_read_10 : decode cX12_read 10 = .ok (.if_icmp .ge 16, 3) := by decide +kernel
theorem dX12_read_13 : decode cX12_read 13 = .ok (.aload_n 0, 1) := by decide +kernel
theorem dX12_read_14 : decode cX12_read 14 = .ok (.getfield 23, 3) := by decide +kernel
theorem dX12_read_17 : decode cX12_read 17 = .ok (.iload_n 1, 1) := by decide +kernel
theorem dX12_read_18 : decode cX12_read 18 = .ok (.iconst (-1), 1) := by decide +kernel
theorem dX12_read_19 : decode cX12_read 19 = .ok (.iastore, 1) := by decide +kernel
theorem dX12_read_20 : decode cX12_read 20 = .ok (.iinc 1 1, 3) := by decide +kernel
theorem dX12_read_23 : decode cX12_read 23 = .ok (.goto (-16), 3) := by decide +kernel
theorem dX12_read_26 : decode cX12_read 26 = .ok (.aload_n 0, 1) := by decide +kernel
theorem dX12_read_27 : decode cX12_read 27 = .ok (.invokevirtual 93, 3) := by decide +kernel
theorem dX12_read_30 : decode cX12_read 30 = .ok (.iconst (-1), 1) := by decide +kernel
theorem dX12_read_31 : decode cX12_read 31 = .ok (.if_icmp .ne 5, 3) := by decide +kernel
theorem dX12_read_34 : decode cX12_read 34 = .ok (.iconst (-1), 1) := by decide +kernel
theorem dX12_read_35 : decode cX12_read 35 = .ok (.ireturn, 1) := by decide +kernel
theorem dX12_read_36 : decode cX12_read 36 = .ok (.aload_n 0, 1) := by decide +kernel
theorem dX12_read_37 : decode cX12_read 37 = .ok (.invokevirtual 97, 3) := by decide +kernel
theorem dX12_read_40 : decode cX12_read 40 = .ok (.ifCond .ne 8, 3) := by decide +kernel
theorem dX12_read_43 : decode cX12_read 43 = .ok (.aload_n 0, 1) := by decide +kernel
theorem dX12_read_44 : decode cX12_read 44 = .ok (.getfield 90, 3) := by decide +kernel
theorem dX12_read_47 : decode cX12_read 47 = .ok (.ireturn, 1) := by decide +kernel
theorem dX12_read_48 : decode cX12_read 48 = .ok (.aload_n 0, 1) := by decide +kernel
theorem dX12_read_49 : decode cX12_read 49 = .ok (.invokevirtual 93, 3) := by decide +kernel
theorem dX12_read_52 : decode cX12_read 52 = .ok (.bipush 59, 2) := by decide +kernel
theorem dX12_read_54 : decode cX12_read 54 = .ok (.if_icmp .ne 25, 3) := by decide +kernel
theorem dX12_read_57 : decode cX12_read 57 = .ok (.aload_n 0, 1) := by decide +kernel
theorem dX12_read_58 : decode cX12_read 58 = .ok (.dup, 1) := by decide +kernel
theorem dX12_read_59 : decode cX12_read 59 = .ok (.getfield 90, 3) := by decide +kernel
theorem dX12_read_62 : decode cX12_read 62 = .ok (.iconst 1, 1) := by decide +kernel
theorem dX12_read_63 : decode cX12_read 63 = .ok (.iadd, 1) := by decide +kernel
theorem dX12_read_64 : decode cX12_read 64 = .ok (.putfield 90, 3) := by decide +kernel
theorem dX12_read_67 : decode cX12_read 67 = .ok (.aload_n 0, 1) := by decide +kernel
theorem dX12_read_68 : decode cX12_read 68 = .ok (.invokevirtual 97, 3) := by decide +kernel
theorem dX12_read_71 : decode cX12_read 71 = .ok (.ifCond .ne (-23), 3) := by decide +kernel
theorem dX12_read_74 : decode cX12_read 74 = .ok (.aload_n 0, 1) := by decide +kernel
theorem dX12_read_75 : decode cX12_read 75 = .ok (.getfield 90, 3) := by decide +kernel
theorem dX12_read_78 : decode cX12_read 78 = .ok (.ireturn, 1) := by decide +kernel
theorem dX12_read_79 : decode cX12_read 79 = .ok (.aload_n 0, 1) := by decide +kernel
theorem dX12_read_80 : decode cX12_read 80 = .ok (.invokevirtual 93, 3) := by decide +kernel
theorem dX12_read_83 : decode cX12_read 83 = .ok (.iconst (-1), 1) := by decide +kernel
theorem dX12_read_84 : decode cX12_read 84 = .ok (.if_icmp .ne 7, 3) := by decide +kernel
theorem dX12_read_87 : decode cX12_read 87 = .ok (.iconst (-1), 1) := by decide +kernel
theorem dX12_read_88 : decode cX12_read 88 = .ok (.goto 7, 3) := by decide +kernel
theorem dX12_read_91 : decode cX12_read 91 = .ok (.aload_n 0, 1) := by decide +kernel
theorem dX12_read_92 : decode cX12_read 92 = .ok (.getfield 90, 3) := by decide +kernel
theorem dX12_read_95 : decode cX12_read 95 = .ok (.ireturn, 1) := by decide +kernel
theorem dX12_equation_0 : decode cX12_equation 0 = .ok (.aload_n 0, 1) := by decide +kernel
theorem dX12_equation_1 : decode cX12_equation 1 = .ok (.invokevirtual 93, 3) := by decide +kernel
theorem dX12_equation_4 : decode cX12_equation 4 = .ok (.istore_n 1, 1) := by decide +kernel
theorem dX12_equation_5 : decode cX12_equation 5 = .ok (.iload_n 1, 1) := by decide +kernel
theorem dX12_equation_6 : decode cX12_equation 6 = .ok (.invokestatic 101, 3) := by decide +kernel
theorem dX12_equation_9 : decode cX12_equation 9 = .ok (.ifCond .eq 16, 3) := by decide +kernel
theorem dX12_equation_12 : decode cX12_equation 12 = .ok (.aload_n 0, 1) := by decide +kernel
theorem dX12_equation_13 : decode cX12_equation 13 = .ok (.getfield 23, 3) := by decide +kernel
theorem dX12_equation_16 : decode cX12_equation 16 = .ok (.iload_n 1, 1) := by decide +kernel
theorem dX12_equation_17 : decode cX12_equation 17 = .ok (.bipush 97, 2) := by decide +kernel
theorem dX12_equation_19 : decode cX12_equation 19 = .ok (.isub, 1) := by decide +kernel
theorem dX12_equation_20 : decode cX12_equation 20 = .ok (.iaload, 1) := by decide +kernel
theorem dX12_equation_21 : decode cX12_equation 21 = .ok (.iconst (-1), 1) := by decide +kernel
theorem dX12_equation_22 : decode cX12_equation 22 = .ok (.if_icmp .eq 5, 3) := by decide +kernel
theorem dX12_equation_25 : decode cX12_equation 25 = .ok (.iconst 0, 1) := by decide +kernel
theorem dX12_equation_26 : decode cX12_equation 26 = .ok (.ireturn, 1) := by decide +kernel
theorem dX12_equation_27 : decode cX12_equation 27 = .ok (.iload_n 1, 1) := by decide +kernel
theorem dX12_equation_28 : decode cX12_equation 28 = .ok (.bipush 97, 2) := by decide +kernel
theorem dX12_equation_30 : decode cX12_equation 30 = .ok (.isub, 1) := by decide +kernel
theorem dX12_equation_31 : decode cX12_equation 31 = .ok (.istore_n 2, 1) := by decide +kernel
theorem dX12_equation_32 : decode cX12_equation 32 = .ok (.aload_n 0, 1) := by decide +kernel
theorem dX12_equation_33 : decode cX12_equation 33 = .ok (.dup, 1) := by decide +kernel
theorem dX12_equation_34 : decode cX12_equation 34 = .ok (.getfield 90, 3) := by decide +kernel
theorem dX12_equation_37 : decode cX12_equation 37 = .ok (.iconst 1, 1) := by decide +kernel
theorem dX12_equation_38 : decode cX12_equation 38 = .ok (.iadd, 1) := by decide +kernel
theorem dX12_equation_39 : decode cX12_equation 39 = .ok (.putfield 90, 3) := by decide +kernel
theorem dX12_equation_42 : decode cX12_equation 42 = .ok (.aload_n 0, 1) := by decide +kernel
theorem dX12_equation_43 : decode cX12_equation 43 = .ok (.invokevirtual 93, 3) := by decide +kernel
theorem dX12_equation_46 : decode cX12_equation 46 = .ok (.bipush 61, 2) := by decide +kernel
theorem dX12_equation_48 : decode cX12_equation 48 = .ok (.if_icmp .eq 5, 3) := by decide +kernel
theorem dX12_equation_51 : decode cX12_equation 51 = .ok (.iconst 0, 1) := by decide +kernel
theorem dX12_equation_52 : decode cX12_equation 52 = .ok (.ireturn, 1) := by decide +kernel
theorem dX12_equation_53 : decode cX12_equation 53 = .ok (.aload_n 0, 1) := by decide +kernel
theorem dX12_equation_54 : decode cX12_equation 54 = .ok (.dup, 1) := by decide +kernel
theorem dX12_equation_55 : decode cX12_equation 55 = .ok (.getfield 90, 3) := by decide +kernel
theorem dX12_equation_58 : decode cX12_equation 58 = .ok (.iconst 1, 1) := by decide +kernel
theorem dX12_equation_59 : decode cX12_equation 59 = .ok (.iadd, 1) := by decide +kernel
theorem dX12_equation_60 : decode cX12_equation 60 = .ok (.putfield 90, 3) := by decide +kernel
theorem dX12_equation_63 : decode cX12_equation 63 = .ok (.aload_n 0, 1) := by decide +kernel
theorem dX12_equation_64 : decode cX12_equation 64 = .ok (.getfield 23, 3) := by decide +kernel
theorem dX12_equation_67 : decode cX12_equation 67 = .ok (.iload_n 2, 1) := by decide +kernel
theorem dX12_equation_68 : decode cX12_equation 68 = .ok (.iconst 0, 1) := by decide +kernel
theorem dX12_equation_69 : decode cX12_equation 69 = .ok (.iastore, 1) := by decide +kernel
theorem dX12_equation_70 : decode cX12_equation 70 = .ok (.aload_n 0, 1) := by decide +kernel
theorem dX12_equation_71 : decode cX12_equation 71 = .ok (.invokevirtual 93, 3) := by decide +kernel
theorem dX12_equation_74 : decode cX12_equation 74 = .ok (.istore_n 1, 1) := by decide +kernel
theorem dX12_equation_75 : decode cX12_equation 75 = .ok (.iload_n 1, 1) := by decide +kernel
theorem dX12_equation_76 : decode cX12_equation 76 = .ok (.bipush 48, 2) := by decide +kernel
theorem dX12_equation_78 : decode cX12_equation 78 = .ok (.if_icmp .eq 9, 3) := by decide +kernel
theorem dX12_equation_81 : decode cX12_equation 81 = .ok (.iload_n 1, 1) := by decide +kernel
theorem dX12_equation_82 : decode cX12_equation 82 = .ok (.bipush 49, 2) := by decide +kernel
theorem dX12_equation_84 : decode cX12_equation 84 = .ok (.if_icmp .ne 62, 3) := by decide +kernel
theorem dX12_equation_87 : decode cX12_equation 87 = .ok (.aload_n 0, 1) := by decide +kernel
theorem dX12_equation_88 : decode cX12_equation 88 = .ok (.dup, 1) := by decide +kernel
theorem dX12_equation_89 : decode cX12_equation 89 = .ok (.getfield 90, 3) := by decide +kernel
theorem dX12_equation_92 : decode cX12_equation 92 = .ok (.iconst 1, 1) := by decide +kernel
theorem dX12_equation_93 : decode cX12_equation 93 = .ok (.iadd, 1) := by decide +kernel
theorem dX12_equation_94 : decode cX12_equation 94 = .ok (.putfield 90, 3) := by decide +kernel
theorem dX12_equation_97 : decode cX12_equation 97 = .ok (.aload_n 0, 1) := by decide +kernel
theorem dX12_equation_98 : decode cX12_equation 98 = .ok (.getfield 26, 3) := by decide +kernel
theorem dX12_equation_101 : decode cX12_equation 101 = .ok (.bipush 12, 2) := by decide +kernel
theorem dX12_equation_103 : decode cX12_equation 103 = .ok (.iload_n 2, 1) := by decide +kernel
theorem dX12_equation_104 : decode cX12_equation 104 = .ok (.imul, 1) := by decide +kernel
theorem dX12_equation_105 : decode cX12_equation 105 = .ok (.iload_n 1, 1) := by decide +kernel
theorem dX12_equation_106 : decode cX12_equation 106 = .ok (.bipush 48, 2) := by decide +kernel
theorem dX12_equation_108 : decode cX12_equation 108 = .ok (.if_icmp .ne 7, 3) := by decide +kernel
theorem dX12_equation_111 : decode cX12_equation 111 = .ok (.iconst 1, 1) := by decide +kernel
theorem dX12_equation_112 : decode cX12_equation 112 = .ok (.goto 4, 3) := by decide +kernel
theorem dX12_equation_115 : decode cX12_equation 115 = .ok (.iconst 0, 1) := by decide +kernel
theorem dX12_equation_116 : decode cX12_equation 116 = .ok (.iastore, 1) := by decide +kernel
theorem dX12_equation_117 : decode cX12_equation 117 = .ok (.aload_n 0, 1) := by decide +kernel
theorem dX12_equation_118 : decode cX12_equation 118 = .ok (.getfield 29, 3) := by decide +kernel
theorem dX12_equation_121 : decode cX12_equation 121 = .ok (.bipush 12, 2) := by decide +kernel
theorem dX12_equation_123 : decode cX12_equation 123 = .ok (.iload_n 2, 1) := by decide +kernel
theorem dX12_equation_124 : decode cX12_equation 124 = .ok (.imul, 1) := by decide +kernel
theorem dX12_equation_125 : decode cX12_equation 125 = .ok (.iload_n 1, 1) := by decide +kernel
theorem dX12_equation_126 : decode cX12_equation 126 = .ok (.bipush 48, 2) := by decide +kernel
theorem dX12_equation_128 : decode cX12_equation 128 = .ok (.if_icmp .ne 7, 3) := by decide +kernel
theorem dX12_equation_131 : decode cX12_equation 131 = .ok (.iconst 1, 1) := by decide +kernel
theorem dX12_equation_132 : decode cX12_equation 132 = .ok (.goto 4, 3) := by decide +kernel
theorem dX12_equation_135 : decode cX12_equation 135 = .ok (.iconst 0, 1) := by decide +kernel
theorem dX12_equation_136 : decode cX12_equation 136 = .ok (.iastore, 1) := by decide +kernel
theorem dX12_equation_137 : decode cX12_equation 137 = .ok (.aload_n 0, 1) := by decide +kernel
theorem dX12_equation_138 : decode cX12_equation 138 = .ok (.getfield 23, 3) := by decide +kernel
theorem dX12_equation_141 : decode cX12_equation 141 = .ok (.iload_n 2, 1) := by decide +kernel
theorem dX12_equation_142 : decode cX12_equation 142 = .ok (.iconst 1, 1) := by decide +kernel
theorem dX12_equation_143 : decode cX12_equation 143 = .ok (.iastore, 1) := by decide +kernel
theorem dX12_equation_144 : decode cX12_equation 144 = .ok (.iconst 1, 1) := by decide +kernel
theorem dX12_equation_145 : decode cX12_equation 145 = .ok (.ireturn, 1) := by decide +kernel
theorem dX12_equation_146 : decode cX12_equation 146 = .ok (.aload_n 0, 1) := by decide +kernel
theorem dX12_equation_147 : decode cX12_equation 147 = .ok (.iload_n 2, 1) := by decide +kernel
theorem dX12_equation_148 : decode cX12_equation 148 = .ok (.invokevirtual 105, 3) := by decide +kernel
theorem dX12_equation_151 : decode cX12_equation 151 = .ok (.ifCond .ne 5, 3) := by decide +kernel
theorem dX12_equation_154 : decode cX12_equation 154 = .ok (.iconst 0, 1) := by decide +kernel
theorem dX12_equation_155 : decode cX12_equation 155 = .ok (.ireturn, 1) := by decide +kernel
theorem dX12_equation_156 : decode cX12_equation 156 = .ok (.aload_n 0, 1) := by decide +kernel
theorem dX12_equation_157 : decode cX12_equation 157 = .ok (.invokevirtual 93, 3) := by decide +kernel
theorem dX12_equation_160 : decode cX12_equation 160 = .ok (.bipush 43, 2) := by decide +kernel
theorem dX12_equation_162 : decode cX12_equation 162 = .ok (.if_icmp .ne 23, 3) := by decide +kernel
theorem dX12_equation_165 : decode cX12_equation 165 = .ok (.aload_n 0, 1) := by decide +kernel
theorem dX12_equation_166 : decode cX12_equation 166 = .ok (.dup, 1) := by decide +kernel
theorem dX12_equation_167 : decode cX12_equation 167 = .ok (.getfield 90, 3) := by decide +kernel
theorem dX12_equation_170 : decode cX12_equation 170 = .ok (.iconst 1, 1) := by decide +kernel
theorem dX12_equation_171 : decode cX12_equation 171 = .ok (.iadd, 1) := by decide +kernel
theorem dX12_equation_172 : decode cX12_equation 172 = .ok (.putfield 90, 3) := by decide +kernel
theorem dX12_equation_175 : decode cX12_equation 175 = .ok (.aload_n 0, 1) := by decide +kernel
theorem dX12_equation_176 : decode cX12_equation 176 = .ok (.iload_n 2, 1) := by decide +kernel
theorem dX12_equation_177 : decode cX12_equation 177 = .ok (.invokevirtual 105, 3) := by decide +kernel
theorem dX12_equation_180 : decode cX12_equation 180 = .ok (.ifCond .ne (-24), 3) := by decide +kernel
theorem dX12_equation_183 : decode cX12_equation 183 = .ok (.iconst 0, 1) := by decide +kernel
theorem dX12_equation_184 : decode cX12_equation 184 = .ok (.ireturn, 1) := by decide +kernel
theorem dX12_equation_185 : decode cX12_equation 185 = .ok (.iconst 1, 1) := by decide +kernel
theorem dX12_equation_186 : decode cX12_equation 186 = .ok (.ireturn, 1) := by decide +kernel
theorem dX12_term_0 : decode cX12_term 0 = .ok (.aload_n 0, 1) := by decide +kernel
theorem dX12_term_1 : decode cX12_term 1 = .ok (.invokevirtual 93, 3) := by decide +kernel
theorem dX12_term_4 : decode cX12_term 4 = .ok (.invokestatic 101, 3) := by decide +kernel
theorem dX12_term_7 : decode cX12_term 7 = .ok (.ifCond .eq 14, 3) := by decide +kernel
theorem dX12_term_10 : decode cX12_term 10 = .ok (.aload_n 0, 1) := by decide +kernel
theorem dX12_term_11 : decode cX12_term 11 = .ok (.getfield 23, 3) := by decide +kernel
theorem dX12_term_14 : decode cX12_term 14 = .ok (.iload_n 1, 1) := by decide +kernel
theorem dX12_term_15 : decode cX12_term 15 = .ok (.iaload, 1) := by decide +kernel
theorem dX12_term_16 : decode cX12_term 16 = .ok (.bipush 12, 2) := by decide +kernel
theorem dX12_term_18 : decode cX12_term 18 = .ok (.if_icmp .ne 5, 3) := by decide +kernel
theorem dX12_term_21 : decode cX12_term 21 = .ok (.iconst 0, 1) := by decide +kernel
theorem dX12_term_22 : decode cX12_term 22 = .ok (.ireturn, 1) := by decide +kernel
theorem dX12_term_23 : decode cX12_term 23 = .ok (.bipush 12, 2) := by decide +kernel
theorem dX12_term_25 : decode cX12_term 25 = .ok (.iload_n 1, 1) := by decide +kernel
theorem dX12_term_26 : decode cX12_term 26 = .ok (.imul, 1) := by decide +kernel
theorem dX12_term_27 : decode cX12_term 27 = .ok (.aload_n 0, 1) := by decide +kernel
theorem dX12_term_28 : decode cX12_term 28 = .ok (.getfield 23, 3) := by decide +kernel
theorem dX12_term_31 : decode cX12_term 31 = .ok (.iload_n 1, 1) := by decide +kernel
theorem dX12_term_32 : decode cX12_term 32 = .ok (.iaload, 1) := by decide +kernel
theorem dX12_term_33 : decode cX12_term 33 = .ok (.iadd, 1) := by decide +kernel
theorem dX12_term_34 : decode cX12_term 34 = .ok (.istore_n 2, 1) := by decide +kernel
theorem dX12_term_35 : decode cX12_term 35 = .ok (.aload_n 0, 1) := by decide +kernel
theorem dX12_term_36 : decode cX12_term 36 = .ok (.getfield 26, 3) := by decide +kernel
theorem dX12_term_39 : decode cX12_term 39 = .ok (.iload_n 2, 1) := by decide +kernel
theorem dX12_term_40 : decode cX12_term 40 = .ok (.iconst 0, 1) := by decide +kernel
theorem dX12_term_41 : decode cX12_term 41 = .ok (.iastore, 1) := by decide +kernel
theorem dX12_term_42 : decode cX12_term 42 = .ok (.aload_n 0, 1) := by decide +kernel
theorem dX12_term_43 : decode cX12_term 43 = .ok (.getfield 29, 3) := by decide +kernel
theorem dX12_term_46 : decode cX12_term 46 = .ok (.iload_n 2, 1) := by decide +kernel
theorem dX12_term_47 : decode cX12_term 47 = .ok (.iconst 0, 1) := by decide +kernel
theorem dX12_term_48 : decode cX12_term 48 = .ok (.iastore, 1) := by decide +kernel
theorem dX12_term_49 : decode cX12_term 49 = .ok (.aload_n 0, 1) := by decide +kernel
theorem dX12_term_50 : decode cX12_term 50 = .ok (.getfield 23, 3) := by decide +kernel
theorem dX12_term_53 : decode cX12_term 53 = .ok (.iload_n 1, 1) := by decide +kernel
theorem dX12_term_54 : decode cX12_term 54 = .ok (.dup2, 1) := by decide +kernel
theorem dX12_term_55 : decode cX12_term 55 = .ok (.iaload, 1) := by decide +kernel
theorem dX12_term_56 : decode cX12_term 56 = .ok (.iconst 1, 1) := by decide +kernel
theorem dX12_term_57 : decode cX12_term 57 = .ok (.iadd, 1) := by decide +kernel
theorem dX12_term_58 : decode cX12_term 58 = .ok (.iastore, 1) := by decide +kernel
theorem dX12_term_59 : decode cX12_term 59 = .ok (.iconst 0, 1) := by decide +kernel
theorem dX12_term_60 : decode cX12_term 60 = .ok (.istore_n 3, 1) := by decide +kernel
theorem dX12_term_61 : decode cX12_term 61 = .ok (.aload_n 0, 1) := by decide +kernel
theorem dX12_term_62 : decode cX12_term 62 = .ok (.invokevirtual 93, 3) := by decide +kernel
theorem dX12_term_65 : decode cX12_term 65 = .ok (.invokestatic 101, 3) := by decide +kernel
theorem dX12_term_68 : decode cX12_term 68 = .ok (.ifCond .eq 87, 3) := by decide +kernel
theorem dX12_term_71 : decode cX12_term 71 = .ok (.iload_n 3, 1) := by decide +kernel
theorem dX12_term_72 : decode cX12_term 72 = .ok (.bipush 8, 2) := by decide +kernel
theorem dX12_term_74 : decode cX12_term 74 = .ok (.if_icmp .ne 5, 3) := by decide +kernel
theorem dX12_term_77 : decode cX12_term 77 = .ok (.iconst 0, 1) := by decide +kernel
theorem dX12_term_78 : decode cX12_term 78 = .ok (.ireturn, 1) := by decide +kernel
theorem dX12_term_79 : decode cX12_term 79 = .ok (.iinc 3 1, 3) := by decide +kernel
theorem dX12_term_82 : decode cX12_term 82 = .ok (.iconst 1, 1) := by decide +kernel
theorem dX12_term_83 : decode cX12_term 83 = .ok (.aload_n 0, 1) := by decide +kernel
theorem dX12_term_84 : decode cX12_term 84 = .ok (.getfield 9, 3) := by decide +kernel
theorem dX12_term_87 : decode cX12_term 87 = .ok (.aload_n 0, 1) := by decide +kernel
theorem dX12_term_88 : decode cX12_term 88 = .ok (.getfield 90, 3) := by decide +kernel
theorem dX12_term_91 : decode cX12_term 91 = .ok (.baload, 1) := by decide +kernel
theorem dX12_term_92 : decode cX12_term 92 = .ok (.bipush 97, 2) := by decide +kernel
theorem dX12_term_94 : decode cX12_term 94 = .ok (.isub, 1) := by decide +kernel
theorem dX12_term_95 : decode cX12_term 95 = .ok (.ishl, 1) := by decide +kernel
theorem dX12_term_96 : decode cX12_term 96 = .ok (.istore 4, 2) := by decide +kernel
theorem dX12_term_98 : decode cX12_term 98 = .ok (.aload_n 0, 1) := by decide +kernel
theorem dX12_term_99 : decode cX12_term 99 = .ok (.dup, 1) := by decide +kernel
theorem dX12_term_100 : decode cX12_term 100 = .ok (.getfield 90, 3) := by decide +kernel
theorem dX12_term_103 : decode cX12_term 103 = .ok (.iconst 1, 1) := by decide +kernel
theorem dX12_term_104 : decode cX12_term 104 = .ok (.iadd, 1) := by decide +kernel
theorem dX12_term_105 : decode cX12_term 105 = .ok (.putfield 90, 3) := by decide +kernel
theorem dX12_term_108 : decode cX12_term 108 = .ok (.aload_n 0, 1) := by decide +kernel
theorem dX12_term_109 : decode cX12_term 109 = .ok (.invokevirtual 93, 3) := by decide +kernel
theorem dX12_term_112 : decode cX12_term 112 = .ok (.bipush 39, 2) := by decide +kernel
theorem dX12_term_114 : decode cX12_term 114 = .ok (.if_icmp .ne 27, 3) := by decide +kernel
theorem dX12_term_117 : decode cX12_term 117 = .ok (.aload_n 0, 1) := by decide +kernel
theorem dX12_term_118 : decode cX12_term 118 = .ok (.dup, 1) := by decide +kernel
theorem dX12_term_119 : decode cX12_term 119 = .ok (.getfield 90, 3) := by decide +kernel
theorem dX12_term_122 : decode cX12_term 122 = .ok (.iconst 1, 1) := by decide +kernel
theorem dX12_term_123 : decode cX12_term 123 = .ok (.iadd, 1) := by decide +kernel
theorem dX12_term_124 : decode cX12_term 124 = .ok (.putfield 90, 3) := by decide +kernel
theorem dX12_term_127 : decode cX12_term 127 = .ok (.aload_n 0, 1) := by decide +kernel
theorem dX12_term_128 : decode cX12_term 128 = .ok (.getfield 29, 3) := by decide +kernel
theorem dX12_term_131 : decode cX12_term 131 = .ok (.iload_n 2, 1) := by decide +kernel
theorem dX12_term_132 : decode cX12_term 132 = .ok (.dup2, 1) := by decide +kernel
theorem dX12_term_133 : decode cX12_term 133 = .ok (.iaload, 1) := by decide +kernel
theorem dX12_term_134 : decode cX12_term 134 = .ok (.iload 4, 2) := by decide +kernel
theorem dX12_term_136 : decode cX12_term 136 = .ok (.ior, 1) := by decide +kernel
theorem dX12_term_137 : decode cX12_term 137 = .ok (.iastore, 1) := by decide +kernel
theorem dX12_term_138 : decode cX12_term 138 = .ok (.goto 14, 3) := by decide +kernel
theorem dX12_term_141 : decode cX12_term 141 = .ok (.aload_n 0, 1) := by decide +kernel
theorem dX12_term_142 : decode cX12_term 142 = .ok (.getfield 26, 3) := by decide +kernel
theorem dX12_term_145 : decode cX12_term 145 = .ok (.iload_n 2, 1) := by decide +kernel
theorem dX12_term_146 : decode cX12_term 146 = .ok (.dup2, 1) := by decide +kernel
theorem dX12_term_147 : decode cX12_term 147 = .ok (.iaload, 1) := by decide +kernel
theorem dX12_term_148 : decode cX12_term 148 = .ok (.iload 4, 2) := by decide +kernel
theorem dX12_term_150 : decode cX12_term 150 = .ok (.ior, 1) := by decide +kernel
theorem dX12_term_151 : decode cX12_term 151 = .ok (.iastore, 1) := by decide +kernel
theorem dX12_term_152 : decode cX12_term 152 = .ok (.goto (-91), 3) := by decide +kernel
theorem dX12_term_155 : decode cX12_term 155 = .ok (.iconst 1, 1) := by decide +kernel
theorem dX12_term_156 : decode cX12_term 156 = .ok (.ireturn, 1) := by decide +kernel
theorem dX12_fault_0 : decode cX12_fault 0 = .ok (.aload_n 0, 1) := by decide +kernel
theorem dX12_fault_1 : decode cX12_fault 1 = .ok (.iconst 0, 1) := by decide +kernel
theorem dX12_fault_2 : decode cX12_fault 2 = .ok (.putfield 75, 3) := by decide +kernel
theorem dX12_fault_5 : decode cX12_fault 5 = .ok (.aload_n 0, 1) := by decide +kernel
theorem dX12_fault_6 : decode cX12_fault 6 = .ok (.invokevirtual 108, 3) := by decide +kernel
theorem dX12_fault_9 : decode cX12_fault 9 = .ok (.ireturn, 1) := by decide +kernel
theorem dX12_circuit_0 : decode cX12_circuit 0 = .ok (.aload_n 0, 1) := by decide +kernel
theorem dX12_circuit_1 : decode cX12_circuit 1 = .ok (.iconst 0, 1) := by decide +kernel
theorem dX12_circuit_2 : decode cX12_circuit 2 = .ok (.putfield 75, 3) := by decide +kernel
theorem dX12_circuit_5 : decode cX12_circuit 5 = .ok (.iload_n 1, 1) := by decide +kernel
theorem dX12_circuit_6 : decode cX12_circuit 6 = .ok (.invokestatic 111, 3) := by decide +kernel
theorem dX12_circuit_9 : decode cX12_circuit 9 = .ok (.ifCond .eq 11, 3) := by decide +kernel
theorem dX12_circuit_12 : decode cX12_circuit 12 = .ok (.aload_n 0, 1) := by decide +kernel
theorem dX12_circuit_13 : decode cX12_circuit 13 = .ok (.invokevirtual 108, 3) := by decide +kernel
theorem dX12_circuit_16 : decode cX12_circuit 16 = .ok (.iconst (-1), 1) := by decide +kernel
theorem dX12_circuit_17 : decode cX12_circuit 17 = .ok (.if_icmp .eq 5, 3) := by decide +kernel
theorem dX12_circuit_20 : decode cX12_circuit 20 = .ok (.iconst 0, 1) := by decide +kernel
theorem dX12_circuit_21 : decode cX12_circuit 21 = .ok (.ireturn, 1) := by decide +kernel
theorem dX12_circuit_22 : decode cX12_circuit 22 = .ok (.iconst 0, 1) := by decide +kernel
theorem dX12_circuit_23 : decode cX12_circuit 23 = .ok (.istore_n 2, 1) := by decide +kernel
theorem dX12_circuit_24 : decode cX12_circuit 24 = .ok (.iload_n 2, 1) := by decide +kernel
theorem dX12_circuit_25 : decode cX12_circuit 25 = .ok (.bipush 12, 2) := by decide +kernel
theorem dX12_circuit_27 : decode cX12_circuit 27 = .ok (.if_icmp .ge 28, 3) := by decide +kernel
theorem dX12_circuit_30 : decode cX12_circuit 30 = .ok (.aload_n 0, 1) := by decide +kernel
theorem dX12_circuit_31 : decode cX12_circuit 31 = .ok (.getfield 13, 3) := by decide +kernel
theorem dX12_circuit_34 : decode cX12_circuit 34 = .ok (.iload_n 2, 1) := by decide +kernel
theorem dX12_circuit_35 : decode cX12_circuit 35 = .ok (.aload_n 0, 1) := by decide +kernel
theorem dX12_circuit_36 : decode cX12_circuit 36 = .ok (.getfield 23, 3) := by decide +kernel
theorem dX12_circuit_39 : decode cX12_circuit 39 = .ok (.iload_n 2, 1) := by decide +kernel
theorem dX12_circuit_40 : decode cX12_circuit 40 = .ok (.iaload, 1) := by decide +kernel
theorem dX12_circuit_41 : decode cX12_circuit 41 = .ok (.iastore, 1) := by decide +kernel
theorem dX12_circuit_42 : decode cX12_circuit 42 = .ok (.aload_n 0, 1) := by decide +kernel
theorem dX12_circuit_43 : decode cX12_circuit 43 = .ok (.getfield 32, 3) := by decide +kernel
theorem dX12_circuit_46 : decode cX12_circuit 46 = .ok (.iload_n 2, 1) := by decide +kernel
theorem dX12_circuit_47 : decode cX12_circuit 47 = .ok (.iconst 0, 1) := by decide +kernel
theorem dX12_circuit_48 : decode cX12_circuit 48 = .ok (.bastore, 1) := by decide +kernel
theorem dX12_circuit_49 : decode cX12_circuit 49 = .ok (.iinc 2 1, 3) := by decide +kernel
theorem dX12_circuit_52 : decode cX12_circuit 52 = .ok (.goto (-28), 3) := by decide +kernel
theorem dX12_circuit_55 : decode cX12_circuit 55 = .ok (.iconst 0, 1) := by decide +kernel
theorem dX12_circuit_56 : decode cX12_circuit 56 = .ok (.istore_n 2, 1) := by decide +kernel
theorem dX12_circuit_57 : decode cX12_circuit 57 = .ok (.iload_n 2, 1) := by decide +kernel
theorem dX12_circuit_58 : decode cX12_circuit 58 = .ok (.sipush 144, 3) := by decide +kernel
theorem dX12_circuit_61 : decode cX12_circuit 61 = .ok (.if_icmp .ge 33, 3) := by decide +kernel
theorem dX12_circuit_64 : decode cX12_circuit 64 = .ok (.aload_n 0, 1) := by decide +kernel
theorem dX12_circuit_65 : decode cX12_circuit 65 = .ok (.getfield 17, 3) := by decide +kernel
theorem dX12_circuit_68 : decode cX12_circuit 68 = .ok (.iload_n 2, 1) := by decide +kernel
theorem dX12_circuit_69 : decode cX12_circuit 69 = .ok (.aload_n 0, 1) := by decide +kernel
theorem dX12_circuit_70 : decode cX12_circuit 70 = .ok (.getfield 26, 3) := by decide +kernel
theorem dX12_circuit_73 : decode cX12_circuit 73 = .ok (.iload_n 2, 1) := by decide +kernel
theorem dX12_circuit_74 : decode cX12_circuit 74 = .ok (.iaload, 1) := by decide +kernel
theorem dX12_circuit_75 : decode cX12_circuit 75 = .ok (.iastore, 1) := by decide +kernel
theorem dX12_circuit_76 : decode cX12_circuit 76 = .ok (.aload_n 0, 1) := by decide +kernel
theorem dX12_circuit_77 : decode cX12_circuit 77 = .ok (.getfield 20, 3) := by decide +kernel
theorem dX12_circuit_80 : decode cX12_circuit 80 = .ok (.iload_n 2, 1) := by decide +kernel
theorem dX12_circuit_81 : decode cX12_circuit 81 = .ok (.aload_n 0, 1) := by decide +kernel
theorem dX12_circuit_82 : decode cX12_circuit 82 = .ok (.getfield 29, 3) := by decide +kernel
theorem dX12_circuit_85 : decode cX12_circuit 85 = .ok (.iload_n 2, 1) := by decide +kernel
theorem dX12_circuit_86 : decode cX12_circuit 86 = .ok (.iaload, 1) := by decide +kernel
theorem dX12_circuit_87 : decode cX12_circuit 87 = .ok (.iastore, 1) := by decide +kernel
theorem dX12_circuit_88 : decode cX12_circuit 88 = .ok (.iinc 2 1, 3) := by decide +kernel
theorem dX12_circuit_91 : decode cX12_circuit 91 = .ok (.goto (-34), 3) := by decide +kernel
theorem dX12_circuit_94 : decode cX12_circuit 94 = .ok (.iconst 0, 1) := by decide +kernel
theorem dX12_circuit_95 : decode cX12_circuit 95 = .ok (.istore_n 2, 1) := by decide +kernel
theorem dX12_circuit_96 : decode cX12_circuit 96 = .ok (.iload_n 2, 1) := by decide +kernel
theorem dX12_circuit_97 : decode cX12_circuit 97 = .ok (.sipush 144, 3) := by decide +kernel
theorem dX12_circuit_100 : decode cX12_circuit 100 = .ok (.if_icmp .ge 16, 3) := by decide +kernel
theorem dX12_circuit_103 : decode cX12_circuit 103 = .ok (.aload_n 0, 1) := by decide +kernel
theorem dX12_circuit_104 : decode cX12_circuit 104 = .ok (.getfield 36, 3) := by decide +kernel
theorem dX12_circuit_107 : decode cX12_circuit 107 = .ok (.iload_n 2, 1) := by decide +kernel
theorem dX12_circuit_108 : decode cX12_circuit 108 = .ok (.iconst 0, 1) := by decide +kernel
theorem dX12_circuit_109 : decode cX12_circuit 109 = .ok (.bastore, 1) := by decide +kernel
theorem dX12_circuit_110 : decode cX12_circuit 110 = .ok (.iinc 2 1, 3) := by decide +kernel
theorem dX12_circuit_113 : decode cX12_circuit 113 = .ok (.goto (-17), 3) := by decide +kernel
theorem dX12_circuit_116 : decode cX12_circuit 116 = .ok (.aload_n 0, 1) := by decide +kernel
theorem dX12_circuit_117 : decode cX12_circuit 117 = .ok (.iload_n 1, 1) := by decide +kernel
theorem dX12_circuit_118 : decode cX12_circuit 118 = .ok (.putfield 114, 3) := by decide +kernel
theorem dX12_circuit_121 : decode cX12_circuit 121 = .ok (.aload_n 0, 1) := by decide +kernel
theorem dX12_circuit_122 : decode cX12_circuit 122 = .ok (.iconst 0, 1) := by decide +kernel
theorem dX12_circuit_123 : decode cX12_circuit 123 = .ok (.putfield 79, 3) := by decide +kernel
theorem dX12_circuit_126 : decode cX12_circuit 126 = .ok (.iconst 1, 1) := by decide +kernel
theorem dX12_circuit_127 : decode cX12_circuit 127 = .ok (.ireturn, 1) := by decide +kernel
theorem dX12_arbiter_0 : decode cX12_arbiter 0 = .ok (.aload_n 0, 1) := by decide +kernel
theorem dX12_arbiter_1 : decode cX12_arbiter 1 = .ok (.iconst 0, 1) := by decide +kernel
theorem dX12_arbiter_2 : decode cX12_arbiter 2 = .ok (.putfield 75, 3) := by decide +kernel
theorem dX12_arbiter_5 : decode cX12_arbiter 5 = .ok (.iload_n 1, 1) := by decide +kernel
theorem dX12_arbiter_6 : decode cX12_arbiter 6 = .ok (.invokestatic 117, 3) := by decide +kernel
theorem dX12_arbiter_9 : decode cX12_arbiter 9 = .ok (.ifCond .eq 30, 3) := by decide +kernel
theorem dX12_arbiter_12 : decode cX12_arbiter 12 = .ok (.iload_n 2, 1) := by decide +kernel
theorem dX12_arbiter_13 : decode cX12_arbiter 13 = .ok (.invokestatic 117, 3) := by decide +kernel
theorem dX12_arbiter_16 : decode cX12_arbiter 16 = .ok (.ifCond .eq 23, 3) := by decide +kernel
theorem dX12_arbiter_19 : decode cX12_arbiter 19 = .ok (.iload_n 1, 1) := by decide +kernel
theorem dX12_arbiter_20 : decode cX12_arbiter 20 = .ok (.iload_n 2, 1) := by decide +kernel
theorem dX12_arbiter_21 : decode cX12_arbiter 21 = .ok (.if_icmp .eq 18, 3) := by decide +kernel
theorem dX12_arbiter_24 : decode cX12_arbiter 24 = .ok (.aload_n 0, 1) := by decide +kernel
theorem dX12_arbiter_25 : decode cX12_arbiter 25 = .ok (.getfield 36, 3) := by decide +kernel
theorem dX12_arbiter_28 : decode cX12_arbiter 28 = .ok (.bipush 12, 2) := by decide +kernel
theorem dX12_arbiter_30 : decode cX12_arbiter 30 = .ok (.iload_n 1, 1) := by decide +kernel
theorem dX12_arbiter_31 : decode cX12_arbiter 31 = .ok (.imul, 1) := by decide +kernel
theorem dX12_arbiter_32 : decode cX12_arbiter 32 = .ok (.iload_n 2, 1) := by decide +kernel
theorem dX12_arbiter_33 : decode cX12_arbiter 33 = .ok (.iadd, 1) := by decide +kernel
theorem dX12_arbiter_34 : decode cX12_arbiter 34 = .ok (.baload, 1) := by decide +kernel
theorem dX12_arbiter_35 : decode cX12_arbiter 35 = .ok (.iload_n 3, 1) := by decide +kernel
theorem dX12_arbiter_36 : decode cX12_arbiter 36 = .ok (.if_icmp .ne 5, 3) := by decide +kernel
theorem dX12_arbiter_39 : decode cX12_arbiter 39 = .ok (.iconst 0, 1) := by decide +kernel
theorem dX12_arbiter_40 : decode cX12_arbiter 40 = .ok (.ireturn, 1) := by decide +kernel
theorem dX12_arbiter_41 : decode cX12_arbiter 41 = .ok (.aload_n 0, 1) := by decide +kernel
theorem dX12_arbiter_42 : decode cX12_arbiter 42 = .ok (.getfield 36, 3) := by decide +kernel
theorem dX12_arbiter_45 : decode cX12_arbiter 45 = .ok (.bipush 12, 2) := by decide +kernel
theorem dX12_arbiter_47 : decode cX12_arbiter 47 = .ok (.iload_n 1, 1) := by decide +kernel
theorem dX12_arbiter_48 : decode cX12_arbiter 48 = .ok (.imul, 1) := by decide +kernel
theorem dX12_arbiter_49 : decode cX12_arbiter 49 = .ok (.iload_n 2, 1) := by decide +kernel
theorem dX12_arbiter_50 : decode cX12_arbiter 50 = .ok (.iadd, 1) := by decide +kernel
theorem dX12_arbiter_51 : decode cX12_arbiter 51 = .ok (.iload_n 3, 1) := by decide +kernel
theorem dX12_arbiter_52 : decode cX12_arbiter 52 = .ok (.bastore, 1) := by decide +kernel
theorem dX12_arbiter_53 : decode cX12_arbiter 53 = .ok (.aload_n 0, 1) := by decide +kernel
theorem dX12_arbiter_54 : decode cX12_arbiter 54 = .ok (.getfield 36, 3) := by decide +kernel
theorem dX12_arbiter_57 : decode cX12_arbiter 57 = .ok (.bipush 12, 2) := by decide +kernel
theorem dX12_arbiter_59 : decode cX12_arbiter 59 = .ok (.iload_n 2, 1) := by decide +kernel
theorem dX12_arbiter_60 : decode cX12_arbiter 60 = .ok (.imul, 1) := by decide +kernel
theorem dX12_arbiter_61 : decode cX12_arbiter 61 = .ok (.iload_n 1, 1) := by decide +kernel
theorem dX12_arbiter_62 : decode cX12_arbiter 62 = .ok (.iadd, 1) := by decide +kernel
theorem dX12_arbiter_63 : decode cX12_arbiter 63 = .ok (.iload_n 3, 1) := by decide +kernel
theorem dX12_arbiter_64 : decode cX12_arbiter 64 = .ok (.bastore, 1) := by decide +kernel
theorem dX12_arbiter_65 : decode cX12_arbiter 65 = .ok (.iconst 1, 1) := by decide +kernel
theorem dX12_arbiter_66 : decode cX12_arbiter 66 = .ok (.ireturn, 1) := by decide +kernel
theorem dX12_stuck_0 : decode cX12_stuck 0 = .ok (.aload_n 0, 1) := by decide +kernel
theorem dX12_stuck_1 : decode cX12_stuck 1 = .ok (.iconst 0, 1) := by decide +kernel
theorem dX12_stuck_2 : decode cX12_stuck 2 = .ok (.putfield 75, 3) := by decide +kernel
theorem dX12_stuck_5 : decode cX12_stuck 5 = .ok (.iload_n 1, 1) := by decide +kernel
theorem dX12_stuck_6 : decode cX12_stuck 6 = .ok (.invokestatic 117, 3) := by decide +kernel
theorem dX12_stuck_9 : decode cX12_stuck 9 = .ok (.ifCond .eq 13, 3) := by decide +kernel
theorem dX12_stuck_12 : decode cX12_stuck 12 = .ok (.aload_n 0, 1) := by decide +kernel
theorem dX12_stuck_13 : decode cX12_stuck 13 = .ok (.getfield 32, 3) := by decide +kernel
theorem dX12_stuck_16 : decode cX12_stuck 16 = .ok (.iload_n 1, 1) := by decide +kernel
theorem dX12_stuck_17 : decode cX12_stuck 17 = .ok (.baload, 1) := by decide +kernel
theorem dX12_stuck_18 : decode cX12_stuck 18 = .ok (.iload_n 2, 1) := by decide +kernel
theorem dX12_stuck_19 : decode cX12_stuck 19 = .ok (.if_icmp .ne 5, 3) := by decide +kernel
theorem dX12_stuck_22 : decode cX12_stuck 22 = .ok (.iconst 0, 1) := by decide +kernel
theorem dX12_stuck_23 : decode cX12_stuck 23 = .ok (.ireturn, 1) := by decide +kernel
theorem dX12_stuck_24 : decode cX12_stuck 24 = .ok (.aload_n 0, 1) := by decide +kernel
theorem dX12_stuck_25 : decode cX12_stuck 25 = .ok (.getfield 32, 3) := by decide +kernel
theorem dX12_stuck_28 : decode cX12_stuck 28 = .ok (.iload_n 1, 1) := by decide +kernel
theorem dX12_stuck_29 : decode cX12_stuck 29 = .ok (.iload_n 2, 1) := by decide +kernel
theorem dX12_stuck_30 : decode cX12_stuck 30 = .ok (.bastore, 1) := by decide +kernel
theorem dX12_stuck_31 : decode cX12_stuck 31 = .ok (.iconst 1, 1) := by decide +kernel
theorem dX12_stuck_32 : decode cX12_stuck 32 = .ok (.ireturn, 1) := by decide +kernel
theorem dX12_askedIn_0 : decode cX12_askedIn 0 = .ok (.iconst 0, 1) := by decide +kernel
theorem dX12_askedIn_1 : decode cX12_askedIn 1 = .ok (.istore_n 2, 1) := by decide +kernel
theorem dX12_askedIn_2 : decode cX12_askedIn 2 = .ok (.iconst 0, 1) := by decide +kernel
theorem dX12_askedIn_3 : decode cX12_askedIn 3 = .ok (.istore_n 3, 1) := by decide +kernel
theorem dX12_askedIn_4 : decode cX12_askedIn 4 = .ok (.iload_n 3, 1) := by decide +kernel
theorem dX12_askedIn_5 : decode cX12_askedIn 5 = .ok (.bipush 12, 2) := by decide +kernel
theorem dX12_askedIn_7 : decode cX12_askedIn 7 = .ok (.if_icmp .ge 137, 3) := by decide +kernel
theorem dX12_askedIn_10 : decode cX12_askedIn 10 = .ok (.aload_n 0, 1) := by decide +kernel
theorem dX12_askedIn_11 : decode cX12_askedIn 11 = .ok (.getfield 13, 3) := by decide +kernel
theorem dX12_askedIn_14 : decode cX12_askedIn 14 = .ok (.iload_n 3, 1) := by decide +kernel
theorem dX12_askedIn_15 : decode cX12_askedIn 15 = .ok (.iaload, 1) := by decide +kernel
theorem dX12_askedIn_16 : decode cX12_askedIn 16 = .ok (.iconst (-1), 1) := by decide +kernel
theorem dX12_askedIn_17 : decode cX12_askedIn 17 = .ok (.if_icmp .eq 121, 3) := by decide +kernel
theorem dX12_askedIn_20 : decode cX12_askedIn 20 = .ok (.aload_n 0, 1) := by decide +kernel
theorem dX12_askedIn_21 : decode cX12_askedIn 21 = .ok (.getfield 32, 3) := by decide +kernel
theorem dX12_askedIn_24 : decode cX12_askedIn 24 = .ok (.iload_n 3, 1) := by decide +kernel
theorem dX12_askedIn_25 : decode cX12_askedIn 25 = .ok (.baload, 1) := by decide +kernel
theorem dX12_askedIn_26 : decode cX12_askedIn 26 = .ok (.ifCond .eq 6, 3) := by decide +kernel
theorem dX12_askedIn_29 : decode cX12_askedIn 29 = .ok (.goto 109, 3) := by decide +kernel
theorem dX12_askedIn_32 : decode cX12_askedIn 32 = .ok (.iconst 0, 1) := by decide +kernel
theorem dX12_askedIn_33 : decode cX12_askedIn 33 = .ok (.istore 4, 2) := by decide +kernel
theorem dX12_askedIn_35 : decode cX12_askedIn 35 = .ok (.iconst 0, 1) := by decide +kernel
theorem dX12_askedIn_36 : decode cX12_askedIn 36 = .ok (.istore 5, 2) := by decide +kernel
theorem dX12_askedIn_38 : decode cX12_askedIn 38 = .ok (.iload 5, 2) := by decide +kernel
theorem dX12_askedIn_40 : decode cX12_askedIn 40 = .ok (.aload_n 0, 1) := by decide +kernel
theorem dX12_askedIn_41 : decode cX12_askedIn 41 = .ok (.getfield 13, 3) := by decide +kernel
theorem dX12_askedIn_44 : decode cX12_askedIn 44 = .ok (.iload_n 3, 1) := by decide +kernel
theorem dX12_askedIn_45 : decode cX12_askedIn 45 = .ok (.iaload, 1) := by decide +kernel
theorem dX12_askedIn_46 : decode cX12_askedIn 46 = .ok (.if_icmp .ge 67, 3) := by decide +kernel
theorem dX12_askedIn_49 : decode cX12_askedIn 49 = .ok (.iload 4, 2) := by decide +kernel
theorem dX12_askedIn_51 : decode cX12_askedIn 51 = .ok (.ifCond .ne 49, 3) := by decide +kernel
theorem dX12_askedIn_54 : decode cX12_askedIn 54 = .ok (.iload_n 1, 1) := by decide +kernel
theorem dX12_askedIn_55 : decode cX12_askedIn 55 = .ok (.aload_n 0, 1) := by decide +kernel
theorem dX12_askedIn_56 : decode cX12_askedIn 56 = .ok (.getfield 17, 3) := by decide +kernel
theorem dX12_askedIn_59 : decode cX12_askedIn 59 = .ok (.bipush 12, 2) := by decide +kernel
theorem dX12_askedIn_61 : decode cX12_askedIn 61 = .ok (.iload_n 3, 1) := by decide +kernel
theorem dX12_askedIn_62 : decode cX12_askedIn 62 = .ok (.imul, 1) := by decide +kernel
theorem dX12_askedIn_63 : decode cX12_askedIn 63 = .ok (.iload 5, 2) := by decide +kernel
theorem dX12_askedIn_65 : decode cX12_askedIn 65 = .ok (.iadd, 1) := by decide +kernel
theorem dX12_askedIn_66 : decode cX12_askedIn 66 = .ok (.iaload, 1) := by decide +kernel
theorem dX12_askedIn_67 : decode cX12_askedIn 67 = .ok (.iand, 1) := by decide +kernel
theorem dX12_askedIn_68 : decode cX12_askedIn 68 = .ok (.aload_n 0, 1) := by decide +kernel
theorem dX12_askedIn_69 : decode cX12_askedIn 69 = .ok (.getfield 17, 3) := by decide +kernel
theorem dX12_askedIn_72 : decode cX12_askedIn 72 = .ok (.bipush 12, 2) := by decide +kernel
theorem dX12_askedIn_74 : decode cX12_askedIn 74 = .ok (.iload_n 3, 1) := by decide +kernel
theorem dX12_askedIn_75 : decode cX12_askedIn 75 = .ok (.imul, 1) := by decide +kernel
theorem dX12_askedIn_76 : decode cX12_askedIn 76 = .ok (.iload 5, 2) := by decide +kernel
theorem dX12_askedIn_78 : decode cX12_askedIn 78 = .ok (.iadd, 1) := by decide +kernel
theorem dX12_askedIn_79 : decode cX12_askedIn 79 = .ok (.iaload, 1) := by decide +kernel
theorem dX12_askedIn_80 : decode cX12_askedIn 80 = .ok (.if_icmp .ne 24, 3) := by decide +kernel
theorem dX12_askedIn_83 : decode cX12_askedIn 83 = .ok (.iload_n 1, 1) := by decide +kernel
theorem dX12_askedIn_84 : decode cX12_askedIn 84 = .ok (.aload_n 0, 1) := by decide +kernel
theorem dX12_askedIn_85 : decode cX12_askedIn 85 = .ok (.getfield 20, 3) := by decide +kernel
theorem dX12_askedIn_88 : decode cX12_askedIn 88 = .ok (.bipush 12, 2) := by decide +kernel
theorem dX12_askedIn_90 : decode cX12_askedIn 90 = .ok (.iload_n 3, 1) := by decide +kernel
theorem dX12_askedIn_91 : decode cX12_askedIn 91 = .ok (.imul, 1) := by decide +kernel
theorem dX12_askedIn_92 : decode cX12_askedIn 92 = .ok (.iload 5, 2) := by decide +kernel
theorem dX12_askedIn_94 : decode cX12_askedIn 94 = .ok (.iadd, 1) := by decide +kernel
theorem dX12_askedIn_95 : decode cX12_askedIn 95 = .ok (.iaload, 1) := by decide +kernel
theorem dX12_askedIn_96 : decode cX12_askedIn 96 = .ok (.iand, 1) := by decide +kernel
theorem dX12_askedIn_97 : decode cX12_askedIn 97 = .ok (.ifCond .ne 7, 3) := by decide +kernel
theorem dX12_askedIn_100 : decode cX12_askedIn 100 = .ok (.iconst 1, 1) := by decide +kernel
theorem dX12_askedIn_101 : decode cX12_askedIn 101 = .ok (.goto 4, 3) := by decide +kernel
theorem dX12_askedIn_104 : decode cX12_askedIn 104 = .ok (.iconst 0, 1) := by decide +kernel
theorem dX12_askedIn_105 : decode cX12_askedIn 105 = .ok (.istore 4, 2) := by decide +kernel
theorem dX12_askedIn_107 : decode cX12_askedIn 107 = .ok (.iinc 5 1, 3) := by decide +kernel
theorem dX12_askedIn_110 : decode cX12_askedIn 110 = .ok (.goto (-72), 3) := by decide +kernel
theorem dX12_askedIn_113 : decode cX12_askedIn 113 = .ok (.iload 4, 2) := by decide +kernel
theorem dX12_askedIn_115 : decode cX12_askedIn 115 = .ok (.iload_n 1, 1) := by decide +kernel
theorem dX12_askedIn_116 : decode cX12_askedIn 116 = .ok (.iload_n 3, 1) := by decide +kernel
theorem dX12_askedIn_117 : decode cX12_askedIn 117 = .ok (.ishr, 1) := by decide +kernel
theorem dX12_askedIn_118 : decode cX12_askedIn 118 = .ok (.iconst 1, 1) := by decide +kernel
theorem dX12_askedIn_119 : decode cX12_askedIn 119 = .ok (.iand, 1) := by decide +kernel
theorem dX12_askedIn_120 : decode cX12_askedIn 120 = .ok (.iconst 1, 1) := by decide +kernel
theorem dX12_askedIn_121 : decode cX12_askedIn 121 = .ok (.if_icmp .ne 7, 3) := by decide +kernel
theorem dX12_askedIn_124 : decode cX12_askedIn 124 = .ok (.iconst 1, 1) := by decide +kernel
theorem dX12_askedIn_125 : decode cX12_askedIn 125 = .ok (.goto 4, 3) := by decide +kernel
theorem dX12_askedIn_128 : decode cX12_askedIn 128 = .ok (.iconst 0, 1) := by decide +kernel
theorem dX12_askedIn_129 : decode cX12_askedIn 129 = .ok (.if_icmp .eq 9, 3) := by decide +kernel
theorem dX12_askedIn_132 : decode cX12_askedIn 132 = .ok (.iload_n 2, 1) := by decide +kernel
theorem dX12_askedIn_133 : decode cX12_askedIn 133 = .ok (.iconst 1, 1) := by decide +kernel
theorem dX12_askedIn_134 : decode cX12_askedIn 134 = .ok (.iload_n 3, 1) := by decide +kernel
theorem dX12_askedIn_135 : decode cX12_askedIn 135 = .ok (.ishl, 1) := by decide +kernel
theorem dX12_askedIn_136 : decode cX12_askedIn 136 = .ok (.ior, 1) := by decide +kernel
theorem dX12_askedIn_137 : decode cX12_askedIn 137 = .ok (.istore_n 2, 1) := by decide +kernel
theorem dX12_askedIn_138 : decode cX12_askedIn 138 = .ok (.iinc 3 1, 3) := by decide +kernel
theorem dX12_askedIn_141 : decode cX12_askedIn 141 = .ok (.goto (-137), 3) := by decide +kernel
theorem dX12_askedIn_144 : decode cX12_askedIn 144 = .ok (.iload_n 2, 1) := by decide +kernel
theorem dX12_askedIn_145 : decode cX12_askedIn 145 = .ok (.ireturn, 1) := by decide +kernel
theorem dX12_asked_0 : decode cX12_asked 0 = .ok (.aload_n 0, 1) := by decide +kernel
theorem dX12_asked_1 : decode cX12_asked 1 = .ok (.iconst 0, 1) := by decide +kernel
theorem dX12_asked_2 : decode cX12_asked 2 = .ok (.putfield 75, 3) := by decide +kernel
theorem dX12_asked_5 : decode cX12_asked 5 = .ok (.iload_n 1, 1) := by decide +kernel
theorem dX12_asked_6 : decode cX12_asked 6 = .ok (.invokestatic 111, 3) := by decide +kernel
theorem dX12_asked_9 : decode cX12_asked 9 = .ok (.ifCond .eq 11, 3) := by decide +kernel
theorem dX12_asked_12 : decode cX12_asked 12 = .ok (.aload_n 0, 1) := by decide +kernel
theorem dX12_asked_13 : decode cX12_asked 13 = .ok (.iload_n 1, 1) := by decide +kernel
theorem dX12_asked_14 : decode cX12_asked 14 = .ok (.invokevirtual 120, 3) := by decide +kernel
theorem dX12_asked_17 : decode cX12_asked 17 = .ok (.goto 4, 3) := by decide +kernel
theorem dX12_asked_20 : decode cX12_asked 20 = .ok (.iconst (-1), 1) := by decide +kernel
theorem dX12_asked_21 : decode cX12_asked 21 = .ok (.ireturn, 1) := by decide +kernel
theorem dX12_walks_0 : decode cX12_walks 0 = .ok (.aload_n 0, 1) := by decide +kernel
theorem dX12_walks_1 : decode cX12_walks 1 = .ok (.iconst 0, 1) := by decide +kernel
theorem dX12_walks_2 : decode cX12_walks 2 = .ok (.putfield 75, 3) := by decide +kernel
theorem dX12_walks_5 : decode cX12_walks 5 = .ok (.iconst 0, 1) := by decide +kernel
theorem dX12_walks_6 : decode cX12_walks 6 = .ok (.istore_n 1, 1) := by decide +kernel
theorem dX12_walks_7 : decode cX12_walks 7 = .ok (.iload_n 1, 1) := by decide +kernel
theorem dX12_walks_8 : decode cX12_walks 8 = .ok (.sipush 4096, 3) := by decide +kernel
theorem dX12_walks_11 : decode cX12_walks 11 = .ok (.if_icmp .ge 16, 3) := by decide +kernel
theorem dX12_walks_14 : decode cX12_walks 14 = .ok (.aload_n 0, 1) := by decide +kernel
theorem dX12_walks_15 : decode cX12_walks 15 = .ok (.getfield 42, 3) := by decide +kernel
theorem dX12_walks_18 : decode cX12_walks 18 = .ok (.iload_n 1, 1) := by decide +kernel
theorem dX12_walks_19 : decode cX12_walks 19 = .ok (.iconst (-1), 1) := by decide +kernel
theorem dX12_walks_20 : decode cX12_walks 20 = .ok (.iastore, 1) := by decide +kernel
theorem dX12_walks_21 : decode cX12_walks 21 = .ok (.iinc 1 1, 3) := by decide +kernel
theorem dX12_walks_24 : decode cX12_walks 24 = .ok (.goto (-17), 3) := by decide +kernel
theorem dX12_walks_27 : decode cX12_walks 27 = .ok (.aload_n 0, 1) := by decide +kernel
theorem dX12_walks_28 : decode cX12_walks 28 = .ok (.iconst 1, 1) := by decide +kernel
theorem dX12_walks_29 : decode cX12_walks 29 = .ok (.putfield 123, 3) := by decide +kernel
theorem dX12_walks_32 : decode cX12_walks 32 = .ok (.aload_n 0, 1) := by decide +kernel
theorem dX12_walks_33 : decode cX12_walks 33 = .ok (.getfield 39, 3) := by decide +kernel
theorem dX12_walks_36 : decode cX12_walks 36 = .ok (.iconst 0, 1) := by decide +kernel
theorem dX12_walks_37 : decode cX12_walks 37 = .ok (.aload_n 0, 1) := by decide +kernel
theorem dX12_walks_38 : decode cX12_walks 38 = .ok (.getfield 114, 3) := by decide +kernel
theorem dX12_walks_41 : decode cX12_walks 41 = .ok (.iastore, 1) := by decide +kernel
theorem dX12_walks_42 : decode cX12_walks 42 = .ok (.aload_n 0, 1) := by decide +kernel
theorem dX12_walks_43 : decode cX12_walks 43 = .ok (.getfield 42, 3) := by decide +kernel
theorem dX12_walks_46 : decode cX12_walks 46 = .ok (.aload_n 0, 1) := by decide +kernel
theorem dX12_walks_47 : decode cX12_walks 47 = .ok (.getfield 114, 3) := by decide +kernel
theorem dX12_walks_50 : decode cX12_walks 50 = .ok (.iconst 0, 1) := by decide +kernel
theorem dX12_walks_51 : decode cX12_walks 51 = .ok (.iastore, 1) := by decide +kernel
theorem dX12_walks_52 : decode cX12_walks 52 = .ok (.aload_n 0, 1) := by decide +kernel
theorem dX12_walks_53 : decode cX12_walks 53 = .ok (.getfield 45, 3) := by decide +kernel
theorem dX12_walks_56 : decode cX12_walks 56 = .ok (.aload_n 0, 1) := by decide +kernel
theorem dX12_walks_57 : decode cX12_walks 57 = .ok (.getfield 114, 3) := by decide +kernel
theorem dX12_walks_60 : decode cX12_walks 60 = .ok (.iconst (-1), 1) := by decide +kernel
theorem dX12_walks_61 : decode cX12_walks 61 = .ok (.iastore, 1) := by decide +kernel
theorem dX12_walks_62 : decode cX12_walks 62 = .ok (.iconst 0, 1) := by decide +kernel
theorem dX12_walks_63 : decode cX12_walks 63 = .ok (.istore_n 1, 1) := by decide +kernel
theorem dX12_walks_64 : decode cX12_walks 64 = .ok (.iload_n 1, 1) := by decide +kernel
theorem dX12_walks_65 : decode cX12_walks 65 = .ok (.aload_n 0, 1) := by decide +kernel
theorem dX12_walks_66 : decode cX12_walks 66 = .ok (.getfield 123, 3) := by decide +kernel
theorem dX12_walks_69 : decode cX12_walks 69 = .ok (.if_icmp .ge 118, 3) := by decide +kernel
theorem dX12_walks_72 : decode cX12_walks 72 = .ok (.aload_n 0, 1) := by decide +kernel
theorem dX12_walks_73 : decode cX12_walks 73 = .ok (.getfield 39, 3) := by decide +kernel
theorem dX12_walks_76 : decode cX12_walks 76 = .ok (.iload_n 1, 1) := by decide +kernel
theorem dX12_walks_77 : decode cX12_walks 77 = .ok (.iaload, 1) := by decide +kernel
theorem dX12_walks_78 : decode cX12_walks 78 = .ok (.istore_n 2, 1) := by decide +kernel
theorem dX12_walks_79 : decode cX12_walks 79 = .ok (.aload_n 0, 1) := by decide +kernel
theorem dX12_walks_80 : decode cX12_walks 80 = .ok (.iload_n 2, 1) := by decide +kernel
theorem dX12_walks_81 : decode cX12_walks 81 = .ok (.invokevirtual 120, 3) := by decide +kernel
theorem dX12_walks_84 : decode cX12_walks 84 = .ok (.istore_n 3, 1) := by decide +kernel
theorem dX12_walks_85 : decode cX12_walks 85 = .ok (.iconst 0, 1) := by decide +kernel
theorem dX12_walks_86 : decode cX12_walks 86 = .ok (.istore 4, 2) := by decide +kernel
theorem dX12_walks_88 : decode cX12_walks 88 = .ok (.iload 4, 2) := by decide +kernel
theorem dX12_walks_90 : decode cX12_walks 90 = .ok (.bipush 12, 2) := by decide +kernel
theorem dX12_walks_92 : decode cX12_walks 92 = .ok (.if_icmp .ge 89, 3) := by decide +kernel
theorem dX12_walks_95 : decode cX12_walks 95 = .ok (.iload_n 2, 1) := by decide +kernel
theorem dX12_walks_96 : decode cX12_walks 96 = .ok (.iconst 1, 1) := by decide +kernel
theorem dX12_walks_97 : decode cX12_walks 97 = .ok (.iload 4, 2) := by decide +kernel
theorem dX12_walks_99 : decode cX12_walks 99 = .ok (.ishl, 1) := by decide +kernel
theorem dX12_walks_100 : decode cX12_walks 100 = .ok (.ixor, 1) := by decide +kernel
theorem dX12_walks_101 : decode cX12_walks 101 = .ok (.istore 5, 2) := by decide +kernel
theorem dX12_walks_103 : decode cX12_walks 103 = .ok (.iload_n 3, 1) := by decide +kernel
theorem dX12_walks_104 : decode cX12_walks 104 = .ok (.iload 4, 2) := by decide +kernel
theorem dX12_walks_106 : decode cX12_walks 106 = .ok (.ishr, 1) := by decide +kernel
theorem dX12_walks_107 : decode cX12_walks 107 = .ok (.iconst 1, 1) := by decide +kernel
theorem dX12_walks_108 : decode cX12_walks 108 = .ok (.iand, 1) := by decide +kernel
theorem dX12_walks_109 : decode cX12_walks 109 = .ok (.ifCond .eq 66, 3) := by decide +kernel
theorem dX12_walks_112 : decode cX12_walks 112 = .ok (.aload_n 0, 1) := by decide +kernel
theorem dX12_walks_113 : decode cX12_walks 113 = .ok (.getfield 42, 3) := by decide +kernel
theorem dX12_walks_116 : decode cX12_walks 116 = .ok (.iload 5, 2) := by decide +kernel
theorem dX12_walks_118 : decode cX12_walks 118 = .ok (.iaload, 1) := by decide +kernel
theorem dX12_walks_119 : decode cX12_walks 119 = .ok (.iconst (-1), 1) := by decide +kernel
theorem dX12_walks_120 : decode cX12_walks 120 = .ok (.if_icmp .eq 6, 3) := by decide +kernel
theorem dX12_walks_123 : decode cX12_walks 123 = .ok (.goto 52, 3) := by decide +kernel
theorem dX12_walks_126 : decode cX12_walks 126 = .ok (.aload_n 0, 1) := by decide +kernel
theorem dX12_walks_127 : decode cX12_walks 127 = .ok (.getfield 39, 3) := by decide +kernel
theorem dX12_walks_130 : decode cX12_walks 130 = .ok (.aload_n 0, 1) := by decide +kernel
theorem dX12_walks_131 : decode cX12_walks 131 = .ok (.getfield 123, 3) := by decide +kernel
theorem dX12_walks_134 : decode cX12_walks 134 = .ok (.iload 5, 2) := by decide +kernel
theorem dX12_walks_136 : decode cX12_walks 136 = .ok (.iastore, 1) := by decide +kernel
theorem dX12_walks_137 : decode cX12_walks 137 = .ok (.aload_n 0, 1) := by decide +kernel
theorem dX12_walks_138 : decode cX12_walks 138 = .ok (.getfield 42, 3) := by decide +kernel
theorem dX12_walks_141 : decode cX12_walks 141 = .ok (.iload 5, 2) := by decide +kernel
theorem dX12_walks_143 : decode cX12_walks 143 = .ok (.aload_n 0, 1) := by decide +kernel
theorem dX12_walks_144 : decode cX12_walks 144 = .ok (.getfield 123, 3) := by decide +kernel
theorem dX12_walks_147 : decode cX12_walks 147 = .ok (.iastore, 1) := by decide +kernel
theorem dX12_walks_148 : decode cX12_walks 148 = .ok (.aload_n 0, 1) := by decide +kernel
theorem dX12_walks_149 : decode cX12_walks 149 = .ok (.getfield 45, 3) := by decide +kernel
theorem dX12_walks_152 : decode cX12_walks 152 = .ok (.iload 5, 2) := by decide +kernel
theorem dX12_walks_154 : decode cX12_walks 154 = .ok (.iload_n 2, 1) := by decide +kernel
theorem dX12_walks_155 : decode cX12_walks 155 = .ok (.iastore, 1) := by decide +kernel
theorem dX12_walks_156 : decode cX12_walks 156 = .ok (.aload_n 0, 1) := by decide +kernel
theorem dX12_walks_157 : decode cX12_walks 157 = .ok (.getfield 48, 3) := by decide +kernel
theorem dX12_walks_160 : decode cX12_walks 160 = .ok (.iload 5, 2) := by decide +kernel
theorem dX12_walks_162 : decode cX12_walks 162 = .ok (.iload 4, 2) := by decide +kernel
theorem dX12_walks_164 : decode cX12_walks 164 = .ok (.iastore, 1) := by decide +kernel
theorem dX12_walks_165 : decode cX12_walks 165 = .ok (.aload_n 0, 1) := by decide +kernel
theorem dX12_walks_166 : decode cX12_walks 166 = .ok (.dup, 1) := by decide +kernel
theorem dX12_walks_167 : decode cX12_walks 167 = .ok (.getfield 123, 3) := by decide +kernel
theorem dX12_walks_170 : decode cX12_walks 170 = .ok (.iconst 1, 1) := by decide +kernel
theorem dX12_walks_171 : decode cX12_walks 171 = .ok (.iadd, 1) := by decide +kernel
theorem dX12_walks_172 : decode cX12_walks 172 = .ok (.putfield 123, 3) := by decide +kernel
theorem dX12_walks_175 : decode cX12_walks 175 = .ok (.iinc 4 1, 3) := by decide +kernel
theorem dX12_walks_178 : decode cX12_walks 178 = .ok (.goto (-90), 3) := by decide +kernel
theorem dX12_walks_181 : decode cX12_walks 181 = .ok (.iinc 1 1, 3) := by decide +kernel
theorem dX12_walks_184 : decode cX12_walks 184 = .ok (.goto (-120), 3) := by decide +kernel
theorem dX12_walks_187 : decode cX12_walks 187 = .ok (.return_, 1) := by decide +kernel
theorem dX12_states_0 : decode cX12_states 0 = .ok (.aload_n 0, 1) := by decide +kernel
theorem dX12_states_1 : decode cX12_states 1 = .ok (.invokevirtual 126, 3) := by decide +kernel
theorem dX12_states_4 : decode cX12_states 4 = .ok (.aload_n 0, 1) := by decide +kernel
theorem dX12_states_5 : decode cX12_states 5 = .ok (.getfield 123, 3) := by decide +kernel
theorem dX12_states_8 : decode cX12_states 8 = .ok (.ireturn, 1) := by decide +kernel
theorem dX12_state_0 : decode cX12_state 0 = .ok (.aload_n 0, 1) := by decide +kernel
theorem dX12_state_1 : decode cX12_state 1 = .ok (.invokevirtual 126, 3) := by decide +kernel
theorem dX12_state_4 : decode cX12_state 4 = .ok (.iload_n 1, 1) := by decide +kernel
theorem dX12_state_5 : decode cX12_state 5 = .ok (.ifCond .lt 20, 3) := by decide +kernel
theorem dX12_state_8 : decode cX12_state 8 = .ok (.iload_n 1, 1) := by decide +kernel
theorem dX12_state_9 : decode cX12_state 9 = .ok (.aload_n 0, 1) := by decide +kernel
theorem dX12_state_10 : decode cX12_state 10 = .ok (.getfield 123, 3) := by decide +kernel
theorem dX12_state_13 : decode cX12_state 13 = .ok (.if_icmp .ge 12, 3) := by decide +kernel
theorem dX12_state_16 : decode cX12_state 16 = .ok (.aload_n 0, 1) := by decide +kernel
theorem dX12_state_17 : decode cX12_state 17 = .ok (.getfield 39, 3) := by decide +kernel
theorem dX12_state_20 : decode cX12_state 20 = .ok (.iload_n 1, 1) := by decide +kernel
theorem dX12_state_21 : decode cX12_state 21 = .ok (.iaload, 1) := by decide +kernel
theorem dX12_state_22 : decode cX12_state 22 = .ok (.goto 4, 3) := by decide +kernel
theorem dX12_state_25 : decode cX12_state 25 = .ok (.iconst (-1), 1) := by decide +kernel
theorem dX12_state_26 : decode cX12_state 26 = .ok (.ireturn, 1) := by decide +kernel
theorem dX12_place_0 : decode cX12_place 0 = .ok (.aload_n 0, 1) := by decide +kernel
theorem dX12_place_1 : decode cX12_place 1 = .ok (.invokevirtual 126, 3) := by decide +kernel
theorem dX12_place_4 : decode cX12_place 4 = .ok (.iload_n 1, 1) := by decide +kernel
theorem dX12_place_5 : decode cX12_place 5 = .ok (.invokestatic 111, 3) := by decide +kernel
theorem dX12_place_8 : decode cX12_place 8 = .ok (.ifCond .eq 12, 3) := by decide +kernel
theorem dX12_place_11 : decode cX12_place 11 = .ok (.aload_n 0, 1) := by decide +kernel
theorem dX12_place_12 : decode cX12_place 12 = .ok (.getfield 42, 3) := by decide +kernel
theorem dX12_place_15 : decode cX12_place 15 = .ok (.iload_n 1, 1) := by decide +kernel
theorem dX12_place_16 : decode cX12_place 16 = .ok (.iaload, 1) := by decide +kernel
theorem dX12_place_17 : decode cX12_place 17 = .ok (.goto 4, 3) := by decide +kernel
theorem dX12_place_20 : decode cX12_place 20 = .ok (.iconst (-1), 1) := by decide +kernel
theorem dX12_place_21 : decode cX12_place 21 = .ok (.ireturn, 1) := by decide +kernel
theorem dX12_hazardOf_0 : decode cX12_hazardOf 0 = .ok (.aload_n 0, 1) := by decide +kernel
theorem dX12_hazardOf_1 : decode cX12_hazardOf 1 = .ok (.invokevirtual 126, 3) := by decide +kernel
theorem dX12_hazardOf_4 : decode cX12_hazardOf 4 = .ok (.iconst 0, 1) := by decide +kernel
theorem dX12_hazardOf_5 : decode cX12_hazardOf 5 = .ok (.istore_n 3, 1) := by decide +kernel
theorem dX12_hazardOf_6 : decode cX12_hazardOf 6 = .ok (.iconst 0, 1) := by decide +kernel
theorem dX12_hazardOf_7 : decode cX12_hazardOf 7 = .ok (.istore 4, 2) := by decide +kernel
theorem dX12_hazardOf_9 : decode cX12_hazardOf 9 = .ok (.iload 4, 2) := by decide +kernel
theorem dX12_hazardOf_11 : decode cX12_hazardOf 11 = .ok (.aload_n 0, 1) := by decide +kernel
theorem dX12_hazardOf_12 : decode cX12_hazardOf 12 = .ok (.getfield 123, 3) := by decide +kernel
theorem dX12_hazardOf_15 : decode cX12_hazardOf 15 = .ok (.if_icmp .ge 163, 3) := by decide +kernel
theorem dX12_hazardOf_18 : decode cX12_hazardOf 18 = .ok (.aload_n 0, 1) := by decide +kernel
theorem dX12_hazardOf_19 : decode cX12_hazardOf 19 = .ok (.getfield 39, 3) := by decide +kernel
theorem dX12_hazardOf_22 : decode cX12_hazardOf 22 = .ok (.iload 4, 2) := by decide +kernel
theorem dX12_hazardOf_24 : decode cX12_hazardOf 24 = .ok (.iaload, 1) := by decide +kernel
theorem dX12_hazardOf_25 : decode cX12_hazardOf 25 = .ok (.istore 5, 2) := by decide +kernel
theorem dX12_hazardOf_27 : decode cX12_hazardOf 27 = .ok (.aload_n 0, 1) := by decide +kernel
theorem dX12_hazardOf_28 : decode cX12_hazardOf 28 = .ok (.iload 5, 2) := by decide +kernel
theorem dX12_hazardOf_30 : decode cX12_hazardOf 30 = .ok (.invokevirtual 120, 3) := by decide +kernel
theorem dX12_hazardOf_33 : decode cX12_hazardOf 33 = .ok (.istore 6, 2) := by decide +kernel
theorem dX12_hazardOf_35 : decode cX12_hazardOf 35 = .ok (.iconst 0, 1) := by decide +kernel
theorem dX12_hazardOf_36 : decode cX12_hazardOf 36 = .ok (.istore 7, 2) := by decide +kernel
theorem dX12_hazardOf_38 : decode cX12_hazardOf 38 = .ok (.iload 7, 2) := by decide +kernel
theorem dX12_hazardOf_40 : decode cX12_hazardOf 40 = .ok (.bipush 12, 2) := by decide +kernel
theorem dX12_hazardOf_42 : decode cX12_hazardOf 42 = .ok (.if_icmp .ge 130, 3) := by decide +kernel
theorem dX12_hazardOf_45 : decode cX12_hazardOf 45 = .ok (.iconst 0, 1) := by decide +kernel
theorem dX12_hazardOf_46 : decode cX12_hazardOf 46 = .ok (.istore 8, 2) := by decide +kernel
theorem dX12_hazardOf_48 : decode cX12_hazardOf 48 = .ok (.iload 8, 2) := by decide +kernel
theorem dX12_hazardOf_50 : decode cX12_hazardOf 50 = .ok (.bipush 12, 2) := by decide +kernel
theorem dX12_hazardOf_52 : decode cX12_hazardOf 52 = .ok (.if_icmp .ge 114, 3) := by decide +kernel
theorem dX12_hazardOf_55 : decode cX12_hazardOf 55 = .ok (.iload 7, 2) := by decide +kernel
theorem dX12_hazardOf_57 : decode cX12_hazardOf 57 = .ok (.iload 8, 2) := by decide +kernel
theorem dX12_hazardOf_59 : decode cX12_hazardOf 59 = .ok (.if_icmp .eq 101, 3) := by decide +kernel
theorem dX12_hazardOf_62 : decode cX12_hazardOf 62 = .ok (.iload 6, 2) := by decide +kernel
theorem dX12_hazardOf_64 : decode cX12_hazardOf 64 = .ok (.iload 7, 2) := by decide +kernel
theorem dX12_hazardOf_66 : decode cX12_hazardOf 66 = .ok (.ishr, 1) := by decide +kernel
theorem dX12_hazardOf_67 : decode cX12_hazardOf 67 = .ok (.iconst 1, 1) := by decide +kernel
theorem dX12_hazardOf_68 : decode cX12_hazardOf 68 = .ok (.iand, 1) := by decide +kernel
theorem dX12_hazardOf_69 : decode cX12_hazardOf 69 = .ok (.ifCond .eq 91, 3) := by decide +kernel
theorem dX12_hazardOf_72 : decode cX12_hazardOf 72 = .ok (.iload 6, 2) := by decide +kernel
theorem dX12_hazardOf_74 : decode cX12_hazardOf 74 = .ok (.iload 8, 2) := by decide +kernel
theorem dX12_hazardOf_76 : decode cX12_hazardOf 76 = .ok (.ishr, 1) := by decide +kernel
theorem dX12_hazardOf_77 : decode cX12_hazardOf 77 = .ok (.iconst 1, 1) := by decide +kernel
theorem dX12_hazardOf_78 : decode cX12_hazardOf 78 = .ok (.iand, 1) := by decide +kernel
theorem dX12_hazardOf_79 : decode cX12_hazardOf 79 = .ok (.ifCond .eq 81, 3) := by decide +kernel
theorem dX12_hazardOf_82 : decode cX12_hazardOf 82 = .ok (.aload_n 0, 1) := by decide +kernel
theorem dX12_hazardOf_83 : decode cX12_hazardOf 83 = .ok (.getfield 36, 3) := by decide +kernel
theorem dX12_hazardOf_86 : decode cX12_hazardOf 86 = .ok (.bipush 12, 2) := by decide +kernel
theorem dX12_hazardOf_88 : decode cX12_hazardOf 88 = .ok (.iload 7, 2) := by decide +kernel
theorem dX12_hazardOf_90 : decode cX12_hazardOf 90 = .ok (.imul, 1) := by decide +kernel
theorem dX12_hazardOf_91 : decode cX12_hazardOf 91 = .ok (.iload 8, 2) := by decide +kernel
theorem dX12_hazardOf_93 : decode cX12_hazardOf 93 = .ok (.iadd, 1) := by decide +kernel
theorem dX12_hazardOf_94 : decode cX12_hazardOf 94 = .ok (.baload, 1) := by decide +kernel
theorem dX12_hazardOf_95 : decode cX12_hazardOf 95 = .ok (.ifCond .ne 65, 3) := by decide +kernel
theorem dX12_hazardOf_98 : decode cX12_hazardOf 98 = .ok (.aload_n 0, 1) := by decide +kernel
theorem dX12_hazardOf_99 : decode cX12_hazardOf 99 = .ok (.iload 5, 2) := by decide +kernel
theorem dX12_hazardOf_101 : decode cX12_hazardOf 101 = .ok (.iconst 1, 1) := by decide +kernel
theorem dX12_hazardOf_102 : decode cX12_hazardOf 102 = .ok (.iload 8, 2) := by decide +kernel
theorem dX12_hazardOf_104 : decode cX12_hazardOf 104 = .ok (.ishl, 1) := by decide +kernel
theorem dX12_hazardOf_105 : decode cX12_hazardOf 105 = .ok (.ixor, 1) := by decide +kernel
theorem dX12_hazardOf_106 : decode cX12_hazardOf 106 = .ok (.invokevirtual 120, 3) := by decide +kernel
theorem dX12_hazardOf_109 : decode cX12_hazardOf 109 = .ok (.iload 7, 2) := by decide +kernel
theorem dX12_hazardOf_111 : decode cX12_hazardOf 111 = .ok (.ishr, 1) := by decide +kernel
theorem dX12_hazardOf_112 : decode cX12_hazardOf 112 = .ok (.iconst 1, 1) := by decide +kernel
theorem dX12_hazardOf_113 : decode cX12_hazardOf 113 = .ok (.iand, 1) := by decide +kernel
theorem dX12_hazardOf_114 : decode cX12_hazardOf 114 = .ok (.iconst 1, 1) := by decide +kernel
theorem dX12_hazardOf_115 : decode cX12_hazardOf 115 = .ok (.if_icmp .ne 6, 3) := by decide +kernel
theorem dX12_hazardOf_118 : decode cX12_hazardOf 118 = .ok (.goto 42, 3) := by decide +kernel
theorem dX12_hazardOf_121 : decode cX12_hazardOf 121 = .ok (.iload_n 3, 1) := by decide +kernel
theorem dX12_hazardOf_122 : decode cX12_hazardOf 122 = .ok (.iload_n 1, 1) := by decide +kernel
theorem dX12_hazardOf_123 : decode cX12_hazardOf 123 = .ok (.if_icmp .ne 34, 3) := by decide +kernel
theorem dX12_hazardOf_126 : decode cX12_hazardOf 126 = .ok (.iload_n 2, 1) := by decide +kernel
theorem dX12_hazardOf_127 : decode cX12_hazardOf 127 = .ok (.ifCond .ne 8, 3) := by decide +kernel
theorem dX12_hazardOf_130 : decode cX12_hazardOf 130 = .ok (.iload 5, 2) := by decide +kernel
theorem dX12_hazardOf_132 : decode cX12_hazardOf 132 = .ok (.goto 24, 3) := by decide +kernel
theorem dX12_hazardOf_135 : decode cX12_hazardOf 135 = .ok (.iload_n 2, 1) := by decide +kernel
theorem dX12_hazardOf_136 : decode cX12_hazardOf 136 = .ok (.iconst 1, 1) := by decide +kernel
theorem dX12_hazardOf_137 : decode cX12_hazardOf 137 = .ok (.if_icmp .ne 8, 3) := by decide +kernel
theorem dX12_hazardOf_140 : decode cX12_hazardOf 140 = .ok (.iload 7, 2) := by decide +kernel
theorem dX12_hazardOf_142 : decode cX12_hazardOf 142 = .ok (.goto 14, 3) := by decide +kernel
theorem dX12_hazardOf_145 : decode cX12_hazardOf 145 = .ok (.iload_n 2, 1) := by decide +kernel
theorem dX12_hazardOf_146 : decode cX12_hazardOf 146 = .ok (.iconst 2, 1) := by decide +kernel
theorem dX12_hazardOf_147 : decode cX12_hazardOf 147 = .ok (.if_icmp .ne 8, 3) := by decide +kernel
theorem dX12_hazardOf_150 : decode cX12_hazardOf 150 = .ok (.iload 8, 2) := by decide +kernel
theorem dX12_hazardOf_152 : decode cX12_hazardOf 152 = .ok (.goto 4, 3) := by decide +kernel
theorem dX12_hazardOf_155 : decode cX12_hazardOf 155 = .ok (.iconst (-1), 1) := by decide +kernel
theorem dX12_hazardOf_156 : decode cX12_hazardOf 156 = .ok (.ireturn, 1) := by decide +kernel
theorem dX12_hazardOf_157 : decode cX12_hazardOf 157 = .ok (.iinc 3 1, 3) := by decide +kernel
theorem dX12_hazardOf_160 : decode cX12_hazardOf 160 = .ok (.iinc 8 1, 3) := by decide +kernel
theorem dX12_hazardOf_163 : decode cX12_hazardOf 163 = .ok (.goto (-115), 3) := by decide +kernel
theorem dX12_hazardOf_166 : decode cX12_hazardOf 166 = .ok (.iinc 7 1, 3) := by decide +kernel
theorem dX12_hazardOf_169 : decode cX12_hazardOf 169 = .ok (.goto (-131), 3) := by decide +kernel
theorem dX12_hazardOf_172 : decode cX12_hazardOf 172 = .ok (.iinc 4 1, 3) := by decide +kernel
theorem dX12_hazardOf_175 : decode cX12_hazardOf 175 = .ok (.goto (-166), 3) := by decide +kernel
theorem dX12_hazardOf_178 : decode cX12_hazardOf 178 = .ok (.iload_n 1, 1) := by decide +kernel
theorem dX12_hazardOf_179 : decode cX12_hazardOf 179 = .ok (.ifCond .ge 7, 3) := by decide +kernel
theorem dX12_hazardOf_182 : decode cX12_hazardOf 182 = .ok (.iload_n 3, 1) := by decide +kernel
theorem dX12_hazardOf_183 : decode cX12_hazardOf 183 = .ok (.goto 4, 3) := by decide +kernel
theorem dX12_hazardOf_186 : decode cX12_hazardOf 186 = .ok (.iconst (-1), 1) := by decide +kernel
theorem dX12_hazardOf_187 : decode cX12_hazardOf 187 = .ok (.ireturn, 1) := by decide +kernel
theorem dX12_hazard_0 : decode cX12_hazard 0 = .ok (.aload_n 0, 1) := by decide +kernel
theorem dX12_hazard_1 : decode cX12_hazard 1 = .ok (.iconst 0, 1) := by decide +kernel
theorem dX12_hazard_2 : decode cX12_hazard 2 = .ok (.putfield 75, 3) := by decide +kernel
theorem dX12_hazard_5 : decode cX12_hazard 5 = .ok (.iload_n 1, 1) := by decide +kernel
theorem dX12_hazard_6 : decode cX12_hazard 6 = .ok (.ifCond .ge 7, 3) := by decide +kernel
theorem dX12_hazard_9 : decode cX12_hazard 9 = .ok (.iconst (-1), 1) := by decide +kernel
theorem dX12_hazard_10 : decode cX12_hazard 10 = .ok (.goto 9, 3) := by decide +kernel
theorem dX12_hazard_13 : decode cX12_hazard 13 = .ok (.aload_n 0, 1) := by decide +kernel
theorem dX12_hazard_14 : decode cX12_hazard 14 = .ok (.iload_n 1, 1) := by decide +kernel
theorem dX12_hazard_15 : decode cX12_hazard 15 = .ok (.iload_n 2, 1) := by decide +kernel
theorem dX12_hazard_16 : decode cX12_hazard 16 = .ok (.invokevirtual 129, 3) := by decide +kernel
theorem dX12_hazard_19 : decode cX12_hazard 19 = .ok (.ireturn, 1) := by decide +kernel
theorem dX12_stopOf_0 : decode cX12_stopOf 0 = .ok (.aload_n 0, 1) := by decide +kernel
theorem dX12_stopOf_1 : decode cX12_stopOf 1 = .ok (.invokevirtual 126, 3) := by decide +kernel
theorem dX12_stopOf_4 : decode cX12_stopOf 4 = .ok (.iconst 0, 1) := by decide +kernel
theorem dX12_stopOf_5 : decode cX12_stopOf 5 = .ok (.istore_n 2, 1) := by decide +kernel
theorem dX12_stopOf_6 : decode cX12_stopOf 6 = .ok (.iconst 0, 1) := by decide +kernel
theorem dX12_stopOf_7 : decode cX12_stopOf 7 = .ok (.istore_n 3, 1) := by decide +kernel
theorem dX12_stopOf_8 : decode cX12_stopOf 8 = .ok (.iload_n 3, 1) := by decide +kernel
theorem dX12_stopOf_9 : decode cX12_stopOf 9 = .ok (.aload_n 0, 1) := by decide +kernel
theorem dX12_stopOf_10 : decode cX12_stopOf 10 = .ok (.getfield 123, 3) := by decide +kernel
theorem dX12_stopOf_13 : decode cX12_stopOf 13 = .ok (.if_icmp .ge 40, 3) := by decide +kernel
theorem dX12_stopOf_16 : decode cX12_stopOf 16 = .ok (.aload_n 0, 1) := by decide +kernel
theorem dX12_stopOf_17 : decode cX12_stopOf 17 = .ok (.aload_n 0, 1) := by decide +kernel
theorem dX12_stopOf_18 : decode cX12_stopOf 18 = .ok (.getfield 39, 3) := by decide +kernel
theorem dX12_stopOf_21 : decode cX12_stopOf 21 = .ok (.iload_n 3, 1) := by decide +kernel
theorem dX12_stopOf_22 : decode cX12_stopOf 22 = .ok (.iaload, 1) := by decide +kernel
theorem dX12_stopOf_23 : decode cX12_stopOf 23 = .ok (.invokevirtual 120, 3) := by decide +kernel
theorem dX12_stopOf_26 : decode cX12_stopOf 26 = .ok (.ifCond .eq 6, 3) := by decide +kernel
theorem dX12_stopOf_29 : decode cX12_stopOf 29 = .ok (.goto 18, 3) := by decide +kernel
theorem dX12_stopOf_32 : decode cX12_stopOf 32 = .ok (.iload_n 2, 1) := by decide +kernel
theorem dX12_stopOf_33 : decode cX12_stopOf 33 = .ok (.iload_n 1, 1) := by decide +kernel
theorem dX12_stopOf_34 : decode cX12_stopOf 34 = .ok (.if_icmp .ne 10, 3) := by decide +kernel
theorem dX12_stopOf_37 : decode cX12_stopOf 37 = .ok (.aload_n 0, 1) := by decide +kernel
theorem dX12_stopOf_38 : decode cX12_stopOf 38 = .ok (.getfield 39, 3) := by decide +kernel
theorem dX12_stopOf_41 : decode cX12_stopOf 41 = .ok (.iload_n 3, 1) := by decide +kernel
theorem dX12_stopOf_42 : decode cX12_stopOf 42 = .ok (.iaload, 1) := by decide +kernel
theorem dX12_stopOf_43 : decode cX12_stopOf 43 = .ok (.ireturn, 1) := by decide +kernel
theorem dX12_stopOf_44 : decode cX12_stopOf 44 = .ok (.iinc 2 1, 3) := by decide +kernel
theorem dX12_stopOf_47 : decode cX12_stopOf 47 = .ok (.iinc 3 1, 3) := by decide +kernel
theorem dX12_stopOf_50 : decode cX12_stopOf 50 = .ok (.goto (-42), 3) := by decide +kernel
theorem dX12_stopOf_53 : decode cX12_stopOf 53 = .ok (.iload_n 1, 1) := by decide +kernel
theorem dX12_stopOf_54 : decode cX12_stopOf 54 = .ok (.ifCond .ge 7, 3) := by decide +kernel
theorem dX12_stopOf_57 : decode cX12_stopOf 57 = .ok (.iload_n 2, 1) := by decide +kernel
theorem dX12_stopOf_58 : decode cX12_stopOf 58 = .ok (.goto 4, 3) := by decide +kernel
theorem dX12_stopOf_61 : decode cX12_stopOf 61 = .ok (.iconst (-1), 1) := by decide +kernel
theorem dX12_stopOf_62 : decode cX12_stopOf 62 = .ok (.ireturn, 1) := by decide +kernel
theorem dX12_stop_0 : decode cX12_stop 0 = .ok (.aload_n 0, 1) := by decide +kernel
theorem dX12_stop_1 : decode cX12_stop 1 = .ok (.iconst 0, 1) := by decide +kernel
theorem dX12_stop_2 : decode cX12_stop 2 = .ok (.putfield 75, 3) := by decide +kernel
theorem dX12_stop_5 : decode cX12_stop 5 = .ok (.iload_n 1, 1) := by decide +kernel
theorem dX12_stop_6 : decode cX12_stop 6 = .ok (.ifCond .ge 7, 3) := by decide +kernel
theorem dX12_stop_9 : decode cX12_stop 9 = .ok (.iconst (-1), 1) := by decide +kernel
theorem dX12_stop_10 : decode cX12_stop 10 = .ok (.goto 8, 3) := by decide +kernel
theorem dX12_stop_13 : decode cX12_stop 13 = .ok (.aload_n 0, 1) := by decide +kernel
theorem dX12_stop_14 : decode cX12_stop 14 = .ok (.iload_n 1, 1) := by decide +kernel
theorem dX12_stop_15 : decode cX12_stop 15 = .ok (.invokevirtual 133, 3) := by decide +kernel
theorem dX12_stop_18 : decode cX12_stop 18 = .ok (.ireturn, 1) := by decide +kernel
theorem dX12_wayLong_0 : decode cX12_wayLong 0 = .ok (.iconst 0, 1) := by decide +kernel
theorem dX12_wayLong_1 : decode cX12_wayLong 1 = .ok (.istore_n 2, 1) := by decide +kernel
theorem dX12_wayLong_2 : decode cX12_wayLong 2 = .ok (.iload_n 1, 1) := by decide +kernel
theorem dX12_wayLong_3 : decode cX12_wayLong 3 = .ok (.istore_n 3, 1) := by decide +kernel
theorem dX12_wayLong_4 : decode cX12_wayLong 4 = .ok (.aload_n 0, 1) := by decide +kernel
theorem dX12_wayLong_5 : decode cX12_wayLong 5 = .ok (.getfield 45, 3) := by decide +kernel
theorem dX12_wayLong_8 : decode cX12_wayLong 8 = .ok (.iload_n 3, 1) := by decide +kernel
theorem dX12_wayLong_9 : decode cX12_wayLong 9 = .ok (.iaload, 1) := by decide +kernel
theorem dX12_wayLong_10 : decode cX12_wayLong 10 = .ok (.iconst (-1), 1) := by decide +kernel
theorem dX12_wayLong_11 : decode cX12_wayLong 11 = .ok (.if_icmp .eq 16, 3) := by decide +kernel
theorem dX12_wayLong_14 : decode cX12_wayLong 14 = .ok (.iinc 2 1, 3) := by decide +kernel
theorem dX12_wayLong_17 : decode cX12_wayLong 17 = .ok (.aload_n 0, 1) := by decide +kernel
theorem dX12_wayLong_18 : decode cX12_wayLong 18 = .ok (.getfield 45, 3) := by decide +kernel
theorem dX12_wayLong_21 : decode cX12_wayLong 21 = .ok (.iload_n 3, 1) := by decide +kernel
theorem dX12_wayLong_22 : decode cX12_wayLong 22 = .ok (.iaload, 1) := by decide +kernel
theorem dX12_wayLong_23 : decode cX12_wayLong 23 = .ok (.istore_n 3, 1) := by decide +kernel
theorem dX12_wayLong_24 : decode cX12_wayLong 24 = .ok (.goto (-20), 3) := by decide +kernel
theorem dX12_wayLong_27 : decode cX12_wayLong 27 = .ok (.iload_n 2, 1) := by decide +kernel
theorem dX12_wayLong_28 : decode cX12_wayLong 28 = .ok (.ireturn, 1) := by decide +kernel
theorem dX12_way_0 : decode cX12_way 0 = .ok (.aload_n 0, 1) := by decide +kernel
theorem dX12_way_1 : decode cX12_way 1 = .ok (.invokevirtual 126, 3) := by decide +kernel
theorem dX12_way_4 : decode cX12_way 4 = .ok (.iload_n 1, 1) := by decide +kernel
theorem dX12_way_5 : decode cX12_way 5 = .ok (.invokestatic 111, 3) := by decide +kernel
theorem dX12_way_8 : decode cX12_way 8 = .ok (.ifCond .eq 21, 3) := by decide +kernel
theorem dX12_way_11 : decode cX12_way 11 = .ok (.aload_n 0, 1) := by decide +kernel
theorem dX12_way_12 : decode cX12_way 12 = .ok (.getfield 42, 3) := by decide +kernel
theorem dX12_way_15 : decode cX12_way 15 = .ok (.iload_n 1, 1) := by decide +kernel
theorem dX12_way_16 : decode cX12_way 16 = .ok (.iaload, 1) := by decide +kernel
theorem dX12_way_17 : decode cX12_way 17 = .ok (.iconst (-1), 1) := by decide +kernel
theorem dX12_way_18 : decode cX12_way 18 = .ok (.if_icmp .eq 11, 3) := by decide +kernel
theorem dX12_way_21 : decode cX12_way 21 = .ok (.aload_n 0, 1) := by decide +kernel
theorem dX12_way_22 : decode cX12_way 22 = .ok (.iload_n 1, 1) := by decide +kernel
theorem dX12_way_23 : decode cX12_way 23 = .ok (.invokevirtual 136, 3) := by decide +kernel
theorem dX12_way_26 : decode cX12_way 26 = .ok (.goto 4, 3) := by decide +kernel
theorem dX12_way_29 : decode cX12_way 29 = .ok (.iconst (-1), 1) := by decide +kernel
theorem dX12_way_30 : decode cX12_way 30 = .ok (.ireturn, 1) := by decide +kernel
theorem dX12_change_0 : decode cX12_change 0 = .ok (.aload_n 0, 1) := by decide +kernel
theorem dX12_change_1 : decode cX12_change 1 = .ok (.invokevirtual 126, 3) := by decide +kernel
theorem dX12_change_4 : decode cX12_change 4 = .ok (.iload_n 1, 1) := by decide +kernel
theorem dX12_change_5 : decode cX12_change 5 = .ok (.invokestatic 111, 3) := by decide +kernel
theorem dX12_change_8 : decode cX12_change 8 = .ok (.ifCond .eq 26, 3) := by decide +kernel
theorem dX12_change_11 : decode cX12_change 11 = .ok (.aload_n 0, 1) := by decide +kernel
theorem dX12_change_12 : decode cX12_change 12 = .ok (.getfield 42, 3) := by decide +kernel
theorem dX12_change_15 : decode cX12_change 15 = .ok (.iload_n 1, 1) := by decide +kernel
theorem dX12_change_16 : decode cX12_change 16 = .ok (.iaload, 1) := by decide +kernel
theorem dX12_change_17 : decode cX12_change 17 = .ok (.iconst (-1), 1) := by decide +kernel
theorem dX12_change_18 : decode cX12_change 18 = .ok (.if_icmp .eq 16, 3) := by decide +kernel
theorem dX12_change_21 : decode cX12_change 21 = .ok (.iload_n 2, 1) := by decide +kernel
theorem dX12_change_22 : decode cX12_change 22 = .ok (.ifCond .lt 12, 3) := by decide +kernel
theorem dX12_change_25 : decode cX12_change 25 = .ok (.iload_n 2, 1) := by decide +kernel
theorem dX12_change_26 : decode cX12_change 26 = .ok (.aload_n 0, 1) := by decide +kernel
theorem dX12_change_27 : decode cX12_change 27 = .ok (.iload_n 1, 1) := by decide +kernel
theorem dX12_change_28 : decode cX12_change 28 = .ok (.invokevirtual 136, 3) := by decide +kernel
theorem dX12_change_31 : decode cX12_change 31 = .ok (.if_icmp .lt 5, 3) := by decide +kernel
theorem dX12_change_34 : decode cX12_change 34 = .ok (.iconst (-1), 1) := by decide +kernel
theorem dX12_change_35 : decode cX12_change 35 = .ok (.ireturn, 1) := by decide +kernel
theorem dX12_change_36 : decode cX12_change 36 = .ok (.iload_n 1, 1) := by decide +kernel
theorem dX12_change_37 : decode cX12_change 37 = .ok (.istore_n 3, 1) := by decide +kernel
theorem dX12_change_38 : decode cX12_change 38 = .ok (.aload_n 0, 1) := by decide +kernel
theorem dX12_change_39 : decode cX12_change 39 = .ok (.iload_n 1, 1) := by decide +kernel
theorem dX12_change_40 : decode cX12_change 40 = .ok (.invokevirtual 136, 3) := by decide +kernel
theorem dX12_change_43 : decode cX12_change 43 = .ok (.iconst 1, 1) := by decide +kernel
theorem dX12_change_44 : decode cX12_change 44 = .ok (.isub, 1) := by decide +kernel
theorem dX12_change_45 : decode cX12_change 45 = .ok (.istore 4, 2) := by decide +kernel
theorem dX12_change_47 : decode cX12_change 47 = .ok (.iload 4, 2) := by decide +kernel
theorem dX12_change_49 : decode cX12_change 49 = .ok (.iload_n 2, 1) := by decide +kernel
theorem dX12_change_50 : decode cX12_change 50 = .ok (.if_icmp .le 16, 3) := by decide +kernel
theorem dX12_change_53 : decode cX12_change 53 = .ok (.aload_n 0, 1) := by decide +kernel
theorem dX12_change_54 : decode cX12_change 54 = .ok (.getfield 45, 3) := by decide +kernel
theorem dX12_change_57 : decode cX12_change 57 = .ok (.iload_n 3, 1) := by decide +kernel
theorem dX12_change_58 : decode cX12_change 58 = .ok (.iaload, 1) := by decide +kernel
theorem dX12_change_59 : decode cX12_change 59 = .ok (.istore_n 3, 1) := by decide +kernel
theorem dX12_change_60 : decode cX12_change 60 = .ok (.iinc 4 (-1), 3) := by decide +kernel
theorem dX12_change_63 : decode cX12_change 63 = .ok (.goto (-16), 3) := by decide +kernel
theorem dX12_change_66 : decode cX12_change 66 = .ok (.aload_n 0, 1) := by decide +kernel
theorem dX12_change_67 : decode cX12_change 67 = .ok (.getfield 48, 3) := by decide +kernel
theorem dX12_change_70 : decode cX12_change 70 = .ok (.iload_n 3, 1) := by decide +kernel
theorem dX12_change_71 : decode cX12_change 71 = .ok (.iaload, 1) := by decide +kernel
theorem dX12_change_72 : decode cX12_change 72 = .ok (.ireturn, 1) := by decide +kernel
theorem dX12_live_0 : decode cX12_live 0 = .ok (.aload_n 0, 1) := by decide +kernel
theorem dX12_live_1 : decode cX12_live 1 = .ok (.iconst 0, 1) := by decide +kernel
theorem dX12_live_2 : decode cX12_live 2 = .ok (.putfield 75, 3) := by decide +kernel
theorem dX12_live_5 : decode cX12_live 5 = .ok (.iload_n 1, 1) := by decide +kernel
theorem dX12_live_6 : decode cX12_live 6 = .ok (.invokestatic 117, 3) := by decide +kernel
theorem dX12_live_9 : decode cX12_live 9 = .ok (.ifCond .ne 5, 3) := by decide +kernel
theorem dX12_live_12 : decode cX12_live 12 = .ok (.iconst (-1), 1) := by decide +kernel
theorem dX12_live_13 : decode cX12_live 13 = .ok (.ireturn, 1) := by decide +kernel
theorem dX12_live_14 : decode cX12_live 14 = .ok (.aload_n 0, 1) := by decide +kernel
theorem dX12_live_15 : decode cX12_live 15 = .ok (.invokevirtual 126, 3) := by decide +kernel
theorem dX12_live_18 : decode cX12_live 18 = .ok (.iconst 0, 1) := by decide +kernel
theorem dX12_live_19 : decode cX12_live 19 = .ok (.istore_n 2, 1) := by decide +kernel
theorem dX12_live_20 : decode cX12_live 20 = .ok (.iload_n 2, 1) := by decide +kernel
theorem dX12_live_21 : decode cX12_live 21 = .ok (.aload_n 0, 1) := by decide +kernel
theorem dX12_live_22 : decode cX12_live 22 = .ok (.getfield 123, 3) := by decide +kernel
theorem dX12_live_25 : decode cX12_live 25 = .ok (.if_icmp .ge 21, 3) := by decide +kernel
theorem dX12_live_28 : decode cX12_live 28 = .ok (.aload_n 0, 1) := by decide +kernel
theorem dX12_live_29 : decode cX12_live 29 = .ok (.getfield 51, 3) := by decide +kernel
theorem dX12_live_32 : decode cX12_live 32 = .ok (.aload_n 0, 1) := by decide +kernel
theorem dX12_live_33 : decode cX12_live 33 = .ok (.getfield 39, 3) := by decide +kernel
theorem dX12_live_36 : decode cX12_live 36 = .ok (.iload_n 2, 1) := by decide +kernel
theorem dX12_live_37 : decode cX12_live 37 = .ok (.iaload, 1) := by decide +kernel
theorem dX12_live_38 : decode cX12_live 38 = .ok (.iconst 0, 1) := by decide +kernel
theorem dX12_live_39 : decode cX12_live 39 = .ok (.bastore, 1) := by decide +kernel
theorem dX12_live_40 : decode cX12_live 40 = .ok (.iinc 2 1, 3) := by decide +kernel
theorem dX12_live_43 : decode cX12_live 43 = .ok (.goto (-23), 3) := by decide +kernel
theorem dX12_live_46 : decode cX12_live 46 = .ok (.iconst 1, 1) := by decide +kernel
theorem dX12_live_47 : decode cX12_live 47 = .ok (.istore_n 2, 1) := by decide +kernel
theorem dX12_live_48 : decode cX12_live 48 = .ok (.iload_n 2, 1) := by decide +kernel
theorem dX12_live_49 : decode cX12_live 49 = .ok (.ifCond .eq 149, 3) := by decide +kernel
theorem dX12_live_52 : decode cX12_live 52 = .ok (.iconst 0, 1) := by decide +kernel
theorem dX12_live_53 : decode cX12_live 53 = .ok (.istore_n 2, 1) := by decide +kernel
theorem dX12_live_54 : decode cX12_live 54 = .ok (.aload_n 0, 1) := by decide +kernel
theorem dX12_live_55 : decode cX12_live 55 = .ok (.getfield 123, 3) := by decide +kernel
theorem dX12_live_58 : decode cX12_live 58 = .ok (.iconst 1, 1) := by decide +kernel
theorem dX12_live_59 : decode cX12_live 59 = .ok (.isub, 1) := by decide +kernel
theorem dX12_live_60 : decode cX12_live 60 = .ok (.istore_n 3, 1) := by decide +kernel
theorem dX12_live_61 : decode cX12_live 61 = .ok (.iload_n 3, 1) := by decide +kernel
theorem dX12_live_62 : decode cX12_live 62 = .ok (.ifCond .lt 133, 3) := by decide +kernel
theorem dX12_live_65 : decode cX12_live 65 = .ok (.aload_n 0, 1) := by decide +kernel
theorem dX12_live_66 : decode cX12_live 66 = .ok (.getfield 39, 3) := by decide +kernel
theorem dX12_live_69 : decode cX12_live 69 = .ok (.iload_n 3, 1) := by decide +kernel
theorem dX12_live_70 : decode cX12_live 70 = .ok (.iaload, 1) := by decide +kernel
theorem dX12_live_71 : decode cX12_live 71 = .ok (.istore 4, 2) := by decide +kernel
theorem dX12_live_73 : decode cX12_live 73 = .ok (.aload_n 0, 1) := by decide +kernel
theorem dX12_live_74 : decode cX12_live 74 = .ok (.getfield 51, 3) := by decide +kernel
theorem dX12_live_77 : decode cX12_live 77 = .ok (.iload 4, 2) := by decide +kernel
theorem dX12_live_79 : decode cX12_live 79 = .ok (.baload, 1) := by decide +kernel
theorem dX12_live_80 : decode cX12_live 80 = .ok (.ifCond .eq 6, 3) := by decide +kernel
theorem dX12_live_83 : decode cX12_live 83 = .ok (.goto 106, 3) := by decide +kernel
theorem dX12_live_86 : decode cX12_live 86 = .ok (.aload_n 0, 1) := by decide +kernel
theorem dX12_live_87 : decode cX12_live 87 = .ok (.iload 4, 2) := by decide +kernel
theorem dX12_live_89 : decode cX12_live 89 = .ok (.invokevirtual 120, 3) := by decide +kernel
theorem dX12_live_92 : decode cX12_live 92 = .ok (.istore 5, 2) := by decide +kernel
theorem dX12_live_94 : decode cX12_live 94 = .ok (.iload 5, 2) := by decide +kernel
theorem dX12_live_96 : decode cX12_live 96 = .ok (.iload_n 1, 1) := by decide +kernel
theorem dX12_live_97 : decode cX12_live 97 = .ok (.ishr, 1) := by decide +kernel
theorem dX12_live_98 : decode cX12_live 98 = .ok (.iconst 1, 1) := by decide +kernel
theorem dX12_live_99 : decode cX12_live 99 = .ok (.iand, 1) := by decide +kernel
theorem dX12_live_100 : decode cX12_live 100 = .ok (.iconst 1, 1) := by decide +kernel
theorem dX12_live_101 : decode cX12_live 101 = .ok (.if_icmp .ne 7, 3) := by decide +kernel
theorem dX12_live_104 : decode cX12_live 104 = .ok (.iconst 1, 1) := by decide +kernel
theorem dX12_live_105 : decode cX12_live 105 = .ok (.goto 4, 3) := by decide +kernel
theorem dX12_live_108 : decode cX12_live 108 = .ok (.iconst 0, 1) := by decide +kernel
theorem dX12_live_109 : decode cX12_live 109 = .ok (.istore 6, 2) := by decide +kernel
theorem dX12_live_111 : decode cX12_live 111 = .ok (.iconst 0, 1) := by decide +kernel
theorem dX12_live_112 : decode cX12_live 112 = .ok (.istore 7, 2) := by decide +kernel
theorem dX12_live_114 : decode cX12_live 114 = .ok (.iload 7, 2) := by decide +kernel
theorem dX12_live_116 : decode cX12_live 116 = .ok (.bipush 12, 2) := by decide +kernel
theorem dX12_live_118 : decode cX12_live 118 = .ok (.if_icmp .ge 47, 3) := by decide +kernel
theorem dX12_live_121 : decode cX12_live 121 = .ok (.iload 6, 2) := by decide +kernel
theorem dX12_live_123 : decode cX12_live 123 = .ok (.ifCond .ne 29, 3) := by decide +kernel
theorem dX12_live_126 : decode cX12_live 126 = .ok (.iload 5, 2) := by decide +kernel
theorem dX12_live_128 : decode cX12_live 128 = .ok (.iload 7, 2) := by decide +kernel
theorem dX12_live_130 : decode cX12_live 130 = .ok (.ishr, 1) := by decide +kernel
theorem dX12_live_131 : decode cX12_live 131 = .ok (.iconst 1, 1) := by decide +kernel
theorem dX12_live_132 : decode cX12_live 132 = .ok (.iand, 1) := by decide +kernel
theorem dX12_live_133 : decode cX12_live 133 = .ok (.iconst 1, 1) := by decide +kernel
theorem dX12_live_134 : decode cX12_live 134 = .ok (.if_icmp .ne 22, 3) := by decide +kernel
theorem dX12_live_137 : decode cX12_live 137 = .ok (.aload_n 0, 1) := by decide +kernel
theorem dX12_live_138 : decode cX12_live 138 = .ok (.getfield 51, 3) := by decide +kernel
theorem dX12_live_141 : decode cX12_live 141 = .ok (.iload 4, 2) := by decide +kernel
theorem dX12_live_143 : decode cX12_live 143 = .ok (.iconst 1, 1) := by decide +kernel
theorem dX12_live_144 : decode cX12_live 144 = .ok (.iload 7, 2) := by decide +kernel
theorem dX12_live_146 : decode cX12_live 146 = .ok (.ishl, 1) := by decide +kernel
theorem dX12_live_147 : decode cX12_live 147 = .ok (.ixor, 1) := by decide +kernel
theorem dX12_live_148 : decode cX12_live 148 = .ok (.baload, 1) := by decide +kernel
theorem dX12_live_149 : decode cX12_live 149 = .ok (.ifCond .eq 7, 3) := by decide +kernel
theorem dX12_live_152 : decode cX12_live 152 = .ok (.iconst 1, 1) := by decide +kernel
theorem dX12_live_153 : decode cX12_live 153 = .ok (.goto 4, 3) := by decide +kernel
theorem dX12_live_156 : decode cX12_live 156 = .ok (.iconst 0, 1) := by decide +kernel
theorem dX12_live_157 : decode cX12_live 157 = .ok (.istore 6, 2) := by decide +kernel
theorem dX12_live_159 : decode cX12_live 159 = .ok (.iinc 7 1, 3) := by decide +kernel
theorem dX12_live_162 : decode cX12_live 162 = .ok (.goto (-48), 3) := by decide +kernel
theorem dX12_live_165 : decode cX12_live 165 = .ok (.aload_n 0, 1) := by decide +kernel
theorem dX12_live_166 : decode cX12_live 166 = .ok (.getfield 51, 3) := by decide +kernel
theorem dX12_live_169 : decode cX12_live 169 = .ok (.iload 4, 2) := by decide +kernel
theorem dX12_live_171 : decode cX12_live 171 = .ok (.iload 6, 2) := by decide +kernel
theorem dX12_live_173 : decode cX12_live 173 = .ok (.bastore, 1) := by decide +kernel
theorem dX12_live_174 : decode cX12_live 174 = .ok (.iload_n 2, 1) := by decide +kernel
theorem dX12_live_175 : decode cX12_live 175 = .ok (.ifCond .ne 8, 3) := by decide +kernel
theorem dX12_live_178 : decode cX12_live 178 = .ok (.iload 6, 2) := by decide +kernel
theorem dX12_live_180 : decode cX12_live 180 = .ok (.ifCond .eq 7, 3) := by decide +kernel
theorem dX12_live_183 : decode cX12_live 183 = .ok (.iconst 1, 1) := by decide +kernel
theorem dX12_live_184 : decode cX12_live 184 = .ok (.goto 4, 3) := by decide +kernel
theorem dX12_live_187 : decode cX12_live 187 = .ok (.iconst 0, 1) := by decide +kernel
theorem dX12_live_188 : decode cX12_live 188 = .ok (.istore_n 2, 1) := by decide +kernel
theorem dX12_live_189 : decode cX12_live 189 = .ok (.iinc 3 (-1), 3) := by decide +kernel
theorem dX12_live_192 : decode cX12_live 192 = .ok (.goto (-131), 3) := by decide +kernel
theorem dX12_live_195 : decode cX12_live 195 = .ok (.goto (-147), 3) := by decide +kernel
theorem dX12_live_198 : decode cX12_live 198 = .ok (.iconst 0, 1) := by decide +kernel
theorem dX12_live_199 : decode cX12_live 199 = .ok (.istore_n 3, 1) := by decide +kernel
theorem dX12_live_200 : decode cX12_live 200 = .ok (.iload_n 3, 1) := by decide +kernel
theorem dX12_live_201 : decode cX12_live 201 = .ok (.aload_n 0, 1) := by decide +kernel
theorem dX12_live_202 : decode cX12_live 202 = .ok (.getfield 123, 3) := by decide +kernel
theorem dX12_live_205 : decode cX12_live 205 = .ok (.if_icmp .ge 25, 3) := by decide +kernel
theorem dX12_live_208 : decode cX12_live 208 = .ok (.aload_n 0, 1) := by decide +kernel
theorem dX12_live_209 : decode cX12_live 209 = .ok (.getfield 51, 3) := by decide +kernel
theorem dX12_live_212 : decode cX12_live 212 = .ok (.aload_n 0, 1) := by decide +kernel
theorem dX12_live_213 : decode cX12_live 213 = .ok (.getfield 39, 3) := by decide +kernel
theorem dX12_live_216 : decode cX12_live 216 = .ok (.iload_n 3, 1) := by decide +kernel
theorem dX12_live_217 : decode cX12_live 217 = .ok (.iaload, 1) := by decide +kernel
theorem dX12_live_218 : decode cX12_live 218 = .ok (.baload, 1) := by decide +kernel
theorem dX12_live_219 : decode cX12_live 219 = .ok (.ifCond .ne 5, 3) := by decide +kernel
theorem dX12_live_222 : decode cX12_live 222 = .ok (.iconst 0, 1) := by decide +kernel
theorem dX12_live_223 : decode cX12_live 223 = .ok (.ireturn, 1) := by decide +kernel
theorem dX12_live_224 : decode cX12_live 224 = .ok (.iinc 3 1, 3) := by decide +kernel
theorem dX12_live_227 : decode cX12_live 227 = .ok (.goto (-27), 3) := by decide +kernel
theorem dX12_live_230 : decode cX12_live 230 = .ok (.iconst 1, 1) := by decide +kernel
theorem dX12_live_231 : decode cX12_live 231 = .ok (.ireturn, 1) := by decide +kernel
theorem dX12_both_0 : decode cX12_both 0 = .ok (.aload_n 0, 1) := by decide +kernel
theorem dX12_both_1 : decode cX12_both 1 = .ok (.invokevirtual 126, 3) := by decide +kernel
theorem dX12_both_4 : decode cX12_both 4 = .ok (.iload_n 1, 1) := by decide +kernel
theorem dX12_both_5 : decode cX12_both 5 = .ok (.invokestatic 111, 3) := by decide +kernel
theorem dX12_both_8 : decode cX12_both 8 = .ok (.ifCond .ne 5, 3) := by decide +kernel
theorem dX12_both_11 : decode cX12_both 11 = .ok (.iconst (-1), 1) := by decide +kernel
theorem dX12_both_12 : decode cX12_both 12 = .ok (.ireturn, 1) := by decide +kernel
theorem dX12_both_13 : decode cX12_both 13 = .ok (.iconst 0, 1) := by decide +kernel
theorem dX12_both_14 : decode cX12_both 14 = .ok (.istore_n 2, 1) := by decide +kernel
theorem dX12_both_15 : decode cX12_both 15 = .ok (.iload_n 2, 1) := by decide +kernel
theorem dX12_both_16 : decode cX12_both 16 = .ok (.aload_n 0, 1) := by decide +kernel
theorem dX12_both_17 : decode cX12_both 17 = .ok (.getfield 123, 3) := by decide +kernel
theorem dX12_both_20 : decode cX12_both 20 = .ok (.if_icmp .ge 28, 3) := by decide +kernel
theorem dX12_both_23 : decode cX12_both 23 = .ok (.aload_n 0, 1) := by decide +kernel
theorem dX12_both_24 : decode cX12_both 24 = .ok (.getfield 39, 3) := by decide +kernel
theorem dX12_both_27 : decode cX12_both 27 = .ok (.iload_n 2, 1) := by decide +kernel
theorem dX12_both_28 : decode cX12_both 28 = .ok (.iaload, 1) := by decide +kernel
theorem dX12_both_29 : decode cX12_both 29 = .ok (.iload_n 1, 1) := by decide +kernel
theorem dX12_both_30 : decode cX12_both 30 = .ok (.iand, 1) := by decide +kernel
theorem dX12_both_31 : decode cX12_both 31 = .ok (.iload_n 1, 1) := by decide +kernel
theorem dX12_both_32 : decode cX12_both 32 = .ok (.if_icmp .ne 10, 3) := by decide +kernel
theorem dX12_both_35 : decode cX12_both 35 = .ok (.aload_n 0, 1) := by decide +kernel
theorem dX12_both_36 : decode cX12_both 36 = .ok (.getfield 39, 3) := by decide +kernel
theorem dX12_both_39 : decode cX12_both 39 = .ok (.iload_n 2, 1) := by decide +kernel
theorem dX12_both_40 : decode cX12_both 40 = .ok (.iaload, 1) := by decide +kernel
theorem dX12_both_41 : decode cX12_both 41 = .ok (.ireturn, 1) := by decide +kernel
theorem dX12_both_42 : decode cX12_both 42 = .ok (.iinc 2 1, 3) := by decide +kernel
theorem dX12_both_45 : decode cX12_both 45 = .ok (.goto (-30), 3) := by decide +kernel
theorem dX12_both_48 : decode cX12_both 48 = .ok (.iconst (-1), 1) := by decide +kernel
theorem dX12_both_49 : decode cX12_both 49 = .ok (.ireturn, 1) := by decide +kernel
theorem dX12_runs_0 : decode cX12_runs 0 = .ok (.iconst 0, 1) := by decide +kernel
theorem dX12_runs_1 : decode cX12_runs 1 = .ok (.istore 4, 2) := by decide +kernel
theorem dX12_runs_3 : decode cX12_runs 3 = .ok (.iload 4, 2) := by decide +kernel
theorem dX12_runs_5 : decode cX12_runs 5 = .ok (.bipush 12, 2) := by decide +kernel
theorem dX12_runs_7 : decode cX12_runs 7 = .ok (.if_icmp .ge 17, 3) := by decide +kernel
theorem dX12_runs_10 : decode cX12_runs 10 = .ok (.aload_n 0, 1) := by decide +kernel
theorem dX12_runs_11 : decode cX12_runs 11 = .ok (.getfield 54, 3) := by decide +kernel
theorem dX12_runs_14 : decode cX12_runs 14 = .ok (.iload 4, 2) := by decide +kernel
theorem dX12_runs_16 : decode cX12_runs 16 = .ok (.iconst 0, 1) := by decide +kernel
theorem dX12_runs_17 : decode cX12_runs 17 = .ok (.iastore, 1) := by decide +kernel
theorem dX12_runs_18 : decode cX12_runs 18 = .ok (.iinc 4 1, 3) := by decide +kernel
theorem dX12_runs_21 : decode cX12_runs 21 = .ok (.goto (-18), 3) := by decide +kernel
theorem dX12_runs_24 : decode cX12_runs 24 = .ok (.aload_n 0, 1) := by decide +kernel
theorem dX12_runs_25 : decode cX12_runs 25 = .ok (.getfield 114, 3) := by decide +kernel
theorem dX12_runs_28 : decode cX12_runs 28 = .ok (.istore 4, 2) := by decide +kernel
theorem dX12_runs_30 : decode cX12_runs 30 = .ok (.lload_n 2, 1) := by decide +kernel
theorem dX12_runs_31 : decode cX12_runs 31 = .ok (.lstore 5, 2) := by decide +kernel
theorem dX12_runs_33 : decode cX12_runs 33 = .ok (.iconst 0, 1) := by decide +kernel
theorem dX12_runs_34 : decode cX12_runs 34 = .ok (.istore 7, 2) := by decide +kernel
theorem dX12_runs_36 : decode cX12_runs 36 = .ok (.iload 7, 2) := by decide +kernel
theorem dX12_runs_38 : decode cX12_runs 38 = .ok (.iload_n 1, 1) := by decide +kernel
theorem dX12_runs_39 : decode cX12_runs 39 = .ok (.if_icmp .ge 108, 3) := by decide +kernel
theorem dX12_runs_42 : decode cX12_runs 42 = .ok (.aload_n 0, 1) := by decide +kernel
theorem dX12_runs_43 : decode cX12_runs 43 = .ok (.iload 4, 2) := by decide +kernel
theorem dX12_runs_45 : decode cX12_runs 45 = .ok (.invokevirtual 120, 3) := by decide +kernel
theorem dX12_runs_48 : decode cX12_runs 48 = .ok (.istore 8, 2) := by decide +kernel
theorem dX12_runs_50 : decode cX12_runs 50 = .ok (.iload 8, 2) := by decide +kernel
theorem dX12_runs_52 : decode cX12_runs 52 = .ok (.ifCond .ne 6, 3) := by decide +kernel
theorem dX12_runs_55 : decode cX12_runs 55 = .ok (.iload 4, 2) := by decide +kernel
theorem dX12_runs_57 : decode cX12_runs 57 = .ok (.ireturn, 1) := by decide +kernel
theorem dX12_runs_58 : decode cX12_runs 58 = .ok (.lload 5, 2) := by decide +kernel
theorem dX12_runs_60 : decode cX12_runs 60 = .ok (.ldc2_w 139, 3) := by decide +kernel
theorem dX12_runs_63 : decode cX12_runs 63 = .ok (.lmul, 1) := by decide +kernel
theorem dX12_runs_64 : decode cX12_runs 64 = .ok (.ldc2_w 141, 3) := by decide +kernel
theorem dX12_runs_67 : decode cX12_runs 67 = .ok (.ladd, 1) := by decide +kernel
theorem dX12_runs_68 : decode cX12_runs 68 = .ok (.lstore 5, 2) := by decide +kernel
theorem dX12_runs_70 : decode cX12_runs 70 = .ok (.lload 5, 2) := by decide +kernel
theorem dX12_runs_72 : decode cX12_runs 72 = .ok (.bipush 33, 2) := by decide +kernel
theorem dX12_runs_74 : decode cX12_runs 74 = .ok (.lushr, 1) := by decide +kernel
theorem dX12_runs_75 : decode cX12_runs 75 = .ok (.iload 8, 2) := by decide +kernel
theorem dX12_runs_77 : decode cX12_runs 77 = .ok (.invokestatic 143, 3) := by decide +kernel
theorem dX12_runs_80 : decode cX12_runs 80 = .ok (.i2l, 1) := by decide +kernel
theorem dX12_runs_81 : decode cX12_runs 81 = .ok (.lrem, 1) := by decide +kernel
theorem dX12_runs_82 : decode cX12_runs 82 = .ok (.l2i, 1) := by decide +kernel
theorem dX12_runs_83 : decode cX12_runs 83 = .ok (.istore 9, 2) := by decide +kernel
theorem dX12_runs_85 : decode cX12_runs 85 = .ok (.iconst 0, 1) := by decide +kernel
theorem dX12_runs_86 : decode cX12_runs 86 = .ok (.istore 10, 2) := by decide +kernel
theorem dX12_runs_88 : decode cX12_runs 88 = .ok (.iload 8, 2) := by decide +kernel
theorem dX12_runs_90 : decode cX12_runs 90 = .ok (.iload 10, 2) := by decide +kernel
theorem dX12_runs_92 : decode cX12_runs 92 = .ok (.ishr, 1) := by decide +kernel
theorem dX12_runs_93 : decode cX12_runs 93 = .ok (.iconst 1, 1) := by decide +kernel
theorem dX12_runs_94 : decode cX12_runs 94 = .ok (.iand, 1) := by decide +kernel
theorem dX12_runs_95 : decode cX12_runs 95 = .ok (.ifCond .eq 8, 3) := by decide +kernel
theorem dX12_runs_98 : decode cX12_runs 98 = .ok (.iload 9, 2) := by decide +kernel
theorem dX12_runs_100 : decode cX12_runs 100 = .ok (.ifCond .le 21, 3) := by decide +kernel
theorem dX12_runs_103 : decode cX12_runs 103 = .ok (.iload 9, 2) := by decide +kernel
theorem dX12_runs_105 : decode cX12_runs 105 = .ok (.iload 8, 2) := by decide +kernel
theorem dX12_runs_107 : decode cX12_runs 107 = .ok (.iload 10, 2) := by decide +kernel
theorem dX12_runs_109 : decode cX12_runs 109 = .ok (.ishr, 1) := by decide +kernel
theorem dX12_runs_110 : decode cX12_runs 110 = .ok (.iconst 1, 1) := by decide +kernel
theorem dX12_runs_111 : decode cX12_runs 111 = .ok (.iand, 1) := by decide +kernel
theorem dX12_runs_112 : decode cX12_runs 112 = .ok (.isub, 1) := by decide +kernel
theorem dX12_runs_113 : decode cX12_runs 113 = .ok (.istore 9, 2) := by decide +kernel
theorem dX12_runs_115 : decode cX12_runs 115 = .ok (.iinc 10 1, 3) := by decide +kernel
theorem dX12_runs_118 : decode cX12_runs 118 = .ok (.goto (-30), 3) := by decide +kernel
theorem dX12_runs_121 : decode cX12_runs 121 = .ok (.iload 4, 2) := by decide +kernel
theorem dX12_runs_123 : decode cX12_runs 123 = .ok (.iconst 1, 1) := by decide +kernel
theorem dX12_runs_124 : decode cX12_runs 124 = .ok (.iload 10, 2) := by decide +kernel
theorem dX12_runs_126 : decode cX12_runs 126 = .ok (.ishl, 1) := by decide +kernel
theorem dX12_runs_127 : decode cX12_runs 127 = .ok (.ixor, 1) := by decide +kernel
theorem dX12_runs_128 : decode cX12_runs 128 = .ok (.istore 4, 2) := by decide +kernel
theorem dX12_runs_130 : decode cX12_runs 130 = .ok (.aload_n 0, 1) := by decide +kernel
theorem dX12_runs_131 : decode cX12_runs 131 = .ok (.getfield 54, 3) := by decide +kernel
theorem dX12_runs_134 : decode cX12_runs 134 = .ok (.iload 10, 2) := by decide +kernel
theorem dX12_runs_136 : decode cX12_runs 136 = .ok (.dup2, 1) := by decide +kernel
theorem dX12_runs_137 : decode cX12_runs 137 = .ok (.iaload, 1) := by decide +kernel
theorem dX12_runs_138 : decode cX12_runs 138 = .ok (.iconst 1, 1) := by decide +kernel
theorem dX12_runs_139 : decode cX12_runs 139 = .ok (.iadd, 1) := by decide +kernel
theorem dX12_runs_140 : decode cX12_runs 140 = .ok (.iastore, 1) := by decide +kernel
theorem dX12_runs_141 : decode cX12_runs 141 = .ok (.iinc 7 1, 3) := by decide +kernel
theorem dX12_runs_144 : decode cX12_runs 144 = .ok (.goto (-108), 3) := by decide +kernel
theorem dX12_runs_147 : decode cX12_runs 147 = .ok (.iload 4, 2) := by decide +kernel
theorem dX12_runs_149 : decode cX12_runs 149 = .ok (.ireturn, 1) := by decide +kernel
theorem dX12_run_0 : decode cX12_run 0 = .ok (.aload_n 0, 1) := by decide +kernel
theorem dX12_run_1 : decode cX12_run 1 = .ok (.iconst 0, 1) := by decide +kernel
theorem dX12_run_2 : decode cX12_run 2 = .ok (.putfield 75, 3) := by decide +kernel
theorem dX12_run_5 : decode cX12_run 5 = .ok (.iload_n 1, 1) := by decide +kernel
theorem dX12_run_6 : decode cX12_run 6 = .ok (.iconst 0, 1) := by decide +kernel
theorem dX12_run_7 : decode cX12_run 7 = .ok (.sipush 2000, 3) := by decide +kernel
theorem dX12_run_10 : decode cX12_run 10 = .ok (.invokestatic 148, 3) := by decide +kernel
theorem dX12_run_13 : decode cX12_run 13 = .ok (.ifCond .eq 12, 3) := by decide +kernel
theorem dX12_run_16 : decode cX12_run 16 = .ok (.aload_n 0, 1) := by decide +kernel
theorem dX12_run_17 : decode cX12_run 17 = .ok (.iload_n 1, 1) := by decide +kernel
theorem dX12_run_18 : decode cX12_run 18 = .ok (.lload_n 2, 1) := by decide +kernel
theorem dX12_run_19 : decode cX12_run 19 = .ok (.invokevirtual 152, 3) := by decide +kernel
theorem dX12_run_22 : decode cX12_run 22 = .ok (.goto 4, 3) := by decide +kernel
theorem dX12_run_25 : decode cX12_run 25 = .ok (.iconst (-1), 1) := by decide +kernel
theorem dX12_run_26 : decode cX12_run 26 = .ok (.ireturn, 1) := by decide +kernel
theorem dX12_changed_0 : decode cX12_changed 0 = .ok (.aload_n 0, 1) := by decide +kernel
theorem dX12_changed_1 : decode cX12_changed 1 = .ok (.iconst 0, 1) := by decide +kernel
theorem dX12_changed_2 : decode cX12_changed 2 = .ok (.putfield 75, 3) := by decide +kernel
theorem dX12_changed_5 : decode cX12_changed 5 = .ok (.iload_n 1, 1) := by decide +kernel
theorem dX12_changed_6 : decode cX12_changed 6 = .ok (.iconst 0, 1) := by decide +kernel
theorem dX12_changed_7 : decode cX12_changed 7 = .ok (.sipush 2000, 3) := by decide +kernel
theorem dX12_changed_10 : decode cX12_changed 10 = .ok (.invokestatic 148, 3) := by decide +kernel
theorem dX12_changed_13 : decode cX12_changed 13 = .ok (.ifCond .eq 11, 3) := by decide +kernel
theorem dX12_changed_16 : decode cX12_changed 16 = .ok (.iload 4, 2) := by decide +kernel
theorem dX12_changed_18 : decode cX12_changed 18 = .ok (.invokestatic 117, 3) := by decide +kernel
theorem dX12_changed_21 : decode cX12_changed 21 = .ok (.ifCond .ne 5, 3) := by decide +kernel
theorem dX12_changed_24 : decode cX12_changed 24 = .ok (.iconst (-1), 1) := by decide +kernel
theorem dX12_changed_25 : decode cX12_changed 25 = .ok (.ireturn, 1) := by decide +kernel
theorem dX12_changed_26 : decode cX12_changed 26 = .ok (.aload_n 0, 1) := by decide +kernel
theorem dX12_changed_27 : decode cX12_changed 27 = .ok (.iload_n 1, 1) := by decide +kernel
theorem dX12_changed_28 : decode cX12_changed 28 = .ok (.lload_n 2, 1) := by decide +kernel
theorem dX12_changed_29 : decode cX12_changed 29 = .ok (.invokevirtual 152, 3) := by decide +kernel
theorem dX12_changed_32 : decode cX12_changed 32 = .ok (.istore 5, 2) := by decide +kernel
theorem dX12_changed_34 : decode cX12_changed 34 = .ok (.aload_n 0, 1) := by decide +kernel
theorem dX12_changed_35 : decode cX12_changed 35 = .ok (.getfield 54, 3) := by decide +kernel
theorem dX12_changed_38 : decode cX12_changed 38 = .ok (.iload 4, 2) := by decide +kernel
theorem dX12_changed_40 : decode cX12_changed 40 = .ok (.iaload, 1) := by decide +kernel
theorem dX12_changed_41 : decode cX12_changed 41 = .ok (.ireturn, 1) := by decide +kernel
theorem dX12_node_0 : decode cX12_node 0 = .ok (.aload_n 0, 1) := by decide +kernel
theorem dX12_node_1 : decode cX12_node 1 = .ok (.iconst 0, 1) := by decide +kernel
theorem dX12_node_2 : decode cX12_node 2 = .ok (.putfield 75, 3) := by decide +kernel
theorem dX12_node_5 : decode cX12_node 5 = .ok (.aload_n 0, 1) := by decide +kernel
theorem dX12_node_6 : decode cX12_node 6 = .ok (.getfield 156, 3) := by decide +kernel
theorem dX12_node_9 : decode cX12_node 9 = .ok (.bipush 10, 2) := by decide +kernel
theorem dX12_node_11 : decode cX12_node 11 = .ok (.if_icmp .eq 13, 3) := by decide +kernel
theorem dX12_node_14 : decode cX12_node 14 = .ok (.iload_n 1, 1) := by decide +kernel
theorem dX12_node_15 : decode cX12_node 15 = .ok (.iconst 0, 1) := by decide +kernel
theorem dX12_node_16 : decode cX12_node 16 = .ok (.bipush 100, 2) := by decide +kernel
theorem dX12_node_18 : decode cX12_node 18 = .ok (.invokestatic 148, 3) := by decide +kernel
theorem dX12_node_21 : decode cX12_node 21 = .ok (.ifCond .ne 5, 3) := by decide +kernel
theorem dX12_node_24 : decode cX12_node 24 = .ok (.iconst (-1), 1) := by decide +kernel
theorem dX12_node_25 : decode cX12_node 25 = .ok (.ireturn, 1) := by decide +kernel
theorem dX12_node_26 : decode cX12_node 26 = .ok (.aload_n 0, 1) := by decide +kernel
theorem dX12_node_27 : decode cX12_node 27 = .ok (.getfield 57, 3) := by decide +kernel
theorem dX12_node_30 : decode cX12_node 30 = .ok (.aload_n 0, 1) := by decide +kernel
theorem dX12_node_31 : decode cX12_node 31 = .ok (.getfield 156, 3) := by decide +kernel
theorem dX12_node_34 : decode cX12_node 34 = .ok (.iload_n 1, 1) := by decide +kernel
theorem dX12_node_35 : decode cX12_node 35 = .ok (.iastore, 1) := by decide +kernel
theorem dX12_node_36 : decode cX12_node 36 = .ok (.aload_n 0, 1) := by decide +kernel
theorem dX12_node_37 : decode cX12_node 37 = .ok (.dup, 1) := by decide +kernel
theorem dX12_node_38 : decode cX12_node 38 = .ok (.getfield 156, 3) := by decide +kernel
theorem dX12_node_41 : decode cX12_node 41 = .ok (.iconst 1, 1) := by decide +kernel
theorem dX12_node_42 : decode cX12_node 42 = .ok (.iadd, 1) := by decide +kernel
theorem dX12_node_43 : decode cX12_node 43 = .ok (.putfield 156, 3) := by decide +kernel
theorem dX12_node_46 : decode cX12_node 46 = .ok (.aload_n 0, 1) := by decide +kernel
theorem dX12_node_47 : decode cX12_node 47 = .ok (.getfield 156, 3) := by decide +kernel
theorem dX12_node_50 : decode cX12_node 50 = .ok (.iconst 1, 1) := by decide +kernel
theorem dX12_node_51 : decode cX12_node 51 = .ok (.isub, 1) := by decide +kernel
theorem dX12_node_52 : decode cX12_node 52 = .ok (.ireturn, 1) := by decide +kernel
theorem dX12_arc_0 : decode cX12_arc 0 = .ok (.aload_n 0, 1) := by decide +kernel
theorem dX12_arc_1 : decode cX12_arc 1 = .ok (.iconst 0, 1) := by decide +kernel
theorem dX12_arc_2 : decode cX12_arc 2 = .ok (.putfield 75, 3) := by decide +kernel
theorem dX12_arc_5 : decode cX12_arc 5 = .ok (.aload_n 0, 1) := by decide +kernel
theorem dX12_arc_6 : decode cX12_arc 6 = .ok (.getfield 159, 3) := by decide +kernel
theorem dX12_arc_9 : decode cX12_arc 9 = .ok (.bipush 20, 2) := by decide +kernel
theorem dX12_arc_11 : decode cX12_arc 11 = .ok (.if_icmp .eq 41, 3) := by decide +kernel
theorem dX12_arc_14 : decode cX12_arc 14 = .ok (.iload_n 1, 1) := by decide +kernel
theorem dX12_arc_15 : decode cX12_arc 15 = .ok (.iconst 0, 1) := by decide +kernel
theorem dX12_arc_16 : decode cX12_arc 16 = .ok (.aload_n 0, 1) := by decide +kernel
theorem dX12_arc_17 : decode cX12_arc 17 = .ok (.getfield 156, 3) := by decide +kernel
theorem dX12_arc_20 : decode cX12_arc 20 = .ok (.iconst 1, 1) := by decide +kernel
theorem dX12_arc_21 : decode cX12_arc 21 = .ok (.isub, 1) := by decide +kernel
theorem dX12_arc_22 : decode cX12_arc 22 = .ok (.invokestatic 148, 3) := by decide +kernel
theorem dX12_arc_25 : decode cX12_arc 25 = .ok (.ifCond .eq 27, 3) := by decide +kernel
theorem dX12_arc_28 : decode cX12_arc 28 = .ok (.iload_n 2, 1) := by decide +kernel
theorem dX12_arc_29 : decode cX12_arc 29 = .ok (.iconst 0, 1) := by decide +kernel
theorem dX12_arc_30 : decode cX12_arc 30 = .ok (.aload_n 0, 1) := by decide +kernel
theorem dX12_arc_31 : decode cX12_arc 31 = .ok (.getfield 156, 3) := by decide +kernel
theorem dX12_arc_34 : decode cX12_arc 34 = .ok (.iconst 1, 1) := by decide +kernel
theorem dX12_arc_35 : decode cX12_arc 35 = .ok (.isub, 1) := by decide +kernel
theorem dX12_arc_36 : decode cX12_arc 36 = .ok (.invokestatic 148, 3) := by decide +kernel
theorem dX12_arc_39 : decode cX12_arc 39 = .ok (.ifCond .eq 13, 3) := by decide +kernel
theorem dX12_arc_42 : decode cX12_arc 42 = .ok (.iload_n 3, 1) := by decide +kernel
theorem dX12_arc_43 : decode cX12_arc 43 = .ok (.iconst 0, 1) := by decide +kernel
theorem dX12_arc_44 : decode cX12_arc 44 = .ok (.bipush 9, 2) := by decide +kernel
theorem dX12_arc_46 : decode cX12_arc 46 = .ok (.invokestatic 148, 3) := by decide +kernel
theorem dX12_arc_49 : decode cX12_arc 49 = .ok (.ifCond .ne 5, 3) := by decide +kernel
theorem dX12_arc_52 : decode cX12_arc 52 = .ok (.iconst (-1), 1) := by decide +kernel
theorem dX12_arc_53 : decode cX12_arc 53 = .ok (.ireturn, 1) := by decide +kernel
theorem dX12_arc_54 : decode cX12_arc 54 = .ok (.aload_n 0, 1) := by decide +kernel
theorem dX12_arc_55 : decode cX12_arc 55 = .ok (.getfield 60, 3) := by decide +kernel
theorem dX12_arc_58 : decode cX12_arc 58 = .ok (.aload_n 0, 1) := by decide +kernel
theorem dX12_arc_59 : decode cX12_arc 59 = .ok (.getfield 159, 3) := by decide +kernel
theorem dX12_arc_62 : decode cX12_arc 62 = .ok (.iload_n 1, 1) := by decide +kernel
theorem dX12_arc_63 : decode cX12_arc 63 = .ok (.iastore, 1) := by decide +kernel
theorem dX12_arc_64 : decode cX12_arc 64 = .ok (.aload_n 0, 1) := by decide +kernel
theorem dX12_arc_65 : decode cX12_arc 65 = .ok (.getfield 63, 3) := by decide +kernel
theorem dX12_arc_68 : decode cX12_arc 68 = .ok (.aload_n 0, 1) := by decide +kernel
theorem dX12_arc_69 : decode cX12_arc 69 = .ok (.getfield 159, 3) := by decide +kernel
theorem dX12_arc_72 : decode cX12_arc 72 = .ok (.iload_n 2, 1) := by decide +kernel
theorem dX12_arc_73 : decode cX12_arc 73 = .ok (.iastore, 1) := by decide +kernel
theorem dX12_arc_74 : decode cX12_arc 74 = .ok (.aload_n 0, 1) := by decide +kernel
theorem dX12_arc_75 : decode cX12_arc 75 = .ok (.getfield 66, 3) := by decide +kernel
theorem dX12_arc_78 : decode cX12_arc 78 = .ok (.aload_n 0, 1) := by decide +kernel
theorem dX12_arc_79 : decode cX12_arc 79 = .ok (.getfield 159, 3) := by decide +kernel
theorem dX12_arc_82 : decode cX12_arc 82 = .ok (.iload_n 3, 1) := by decide +kernel
theorem dX12_arc_83 : decode cX12_arc 83 = .ok (.iastore, 1) := by decide +kernel
theorem dX12_arc_84 : decode cX12_arc 84 = .ok (.aload_n 0, 1) := by decide +kernel
theorem dX12_arc_85 : decode cX12_arc 85 = .ok (.dup, 1) := by decide +kernel
theorem dX12_arc_86 : decode cX12_arc 86 = .ok (.getfield 159, 3) := by decide +kernel
theorem dX12_arc_89 : decode cX12_arc 89 = .ok (.iconst 1, 1) := by decide +kernel
theorem dX12_arc_90 : decode cX12_arc 90 = .ok (.iadd, 1) := by decide +kernel
theorem dX12_arc_91 : decode cX12_arc 91 = .ok (.putfield 159, 3) := by decide +kernel
theorem dX12_arc_94 : decode cX12_arc 94 = .ok (.aload_n 0, 1) := by decide +kernel
theorem dX12_arc_95 : decode cX12_arc 95 = .ok (.getfield 159, 3) := by decide +kernel
theorem dX12_arc_98 : decode cX12_arc 98 = .ok (.iconst 1, 1) := by decide +kernel
theorem dX12_arc_99 : decode cX12_arc 99 = .ok (.isub, 1) := by decide +kernel
theorem dX12_arc_100 : decode cX12_arc 100 = .ok (.ireturn, 1) := by decide +kernel
theorem dX12_tokens_0 : decode cX12_tokens 0 = .ok (.aload_n 0, 1) := by decide +kernel
theorem dX12_tokens_1 : decode cX12_tokens 1 = .ok (.iconst 0, 1) := by decide +kernel
theorem dX12_tokens_2 : decode cX12_tokens 2 = .ok (.putfield 75, 3) := by decide +kernel
theorem dX12_tokens_5 : decode cX12_tokens 5 = .ok (.iload_n 1, 1) := by decide +kernel
theorem dX12_tokens_6 : decode cX12_tokens 6 = .ok (.iconst 0, 1) := by decide +kernel
theorem dX12_tokens_7 : decode cX12_tokens 7 = .ok (.aload_n 0, 1) := by decide +kernel
theorem dX12_tokens_8 : decode cX12_tokens 8 = .ok (.getfield 159, 3) := by decide +kernel
theorem dX12_tokens_11 : decode cX12_tokens 11 = .ok (.iconst 1, 1) := by decide +kernel
theorem dX12_tokens_12 : decode cX12_tokens 12 = .ok (.isub, 1) := by decide +kernel
theorem dX12_tokens_13 : decode cX12_tokens 13 = .ok (.invokestatic 148, 3) := by decide +kernel
theorem dX12_tokens_16 : decode cX12_tokens 16 = .ok (.ifCond .eq 13, 3) := by decide +kernel
theorem dX12_tokens_19 : decode cX12_tokens 19 = .ok (.iload_n 2, 1) := by decide +kernel
theorem dX12_tokens_20 : decode cX12_tokens 20 = .ok (.iconst 0, 1) := by decide +kernel
theorem dX12_tokens_21 : decode cX12_tokens 21 = .ok (.bipush 9, 2) := by decide +kernel
theorem dX12_tokens_23 : decode cX12_tokens 23 = .ok (.invokestatic 148, 3) := by decide +kernel
theorem dX12_tokens_26 : decode cX12_tokens 26 = .ok (.ifCond .ne 5, 3) := by decide +kernel
theorem dX12_tokens_29 : decode cX12_tokens 29 = .ok (.iconst 0, 1) := by decide +kernel
theorem dX12_tokens_30 : decode cX12_tokens 30 = .ok (.ireturn, 1) := by decide +kernel
theorem dX12_tokens_31 : decode cX12_tokens 31 = .ok (.aload_n 0, 1) := by decide +kernel
theorem dX12_tokens_32 : decode cX12_tokens 32 = .ok (.getfield 66, 3) := by decide +kernel
theorem dX12_tokens_35 : decode cX12_tokens 35 = .ok (.iload_n 1, 1) := by decide +kernel
theorem dX12_tokens_36 : decode cX12_tokens 36 = .ok (.iload_n 2, 1) := by decide +kernel
theorem dX12_tokens_37 : decode cX12_tokens 37 = .ok (.iastore, 1) := by decide +kernel
theorem dX12_tokens_38 : decode cX12_tokens 38 = .ok (.iconst 1, 1) := by decide +kernel
theorem dX12_tokens_39 : decode cX12_tokens 39 = .ok (.ireturn, 1) := by decide +kernel
theorem dX12_clear_0 : decode cX12_clear 0 = .ok (.aload_n 0, 1) := by decide +kernel
theorem dX12_clear_1 : decode cX12_clear 1 = .ok (.iconst 0, 1) := by decide +kernel
theorem dX12_clear_2 : decode cX12_clear 2 = .ok (.putfield 75, 3) := by decide +kernel
theorem dX12_clear_5 : decode cX12_clear 5 = .ok (.aload_n 0, 1) := by decide +kernel
theorem dX12_clear_6 : decode cX12_clear 6 = .ok (.iconst 0, 1) := by decide +kernel
theorem dX12_clear_7 : decode cX12_clear 7 = .ok (.putfield 156, 3) := by decide +kernel
theorem dX12_clear_10 : decode cX12_clear 10 = .ok (.aload_n 0, 1) := by decide +kernel
theorem dX12_clear_11 : decode cX12_clear 11 = .ok (.iconst 0, 1) := by decide +kernel
theorem dX12_clear_12 : decode cX12_clear 12 = .ok (.putfield 159, 3) := by decide +kernel
theorem dX12_clear_15 : decode cX12_clear 15 = .ok (.return_, 1) := by decide +kernel
theorem dX12_round_0 : decode cX12_round 0 = .ok (.iconst 0, 1) := by decide +kernel
theorem dX12_round_1 : decode cX12_round 1 = .ok (.istore 6, 2) := by decide +kernel
theorem dX12_round_3 : decode cX12_round 3 = .ok (.iload 6, 2) := by decide +kernel
theorem dX12_round_5 : decode cX12_round 5 = .ok (.aload_n 0, 1) := by decide +kernel
theorem dX12_round_6 : decode cX12_round 6 = .ok (.getfield 159, 3) := by decide +kernel
theorem dX12_round_9 : decode cX12_round 9 = .ok (.if_icmp .ge 110, 3) := by decide +kernel
theorem dX12_round_12 : decode cX12_round 12 = .ok (.aload_n 0, 1) := by decide +kernel
theorem dX12_round_13 : decode cX12_round 13 = .ok (.getfield 60, 3) := by decide +kernel
theorem dX12_round_16 : decode cX12_round 16 = .ok (.iload 6, 2) := by decide +kernel
theorem dX12_round_18 : decode cX12_round 18 = .ok (.iaload, 1) := by decide +kernel
theorem dX12_round_19 : decode cX12_round 19 = .ok (.iload_n 2, 1) := by decide +kernel
theorem dX12_round_20 : decode cX12_round 20 = .ok (.if_icmp .ne 93, 3) := by decide +kernel
theorem dX12_round_23 : decode cX12_round 23 = .ok (.aload_n 0, 1) := by decide +kernel
theorem dX12_round_24 : decode cX12_round 24 = .ok (.getfield 63, 3) := by decide +kernel
theorem dX12_round_27 : decode cX12_round 27 = .ok (.iload 6, 2) := by decide +kernel
theorem dX12_round_29 : decode cX12_round 29 = .ok (.iaload, 1) := by decide +kernel
theorem dX12_round_30 : decode cX12_round 30 = .ok (.iload_n 1, 1) := by decide +kernel
theorem dX12_round_31 : decode cX12_round 31 = .ok (.if_icmp .ge 6, 3) := by decide +kernel
theorem dX12_round_34 : decode cX12_round 34 = .ok (.goto 79, 3) := by decide +kernel
theorem dX12_round_37 : decode cX12_round 37 = .ok (.aload_n 0, 1) := by decide +kernel
theorem dX12_round_38 : decode cX12_round 38 = .ok (.getfield 63, 3) := by decide +kernel
theorem dX12_round_41 : decode cX12_round 41 = .ok (.iload 6, 2) := by decide +kernel
theorem dX12_round_43 : decode cX12_round 43 = .ok (.iaload, 1) := by decide +kernel
theorem dX12_round_44 : decode cX12_round 44 = .ok (.istore 7, 2) := by decide +kernel
theorem dX12_round_46 : decode cX12_round 46 = .ok (.iload 7, 2) := by decide +kernel
theorem dX12_round_48 : decode cX12_round 48 = .ok (.iload_n 1, 1) := by decide +kernel
theorem dX12_round_49 : decode cX12_round 49 = .ok (.if_icmp .ne 22, 3) := by decide +kernel
theorem dX12_round_52 : decode cX12_round 52 = .ok (.aload_n 0, 1) := by decide +kernel
theorem dX12_round_53 : decode cX12_round 53 = .ok (.iload 4, 2) := by decide +kernel
theorem dX12_round_55 : decode cX12_round 55 = .ok (.iload 5, 2) := by decide +kernel
theorem dX12_round_57 : decode cX12_round 57 = .ok (.aload_n 0, 1) := by decide +kernel
theorem dX12_round_58 : decode cX12_round 58 = .ok (.getfield 66, 3) := by decide +kernel
theorem dX12_round_61 : decode cX12_round 61 = .ok (.iload 6, 2) := by decide +kernel
theorem dX12_round_63 : decode cX12_round 63 = .ok (.iaload, 1) := by decide +kernel
theorem dX12_round_64 : decode cX12_round 64 = .ok (.iadd, 1) := by decide +kernel
theorem dX12_round_65 : decode cX12_round 65 = .ok (.invokevirtual 162, 3) := by decide +kernel
theorem dX12_round_68 : decode cX12_round 68 = .ok (.goto 45, 3) := by decide +kernel
theorem dX12_round_71 : decode cX12_round 71 = .ok (.iload_n 3, 1) := by decide +kernel
theorem dX12_round_72 : decode cX12_round 72 = .ok (.iload 7, 2) := by decide +kernel
theorem dX12_round_74 : decode cX12_round 74 = .ok (.ishr, 1) := by decide +kernel
theorem dX12_round_75 : decode cX12_round 75 = .ok (.iconst 1, 1) := by decide +kernel
theorem dX12_round_76 : decode cX12_round 76 = .ok (.iand, 1) := by decide +kernel
theorem dX12_round_77 : decode cX12_round 77 = .ok (.ifCond .ne 36, 3) := by decide +kernel
theorem dX12_round_80 : decode cX12_round 80 = .ok (.aload_n 0, 1) := by decide +kernel
theorem dX12_round_81 : decode cX12_round 81 = .ok (.iload_n 1, 1) := by decide +kernel
theorem dX12_round_82 : decode cX12_round 82 = .ok (.iload 7, 2) := by decide +kernel
theorem dX12_round_84 : decode cX12_round 84 = .ok (.iload_n 3, 1) := by decide +kernel
theorem dX12_round_85 : decode cX12_round 85 = .ok (.iconst 1, 1) := by decide +kernel
theorem dX12_round_86 : decode cX12_round 86 = .ok (.iload 7, 2) := by decide +kernel
theorem dX12_round_88 : decode cX12_round 88 = .ok (.ishl, 1) := by decide +kernel
theorem dX12_round_89 : decode cX12_round 89 = .ok (.ior, 1) := by decide +kernel
theorem dX12_round_90 : decode cX12_round 90 = .ok (.iload 4, 2) := by decide +kernel
theorem dX12_round_92 : decode cX12_round 92 = .ok (.aload_n 0, 1) := by decide +kernel
theorem dX12_round_93 : decode cX12_round 93 = .ok (.getfield 57, 3) := by decide +kernel
theorem dX12_round_96 : decode cX12_round 96 = .ok (.iload 7, 2) := by decide +kernel
theorem dX12_round_98 : decode cX12_round 98 = .ok (.iaload, 1) := by decide +kernel
theorem dX12_round_99 : decode cX12_round 99 = .ok (.iadd, 1) := by decide +kernel
theorem dX12_round_100 : decode cX12_round 100 = .ok (.iload 5, 2) := by decide +kernel
theorem dX12_round_102 : decode cX12_round 102 = .ok (.aload_n 0, 1) := by decide +kernel
theorem dX12_round_103 : decode cX12_round 103 = .ok (.getfield 66, 3) := by decide +kernel
theorem dX12_round_106 : decode cX12_round 106 = .ok (.iload 6, 2) := by decide +kernel
theorem dX12_round_108 : decode cX12_round 108 = .ok (.iaload, 1) := by decide +kernel
theorem dX12_round_109 : decode cX12_round 109 = .ok (.iadd, 1) := by decide +kernel
theorem dX12_round_110 : decode cX12_round 110 = .ok (.invokevirtual 166, 3) := by decide +kernel
theorem dX12_round_113 : decode cX12_round 113 = .ok (.iinc 6 1, 3) := by decide +kernel
theorem dX12_round_116 : decode cX12_round 116 = .ok (.goto (-113), 3) := by decide +kernel
theorem dX12_round_119 : decode cX12_round 119 = .ok (.return_, 1) := by decide +kernel
theorem dX12_ring_0 : decode cX12_ring 0 = .ok (.aload_n 0, 1) := by decide +kernel
theorem dX12_ring_1 : decode cX12_ring 1 = .ok (.dup, 1) := by decide +kernel
theorem dX12_ring_2 : decode cX12_ring 2 = .ok (.getfield 170, 3) := by decide +kernel
theorem dX12_ring_5 : decode cX12_ring 5 = .ok (.iconst 1, 1) := by decide +kernel
theorem dX12_ring_6 : decode cX12_ring 6 = .ok (.iadd, 1) := by decide +kernel
theorem dX12_ring_7 : decode cX12_ring 7 = .ok (.putfield 170, 3) := by decide +kernel
theorem dX12_ring_10 : decode cX12_ring 10 = .ok (.iload_n 2, 1) := by decide +kernel
theorem dX12_ring_11 : decode cX12_ring 11 = .ok (.ifCond .ne 11, 3) := by decide +kernel
theorem dX12_ring_14 : decode cX12_ring 14 = .ok (.aload_n 0, 1) := by decide +kernel
theorem dX12_ring_15 : decode cX12_ring 15 = .ok (.iconst 1, 1) := by decide +kernel
theorem dX12_ring_16 : decode cX12_ring 16 = .ok (.putfield 173, 3) := by decide +kernel
theorem dX12_ring_19 : decode cX12_ring 19 = .ok (.goto 42, 3) := by decide +kernel
theorem dX12_ring_22 : decode cX12_ring 22 = .ok (.iload_n 1, 1) := by decide +kernel
theorem dX12_ring_23 : decode cX12_ring 23 = .ok (.i2l, 1) := by decide +kernel
theorem dX12_ring_24 : decode cX12_ring 24 = .ok (.aload_n 0, 1) := by decide +kernel
theorem dX12_ring_25 : decode cX12_ring 25 = .ok (.getfield 177, 3) := by decide +kernel
theorem dX12_ring_28 : decode cX12_ring 28 = .ok (.lmul, 1) := by decide +kernel
theorem dX12_ring_29 : decode cX12_ring 29 = .ok (.aload_n 0, 1) := by decide +kernel
theorem dX12_ring_30 : decode cX12_ring 30 = .ok (.getfield 181, 3) := by decide +kernel
theorem dX12_ring_33 : decode cX12_ring 33 = .ok (.iload_n 2, 1) := by decide +kernel
theorem dX12_ring_34 : decode cX12_ring 34 = .ok (.i2l, 1) := by decide +kernel
theorem dX12_ring_35 : decode cX12_ring 35 = .ok (.lmul, 1) := by decide +kernel
theorem dX12_ring_36 : decode cX12_ring 36 = .ok (.lcmp, 1) := by decide +kernel
theorem dX12_ring_37 : decode cX12_ring 37 = .ok (.ifCond .gt 12, 3) := by decide +kernel
theorem dX12_ring_40 : decode cX12_ring 40 = .ok (.aload_n 0, 1) := by decide +kernel
theorem dX12_ring_41 : decode cX12_ring 41 = .ok (.getfield 181, 3) := by decide +kernel
theorem dX12_ring_44 : decode cX12_ring 44 = .ok (.lconst 0, 1) := by decide +kernel
theorem dX12_ring_45 : decode cX12_ring 45 = .ok (.lcmp, 1) := by decide +kernel
theorem dX12_ring_46 : decode cX12_ring 46 = .ok (.ifCond .ge 15, 3) := by decide +kernel
theorem dX12_ring_49 : decode cX12_ring 49 = .ok (.aload_n 0, 1) := by decide +kernel
theorem dX12_ring_50 : decode cX12_ring 50 = .ok (.iload_n 1, 1) := by decide +kernel
theorem dX12_ring_51 : decode cX12_ring 51 = .ok (.i2l, 1) := by decide +kernel
theorem dX12_ring_52 : decode cX12_ring 52 = .ok (.putfield 181, 3) := by decide +kernel
theorem dX12_ring_55 : decode cX12_ring 55 = .ok (.aload_n 0, 1) := by decide +kernel
theorem dX12_ring_56 : decode cX12_ring 56 = .ok (.iload_n 2, 1) := by decide +kernel
theorem dX12_ring_57 : decode cX12_ring 57 = .ok (.i2l, 1) := by decide +kernel
theorem dX12_ring_58 : decode cX12_ring 58 = .ok (.putfield 177, 3) := by decide +kernel
theorem dX12_ring_61 : decode cX12_ring 61 = .ok (.return_, 1) := by decide +kernel
theorem dX12_goRound_0 : decode cX12_goRound 0 = .ok (.aload_n 0, 1) := by decide +kernel
theorem dX12_goRound_1 : decode cX12_goRound 1 = .ok (.iconst 0, 1) := by decide +kernel
theorem dX12_goRound_2 : decode cX12_goRound 2 = .ok (.putfield 173, 3) := by decide +kernel
theorem dX12_goRound_5 : decode cX12_goRound 5 = .ok (.aload_n 0, 1) := by decide +kernel
theorem dX12_goRound_6 : decode cX12_goRound 6 = .ok (.iconst 0, 1) := by decide +kernel
theorem dX12_goRound_7 : decode cX12_goRound 7 = .ok (.putfield 170, 3) := by decide +kernel
theorem dX12_goRound_10 : decode cX12_goRound 10 = .ok (.aload_n 0, 1) := by decide +kernel
theorem dX12_goRound_11 : decode cX12_goRound 11 = .ok (.ldc2_w 184, 3) := by decide +kernel
theorem dX12_goRound_14 : decode cX12_goRound 14 = .ok (.putfield 181, 3) := by decide +kernel
theorem dX12_goRound_17 : decode cX12_goRound 17 = .ok (.aload_n 0, 1) := by decide +kernel
theorem dX12_goRound_18 : decode cX12_goRound 18 = .ok (.lconst 1, 1) := by decide +kernel
theorem dX12_goRound_19 : decode cX12_goRound 19 = .ok (.putfield 177, 3) := by decide +kernel
theorem dX12_goRound_22 : decode cX12_goRound 22 = .ok (.iconst 0, 1) := by decide +kernel
theorem dX12_goRound_23 : decode cX12_goRound 23 = .ok (.istore_n 1, 1) := by decide +kernel
theorem dX12_goRound_24 : decode cX12_goRound 24 = .ok (.iload_n 1, 1) := by decide +kernel
theorem dX12_goRound_25 : decode cX12_goRound 25 = .ok (.aload_n 0, 1) := by decide +kernel
theorem dX12_goRound_26 : decode cX12_goRound 26 = .ok (.getfield 156, 3) := by decide +kernel
theorem dX12_goRound_29 : decode cX12_goRound 29 = .ok (.if_icmp .ge 25, 3) := by decide +kernel
theorem dX12_goRound_32 : decode cX12_goRound 32 = .ok (.aload_n 0, 1) := by decide +kernel
theorem dX12_goRound_33 : decode cX12_goRound 33 = .ok (.iload_n 1, 1) := by decide +kernel
theorem dX12_goRound_34 : decode cX12_goRound 34 = .ok (.iload_n 1, 1) := by decide +kernel
theorem dX12_goRound_35 : decode cX12_goRound 35 = .ok (.iconst 1, 1) := by decide +kernel
theorem dX12_goRound_36 : decode cX12_goRound 36 = .ok (.iload_n 1, 1) := by decide +kernel
theorem dX12_goRound_37 : decode cX12_goRound 37 = .ok (.ishl, 1) := by decide +kernel
theorem dX12_goRound_38 : decode cX12_goRound 38 = .ok (.aload_n 0, 1) := by decide +kernel
theorem dX12_goRound_39 : decode cX12_goRound 39 = .ok (.getfield 57, 3) := by decide +kernel
theorem dX12_goRound_42 : decode cX12_goRound 42 = .ok (.iload_n 1, 1) := by decide +kernel
theorem dX12_goRound_43 : decode cX12_goRound 43 = .ok (.iaload, 1) := by decide +kernel
theorem dX12_goRound_44 : decode cX12_goRound 44 = .ok (.iconst 0, 1) := by decide +kernel
theorem dX12_goRound_45 : decode cX12_goRound 45 = .ok (.invokevirtual 166, 3) := by decide +kernel
theorem dX12_goRound_48 : decode cX12_goRound 48 = .ok (.iinc 1 1, 3) := by decide +kernel
theorem dX12_goRound_51 : decode cX12_goRound 51 = .ok (.goto (-27), 3) := by decide +kernel
theorem dX12_goRound_54 : decode cX12_goRound 54 = .ok (.return_, 1) := by decide +kernel
theorem dX12_dead_0 : decode cX12_dead 0 = .ok (.aload_n 0, 1) := by decide +kernel
theorem dX12_dead_1 : decode cX12_dead 1 = .ok (.iconst 0, 1) := by decide +kernel
theorem dX12_dead_2 : decode cX12_dead 2 = .ok (.putfield 75, 3) := by decide +kernel
theorem dX12_dead_5 : decode cX12_dead 5 = .ok (.aload_n 0, 1) := by decide +kernel
theorem dX12_dead_6 : decode cX12_dead 6 = .ok (.invokevirtual 186, 3) := by decide +kernel
theorem dX12_dead_9 : decode cX12_dead 9 = .ok (.aload_n 0, 1) := by decide +kernel
theorem dX12_dead_10 : decode cX12_dead 10 = .ok (.getfield 173, 3) := by decide +kernel
theorem dX12_dead_13 : decode cX12_dead 13 = .ok (.ifCond .eq 7, 3) := by decide +kernel
theorem dX12_dead_16 : decode cX12_dead 16 = .ok (.iconst 1, 1) := by decide +kernel
theorem dX12_dead_17 : decode cX12_dead 17 = .ok (.goto 4, 3) := by decide +kernel
theorem dX12_dead_20 : decode cX12_dead 20 = .ok (.iconst 0, 1) := by decide +kernel
theorem dX12_dead_21 : decode cX12_dead 21 = .ok (.ireturn, 1) := by decide +kernel
theorem dX12_turn_0 : decode cX12_turn 0 = .ok (.aload_n 0, 1) := by decide +kernel
theorem dX12_turn_1 : decode cX12_turn 1 = .ok (.iconst 0, 1) := by decide +kernel
theorem dX12_turn_2 : decode cX12_turn 2 = .ok (.putfield 75, 3) := by decide +kernel
theorem dX12_turn_5 : decode cX12_turn 5 = .ok (.aload_n 0, 1) := by decide +kernel
theorem dX12_turn_6 : decode cX12_turn 6 = .ok (.invokevirtual 186, 3) := by decide +kernel
theorem dX12_turn_9 : decode cX12_turn 9 = .ok (.iload_n 1, 1) := by decide +kernel
theorem dX12_turn_10 : decode cX12_turn 10 = .ok (.iconst 0, 1) := by decide +kernel
theorem dX12_turn_11 : decode cX12_turn 11 = .ok (.iconst 1, 1) := by decide +kernel
theorem dX12_turn_12 : decode cX12_turn 12 = .ok (.invokestatic 148, 3) := by decide +kernel
theorem dX12_turn_15 : decode cX12_turn 15 = .ok (.ifCond .eq 17, 3) := by decide +kernel
theorem dX12_turn_18 : decode cX12_turn 18 = .ok (.aload_n 0, 1) := by decide +kernel
theorem dX12_turn_19 : decode cX12_turn 19 = .ok (.getfield 173, 3) := by decide +kernel
theorem dX12_turn_22 : decode cX12_turn 22 = .ok (.ifCond .ne 10, 3) := by decide +kernel
theorem dX12_turn_25 : decode cX12_turn 25 = .ok (.aload_n 0, 1) := by decide +kernel
theorem dX12_turn_26 : decode cX12_turn 26 = .ok (.getfield 170, 3) := by decide +kernel
theorem dX12_turn_29 : decode cX12_turn 29 = .ok (.ifCond .ne 7, 3) := by decide +kernel
theorem dX12_turn_32 : decode cX12_turn 32 = .ok (.ldc2_w 184, 3) := by decide +kernel
theorem dX12_turn_35 : decode cX12_turn 35 = .ok (.lreturn, 1) := by decide +kernel
theorem dX12_turn_36 : decode cX12_turn 36 = .ok (.aload_n 0, 1) := by decide +kernel
theorem dX12_turn_37 : decode cX12_turn 37 = .ok (.getfield 181, 3) := by decide +kernel
theorem dX12_turn_40 : decode cX12_turn 40 = .ok (.lstore_n 2, 1) := by decide +kernel
theorem dX12_turn_41 : decode cX12_turn 41 = .ok (.aload_n 0, 1) := by decide +kernel
theorem dX12_turn_42 : decode cX12_turn 42 = .ok (.getfield 177, 3) := by decide +kernel
theorem dX12_turn_45 : decode cX12_turn 45 = .ok (.lstore 4, 2) := by decide +kernel
theorem dX12_turn_47 : decode cX12_turn 47 = .ok (.lload 4, 2) := by decide +kernel
theorem dX12_turn_49 : decode cX12_turn 49 = .ok (.lconst 0, 1) := by decide +kernel
theorem dX12_turn_50 : decode cX12_turn 50 = .ok (.lcmp, 1) := by decide +kernel
theorem dX12_turn_51 : decode cX12_turn 51 = .ok (.ifCond .eq 19, 3) := by decide +kernel
theorem dX12_turn_54 : decode cX12_turn 54 = .ok (.lload_n 2, 1) := by decide +kernel
theorem dX12_turn_55 : decode cX12_turn 55 = .ok (.lload 4, 2) := by decide +kernel
theorem dX12_turn_57 : decode cX12_turn 57 = .ok (.lrem, 1) := by decide +kernel
theorem dX12_turn_58 : decode cX12_turn 58 = .ok (.lstore 6, 2) := by decide +kernel
theorem dX12_turn_60 : decode cX12_turn 60 = .ok (.lload 4, 2) := by decide +kernel
theorem dX12_turn_62 : decode cX12_turn 62 = .ok (.lstore_n 2, 1) := by decide +kernel
theorem dX12_turn_63 : decode cX12_turn 63 = .ok (.lload 6, 2) := by decide +kernel
theorem dX12_turn_65 : decode cX12_turn 65 = .ok (.lstore 4, 2) := by decide +kernel
theorem dX12_turn_67 : decode cX12_turn 67 = .ok (.goto (-20), 3) := by decide +kernel
theorem dX12_turn_70 : decode cX12_turn 70 = .ok (.iload_n 1, 1) := by decide +kernel
theorem dX12_turn_71 : decode cX12_turn 71 = .ok (.ifCond .ne 12, 3) := by decide +kernel
theorem dX12_turn_74 : decode cX12_turn 74 = .ok (.aload_n 0, 1) := by decide +kernel
theorem dX12_turn_75 : decode cX12_turn 75 = .ok (.getfield 181, 3) := by decide +kernel
theorem dX12_turn_78 : decode cX12_turn 78 = .ok (.lload_n 2, 1) := by decide +kernel
theorem dX12_turn_79 : decode cX12_turn 79 = .ok (.ldiv, 1) := by decide +kernel
theorem dX12_turn_80 : decode cX12_turn 80 = .ok (.goto 9, 3) := by decide +kernel
theorem dX12_turn_83 : decode cX12_turn 83 = .ok (.aload_n 0, 1) := by decide +kernel
theorem dX12_turn_84 : decode cX12_turn 84 = .ok (.getfield 177, 3) := by decide +kernel
theorem dX12_turn_87 : decode cX12_turn 87 = .ok (.lload_n 2, 1) := by decide +kernel
theorem dX12_turn_88 : decode cX12_turn 88 = .ok (.ldiv, 1) := by decide +kernel
theorem dX12_turn_89 : decode cX12_turn 89 = .ok (.lreturn, 1) := by decide +kernel
theorem dX12_times_0 : decode cX12_times 0 = .ok (.iconst 0, 1) := by decide +kernel
theorem dX12_times_1 : decode cX12_times 1 = .ok (.istore_n 2, 1) := by decide +kernel
theorem dX12_times_2 : decode cX12_times 2 = .ok (.iload_n 2, 1) := by decide +kernel
theorem dX12_times_3 : decode cX12_times 3 = .ok (.bipush 10, 2) := by decide +kernel
theorem dX12_times_5 : decode cX12_times 5 = .ok (.if_icmp .ge 16, 3) := by decide +kernel
theorem dX12_times_8 : decode cX12_times 8 = .ok (.aload_n 0, 1) := by decide +kernel
theorem dX12_times_9 : decode cX12_times 9 = .ok (.getfield 72, 3) := by decide +kernel
theorem dX12_times_12 : decode cX12_times 12 = .ok (.iload_n 2, 1) := by decide +kernel
theorem dX12_times_13 : decode cX12_times 13 = .ok (.iconst 0, 1) := by decide +kernel
theorem dX12_times_14 : decode cX12_times 14 = .ok (.iastore, 1) := by decide +kernel
theorem dX12_times_15 : decode cX12_times 15 = .ok (.iinc 2 1, 3) := by decide +kernel
theorem dX12_times_18 : decode cX12_times 18 = .ok (.goto (-16), 3) := by decide +kernel
theorem dX12_times_21 : decode cX12_times 21 = .ok (.iconst 1, 1) := by decide +kernel
theorem dX12_times_22 : decode cX12_times 22 = .ok (.istore_n 2, 1) := by decide +kernel
theorem dX12_times_23 : decode cX12_times 23 = .ok (.iload_n 2, 1) := by decide +kernel
theorem dX12_times_24 : decode cX12_times 24 = .ok (.iload_n 1, 1) := by decide +kernel
theorem dX12_times_25 : decode cX12_times 25 = .ok (.if_icmp .gt 280, 3) := by decide +kernel
theorem dX12_times_28 : decode cX12_times 28 = .ok (.iconst 1, 1) := by decide +kernel
theorem dX12_times_29 : decode cX12_times 29 = .ok (.istore_n 3, 1) := by decide +kernel
theorem dX12_times_30 : decode cX12_times 30 = .ok (.iload_n 3, 1) := by decide +kernel
theorem dX12_times_31 : decode cX12_times 31 = .ok (.ifCond .eq 225, 3) := by decide +kernel
theorem dX12_times_34 : decode cX12_times 34 = .ok (.iconst 0, 1) := by decide +kernel
theorem dX12_times_35 : decode cX12_times 35 = .ok (.istore_n 3, 1) := by decide +kernel
theorem dX12_times_36 : decode cX12_times 36 = .ok (.iconst 0, 1) := by decide +kernel
theorem dX12_times_37 : decode cX12_times 37 = .ok (.istore 4, 2) := by decide +kernel
theorem dX12_times_39 : decode cX12_times 39 = .ok (.iload 4, 2) := by decide +kernel
theorem dX12_times_41 : decode cX12_times 41 = .ok (.aload_n 0, 1) := by decide +kernel
theorem dX12_times_42 : decode cX12_times 42 = .ok (.getfield 156, 3) := by decide +kernel
theorem dX12_times_45 : decode cX12_times 45 = .ok (.if_icmp .ge 208, 3) := by decide +kernel
theorem dX12_times_48 : decode cX12_times 48 = .ok (.aload_n 0, 1) := by decide +kernel
theorem dX12_times_49 : decode cX12_times 49 = .ok (.getfield 72, 3) := by decide +kernel
theorem dX12_times_52 : decode cX12_times 52 = .ok (.iload 4, 2) := by decide +kernel
theorem dX12_times_54 : decode cX12_times 54 = .ok (.iaload, 1) := by decide +kernel
theorem dX12_times_55 : decode cX12_times 55 = .ok (.iload_n 2, 1) := by decide +kernel
theorem dX12_times_56 : decode cX12_times 56 = .ok (.if_icmp .ne 6, 3) := by decide +kernel
theorem dX12_times_59 : decode cX12_times 59 = .ok (.goto 188, 3) := by decide +kernel
theorem dX12_times_62 : decode cX12_times 62 = .ok (.iconst 0, 1) := by decide +kernel
theorem dX12_times_63 : decode cX12_times 63 = .ok (.istore 5, 2) := by decide +kernel
theorem dX12_times_65 : decode cX12_times 65 = .ok (.iconst 1, 1) := by decide +kernel
theorem dX12_times_66 : decode cX12_times 66 = .ok (.istore 6, 2) := by decide +kernel
theorem dX12_times_68 : decode cX12_times 68 = .ok (.iconst 0, 1) := by decide +kernel
theorem dX12_times_69 : decode cX12_times 69 = .ok (.istore 7, 2) := by decide +kernel
theorem dX12_times_71 : decode cX12_times 71 = .ok (.iconst 0, 1) := by decide +kernel
theorem dX12_times_72 : decode cX12_times 72 = .ok (.istore 8, 2) := by decide +kernel
theorem dX12_times_74 : decode cX12_times 74 = .ok (.iload 8, 2) := by decide +kernel
theorem dX12_times_76 : decode cX12_times 76 = .ok (.aload_n 0, 1) := by decide +kernel
theorem dX12_times_77 : decode cX12_times 77 = .ok (.getfield 159, 3) := by decide +kernel
theorem dX12_times_80 : decode cX12_times 80 = .ok (.if_icmp .ge 117, 3) := by decide +kernel
theorem dX12_times_83 : decode cX12_times 83 = .ok (.iload_n 2, 1) := by decide +kernel
theorem dX12_times_84 : decode cX12_times 84 = .ok (.aload_n 0, 1) := by decide +kernel
theorem dX12_times_85 : decode cX12_times 85 = .ok (.getfield 66, 3) := by decide +kernel
theorem dX12_times_88 : decode cX12_times 88 = .ok (.iload 8, 2) := by decide +kernel
theorem dX12_times_90 : decode cX12_times 90 = .ok (.iaload, 1) := by decide +kernel
theorem dX12_times_91 : decode cX12_times 91 = .ok (.isub, 1) := by decide +kernel
theorem dX12_times_92 : decode cX12_times 92 = .ok (.istore 9, 2) := by decide +kernel
theorem dX12_times_94 : decode cX12_times 94 = .ok (.aload_n 0, 1) := by decide +kernel
theorem dX12_times_95 : decode cX12_times 95 = .ok (.getfield 63, 3) := by decide +kernel
theorem dX12_times_98 : decode cX12_times 98 = .ok (.iload 8, 2) := by decide +kernel
theorem dX12_times_100 : decode cX12_times 100 = .ok (.iaload, 1) := by decide +kernel
theorem dX12_times_101 : decode cX12_times 101 = .ok (.iload 4, 2) := by decide +kernel
theorem dX12_times_103 : decode cX12_times 103 = .ok (.if_icmp .ne 88, 3) := by decide +kernel
theorem dX12_times_106 : decode cX12_times 106 = .ok (.iload 9, 2) := by decide +kernel
theorem dX12_times_108 : decode cX12_times 108 = .ok (.iconst 1, 1) := by decide +kernel
theorem dX12_times_109 : decode cX12_times 109 = .ok (.if_icmp .ge 6, 3) := by decide +kernel
theorem dX12_times_112 : decode cX12_times 112 = .ok (.goto 79, 3) := by decide +kernel
theorem dX12_times_115 : decode cX12_times 115 = .ok (.iload 9, 2) := by decide +kernel
theorem dX12_times_117 : decode cX12_times 117 = .ok (.iload_n 2, 1) := by decide +kernel
theorem dX12_times_118 : decode cX12_times 118 = .ok (.if_icmp .ne 25, 3) := by decide +kernel
theorem dX12_times_121 : decode cX12_times 121 = .ok (.aload_n 0, 1) := by decide +kernel
theorem dX12_times_122 : decode cX12_times 122 = .ok (.getfield 72, 3) := by decide +kernel
theorem dX12_times_125 : decode cX12_times 125 = .ok (.aload_n 0, 1) := by decide +kernel
theorem dX12_times_126 : decode cX12_times 126 = .ok (.getfield 60, 3) := by decide +kernel
theorem dX12_times_129 : decode cX12_times 129 = .ok (.iload 8, 2) := by decide +kernel
theorem dX12_times_131 : decode cX12_times 131 = .ok (.iaload, 1) := by decide +kernel
theorem dX12_times_132 : decode cX12_times 132 = .ok (.iaload, 1) := by decide +kernel
theorem dX12_times_133 : decode cX12_times 133 = .ok (.iload_n 2, 1) := by decide +kernel
theorem dX12_times_134 : decode cX12_times 134 = .ok (.if_icmp .eq 9, 3) := by decide +kernel
theorem dX12_times_137 : decode cX12_times 137 = .ok (.iconst 0, 1) := by decide +kernel
theorem dX12_times_138 : decode cX12_times 138 = .ok (.istore 6, 2) := by decide +kernel
theorem dX12_times_140 : decode cX12_times 140 = .ok (.goto 51, 3) := by decide +kernel
theorem dX12_times_143 : decode cX12_times 143 = .ok (.aload_n 0, 1) := by decide +kernel
theorem dX12_times_144 : decode cX12_times 144 = .ok (.getfield 69, 3) := by decide +kernel
theorem dX12_times_147 : decode cX12_times 147 = .ok (.sipush 201, 3) := by decide +kernel
theorem dX12_times_150 : decode cX12_times 150 = .ok (.aload_n 0, 1) := by decide +kernel
theorem dX12_times_151 : decode cX12_times 151 = .ok (.getfield 60, 3) := by decide +kernel
theorem dX12_times_154 : decode cX12_times 154 = .ok (.iload 8, 2) := by decide +kernel
theorem dX12_times_156 : decode cX12_times 156 = .ok (.iaload, 1) := by decide +kernel
theorem dX12_times_157 : decode cX12_times 157 = .ok (.imul, 1) := by decide +kernel
theorem dX12_times_158 : decode cX12_times 158 = .ok (.iload 9, 2) := by decide +kernel
theorem dX12_times_160 : decode cX12_times 160 = .ok (.iadd, 1) := by decide +kernel
theorem dX12_times_161 : decode cX12_times 161 = .ok (.iaload, 1) := by decide +kernel
theorem dX12_times_162 : decode cX12_times 162 = .ok (.istore 10, 2) := by decide +kernel
theorem dX12_times_164 : decode cX12_times 164 = .ok (.iload 7, 2) := by decide +kernel
theorem dX12_times_166 : decode cX12_times 166 = .ok (.ifCond .ne 9, 3) := by decide +kernel
theorem dX12_times_169 : decode cX12_times 169 = .ok (.iload 10, 2) := by decide +kernel
theorem dX12_times_171 : decode cX12_times 171 = .ok (.iconst (-1), 1) := by decide +kernel
theorem dX12_times_172 : decode cX12_times 172 = .ok (.if_icmp .ne 7, 3) := by decide +kernel
theorem dX12_times_175 : decode cX12_times 175 = .ok (.iconst 1, 1) := by decide +kernel
theorem dX12_times_176 : decode cX12_times 176 = .ok (.goto 4, 3) := by decide +kernel
theorem dX12_times_179 : decode cX12_times 179 = .ok (.iconst 0, 1) := by decide +kernel
theorem dX12_times_180 : decode cX12_times 180 = .ok (.istore 7, 2) := by decide +kernel
theorem dX12_times_182 : decode cX12_times 182 = .ok (.iload 5, 2) := by decide +kernel
theorem dX12_times_184 : decode cX12_times 184 = .ok (.iload 10, 2) := by decide +kernel
theorem dX12_times_186 : decode cX12_times 186 = .ok (.invokestatic 189, 3) := by decide +kernel
theorem dX12_times_189 : decode cX12_times 189 = .ok (.istore 5, 2) := by decide +kernel
theorem dX12_times_191 : decode cX12_times 191 = .ok (.iinc 8 1, 3) := by decide +kernel
theorem dX12_times_194 : decode cX12_times 194 = .ok (.goto (-120), 3) := by decide +kernel
theorem dX12_times_197 : decode cX12_times 197 = .ok (.iload 6, 2) := by decide +kernel
theorem dX12_times_199 : decode cX12_times 199 = .ok (.ifCond .ne 6, 3) := by decide +kernel
theorem dX12_times_202 : decode cX12_times 202 = .ok (.goto 45, 3) := by decide +kernel
theorem dX12_times_205 : decode cX12_times 205 = .ok (.aload_n 0, 1) := by decide +kernel
theorem dX12_times_206 : decode cX12_times 206 = .ok (.getfield 69, 3) := by decide +kernel
theorem dX12_times_209 : decode cX12_times 209 = .ok (.sipush 201, 3) := by decide +kernel
theorem dX12_times_212 : decode cX12_times 212 = .ok (.iload 4, 2) := by decide +kernel
theorem dX12_times_214 : decode cX12_times 214 = .ok (.imul, 1) := by decide +kernel
theorem dX12_times_215 : decode cX12_times 215 = .ok (.iload_n 2, 1) := by decide +kernel
theorem dX12_times_216 : decode cX12_times 216 = .ok (.iadd, 1) := by decide +kernel
theorem dX12_times_217 : decode cX12_times 217 = .ok (.iload 7, 2) := by decide +kernel
theorem dX12_times_219 : decode cX12_times 219 = .ok (.ifCond .eq 7, 3) := by decide +kernel
theorem dX12_times_222 : decode cX12_times 222 = .ok (.iconst (-1), 1) := by decide +kernel
theorem dX12_times_223 : decode cX12_times 223 = .ok (.goto 13, 3) := by decide +kernel
theorem dX12_times_226 : decode cX12_times 226 = .ok (.iload 5, 2) := by decide +kernel
theorem dX12_times_228 : decode cX12_times 228 = .ok (.aload_n 0, 1) := by decide +kernel
theorem dX12_times_229 : decode cX12_times 229 = .ok (.getfield 57, 3) := by decide +kernel
theorem dX12_times_232 : decode cX12_times 232 = .ok (.iload 4, 2) := by decide +kernel
theorem dX12_times_234 : decode cX12_times 234 = .ok (.iaload, 1) := by decide +kernel
theorem dX12_times_235 : decode cX12_times 235 = .ok (.iadd, 1) := by decide +kernel
theorem dX12_times_236 : decode cX12_times 236 = .ok (.iastore, 1) := by decide +kernel
theorem dX12_times_237 : decode cX12_times 237 = .ok (.aload_n 0, 1) := by decide +kernel
theorem dX12_times_238 : decode cX12_times 238 = .ok (.getfield 72, 3) := by decide +kernel
theorem dX12_times_241 : decode cX12_times 241 = .ok (.iload 4, 2) := by decide +kernel
theorem dX12_times_243 : decode cX12_times 243 = .ok (.iload_n 2, 1) := by decide +kernel
theorem dX12_times_244 : decode cX12_times 244 = .ok (.iastore, 1) := by decide +kernel
theorem dX12_times_245 : decode cX12_times 245 = .ok (.iconst 1, 1) := by decide +kernel
theorem dX12_times_246 : decode cX12_times 246 = .ok (.istore_n 3, 1) := by decide +kernel
theorem dX12_times_247 : decode cX12_times 247 = .ok (.iinc 4 1, 3) := by decide +kernel
theorem dX12_times_250 : decode cX12_times 250 = .ok (.goto (-211), 3) := by decide +kernel
theorem dX12_times_253 : decode cX12_times 253 = .ok (.goto (-223), 3) := by decide +kernel
theorem dX12_times_256 : decode cX12_times 256 = .ok (.iconst 0, 1) := by decide +kernel
theorem dX12_times_257 : decode cX12_times 257 = .ok (.istore 4, 2) := by decide +kernel
theorem dX12_times_259 : decode cX12_times 259 = .ok (.iload 4, 2) := by decide +kernel
theorem dX12_times_261 : decode cX12_times 261 = .ok (.aload_n 0, 1) := by decide +kernel
theorem dX12_times_262 : decode cX12_times 262 = .ok (.getfield 156, 3) := by decide +kernel
theorem dX12_times_265 : decode cX12_times 265 = .ok (.if_icmp .ge 34, 3) := by decide +kernel
theorem dX12_times_268 : decode cX12_times 268 = .ok (.aload_n 0, 1) := by decide +kernel
theorem dX12_times_269 : decode cX12_times 269 = .ok (.getfield 72, 3) := by decide +kernel
theorem dX12_times_272 : decode cX12_times 272 = .ok (.iload 4, 2) := by decide +kernel
theorem dX12_times_274 : decode cX12_times 274 = .ok (.iaload, 1) := by decide +kernel
theorem dX12_times_275 : decode cX12_times 275 = .ok (.iload_n 2, 1) := by decide +kernel
theorem dX12_times_276 : decode cX12_times 276 = .ok (.if_icmp .eq 17, 3) := by decide +kernel
theorem dX12_times_279 : decode cX12_times 279 = .ok (.aload_n 0, 1) := by decide +kernel
theorem dX12_times_280 : decode cX12_times 280 = .ok (.getfield 69, 3) := by decide +kernel
theorem dX12_times_283 : decode cX12_times 283 = .ok (.sipush 201, 3) := by decide +kernel
theorem dX12_times_286 : decode cX12_times 286 = .ok (.iload 4, 2) := by decide +kernel
theorem dX12_times_288 : decode cX12_times 288 = .ok (.imul, 1) := by decide +kernel
theorem dX12_times_289 : decode cX12_times 289 = .ok (.iload_n 2, 1) := by decide +kernel
theorem dX12_times_290 : decode cX12_times 290 = .ok (.iadd, 1) := by decide +kernel
theorem dX12_times_291 : decode cX12_times 291 = .ok (.iconst (-1), 1) := by decide +kernel
theorem dX12_times_292 : decode cX12_times 292 = .ok (.iastore, 1) := by decide +kernel
theorem dX12_times_293 : decode cX12_times 293 = .ok (.iinc 4 1, 3) := by decide +kernel
theorem dX12_times_296 : decode cX12_times 296 = .ok (.goto (-37), 3) := by decide +kernel
theorem dX12_times_299 : decode cX12_times 299 = .ok (.iinc 2 1, 3) := by decide +kernel
theorem dX12_times_302 : decode cX12_times 302 = .ok (.goto (-279), 3) := by decide +kernel
theorem dX12_times_305 : decode cX12_times 305 = .ok (.return_, 1) := by decide +kernel
theorem dX12_time_0 : decode cX12_time 0 = .ok (.aload_n 0, 1) := by decide +kernel
theorem dX12_time_1 : decode cX12_time 1 = .ok (.iconst 1, 1) := by decide +kernel
theorem dX12_time_2 : decode cX12_time 2 = .ok (.putfield 75, 3) := by decide +kernel
theorem dX12_time_5 : decode cX12_time 5 = .ok (.iload_n 1, 1) := by decide +kernel
theorem dX12_time_6 : decode cX12_time 6 = .ok (.iconst 0, 1) := by decide +kernel
theorem dX12_time_7 : decode cX12_time 7 = .ok (.aload_n 0, 1) := by decide +kernel
theorem dX12_time_8 : decode cX12_time 8 = .ok (.getfield 156, 3) := by decide +kernel
theorem dX12_time_11 : decode cX12_time 11 = .ok (.iconst 1, 1) := by decide +kernel
theorem dX12_time_12 : decode cX12_time 12 = .ok (.isub, 1) := by decide +kernel
theorem dX12_time_13 : decode cX12_time 13 = .ok (.invokestatic 148, 3) := by decide +kernel
theorem dX12_time_16 : decode cX12_time 16 = .ok (.ifCond .eq 14, 3) := by decide +kernel
theorem dX12_time_19 : decode cX12_time 19 = .ok (.iload_n 2, 1) := by decide +kernel
theorem dX12_time_20 : decode cX12_time 20 = .ok (.iconst 1, 1) := by decide +kernel
theorem dX12_time_21 : decode cX12_time 21 = .ok (.sipush 200, 3) := by decide +kernel
theorem dX12_time_24 : decode cX12_time 24 = .ok (.invokestatic 148, 3) := by decide +kernel
theorem dX12_time_27 : decode cX12_time 27 = .ok (.ifCond .ne 5, 3) := by decide +kernel
theorem dX12_time_30 : decode cX12_time 30 = .ok (.iconst 0, 1) := by decide +kernel
theorem dX12_time_31 : decode cX12_time 31 = .ok (.ireturn, 1) := by decide +kernel
theorem dX12_time_32 : decode cX12_time 32 = .ok (.aload_n 0, 1) := by decide +kernel
theorem dX12_time_33 : decode cX12_time 33 = .ok (.iload_n 2, 1) := by decide +kernel
theorem dX12_time_34 : decode cX12_time 34 = .ok (.invokevirtual 194, 3) := by decide +kernel
theorem dX12_time_37 : decode cX12_time 37 = .ok (.aload_n 0, 1) := by decide +kernel
theorem dX12_time_38 : decode cX12_time 38 = .ok (.getfield 69, 3) := by decide +kernel
theorem dX12_time_41 : decode cX12_time 41 = .ok (.sipush 201, 3) := by decide +kernel
theorem dX12_time_44 : decode cX12_time 44 = .ok (.iload_n 1, 1) := by decide +kernel
theorem dX12_time_45 : decode cX12_time 45 = .ok (.imul, 1) := by decide +kernel
theorem dX12_time_46 : decode cX12_time 46 = .ok (.iload_n 2, 1) := by decide +kernel
theorem dX12_time_47 : decode cX12_time 47 = .ok (.iadd, 1) := by decide +kernel
theorem dX12_time_48 : decode cX12_time 48 = .ok (.iaload, 1) := by decide +kernel
theorem dX12_time_49 : decode cX12_time 49 = .ok (.istore_n 3, 1) := by decide +kernel
theorem dX12_time_50 : decode cX12_time 50 = .ok (.iload_n 3, 1) := by decide +kernel
theorem dX12_time_51 : decode cX12_time 51 = .ok (.iconst (-1), 1) := by decide +kernel
theorem dX12_time_52 : decode cX12_time 52 = .ok (.if_icmp .ne 5, 3) := by decide +kernel
theorem dX12_time_55 : decode cX12_time 55 = .ok (.iconst 0, 1) := by decide +kernel
theorem dX12_time_56 : decode cX12_time 56 = .ok (.ireturn, 1) := by decide +kernel
theorem dX12_time_57 : decode cX12_time 57 = .ok (.aload_n 0, 1) := by decide +kernel
theorem dX12_time_58 : decode cX12_time 58 = .ok (.iconst 0, 1) := by decide +kernel
theorem dX12_time_59 : decode cX12_time 59 = .ok (.putfield 75, 3) := by decide +kernel
theorem dX12_time_62 : decode cX12_time 62 = .ok (.iload_n 3, 1) := by decide +kernel
theorem dX12_time_63 : decode cX12_time 63 = .ok (.ireturn, 1) := by decide +kernel
theorem dX12_helps_0 : decode cX12_helps 0 = .ok (.aload_n 0, 1) := by decide +kernel
theorem dX12_helps_1 : decode cX12_helps 1 = .ok (.iconst 0, 1) := by decide +kernel
theorem dX12_helps_2 : decode cX12_helps 2 = .ok (.putfield 75, 3) := by decide +kernel
theorem dX12_helps_5 : decode cX12_helps 5 = .ok (.aload_n 0, 1) := by decide +kernel
theorem dX12_helps_6 : decode cX12_helps 6 = .ok (.invokevirtual 186, 3) := by decide +kernel
theorem dX12_helps_9 : decode cX12_helps 9 = .ok (.aload_n 0, 1) := by decide +kernel
theorem dX12_helps_10 : decode cX12_helps 10 = .ok (.getfield 173, 3) := by decide +kernel
theorem dX12_helps_13 : decode cX12_helps 13 = .ok (.ifCond .ne 10, 3) := by decide +kernel
theorem dX12_helps_16 : decode cX12_helps 16 = .ok (.aload_n 0, 1) := by decide +kernel
theorem dX12_helps_17 : decode cX12_helps 17 = .ok (.getfield 170, 3) := by decide +kernel
theorem dX12_helps_20 : decode cX12_helps 20 = .ok (.ifCond .ne 5, 3) := by decide +kernel
theorem dX12_helps_23 : decode cX12_helps 23 = .ok (.iconst (-1), 1) := by decide +kernel
theorem dX12_helps_24 : decode cX12_helps 24 = .ok (.ireturn, 1) := by decide +kernel
theorem dX12_helps_25 : decode cX12_helps 25 = .ok (.iconst (-1), 1) := by decide +kernel
theorem dX12_helps_26 : decode cX12_helps 26 = .ok (.istore_n 1, 1) := by decide +kernel
theorem dX12_helps_27 : decode cX12_helps 27 = .ok (.aload_n 0, 1) := by decide +kernel
theorem dX12_helps_28 : decode cX12_helps 28 = .ok (.getfield 181, 3) := by decide +kernel
theorem dX12_helps_31 : decode cX12_helps 31 = .ok (.lstore_n 2, 1) := by decide +kernel
theorem dX12_helps_32 : decode cX12_helps 32 = .ok (.aload_n 0, 1) := by decide +kernel
theorem dX12_helps_33 : decode cX12_helps 33 = .ok (.getfield 177, 3) := by decide +kernel
theorem dX12_helps_36 : decode cX12_helps 36 = .ok (.lstore 4, 2) := by decide +kernel
theorem dX12_helps_38 : decode cX12_helps 38 = .ok (.iconst 0, 1) := by decide +kernel
theorem dX12_helps_39 : decode cX12_helps 39 = .ok (.istore 6, 2) := by decide +kernel
theorem dX12_helps_41 : decode cX12_helps 41 = .ok (.iload 6, 2) := by decide +kernel
theorem dX12_helps_43 : decode cX12_helps 43 = .ok (.aload_n 0, 1) := by decide +kernel
theorem dX12_helps_44 : decode cX12_helps 44 = .ok (.getfield 159, 3) := by decide +kernel
theorem dX12_helps_47 : decode cX12_helps 47 = .ok (.if_icmp .ge 69, 3) := by decide +kernel
theorem dX12_helps_50 : decode cX12_helps 50 = .ok (.aload_n 0, 1) := by decide +kernel
theorem dX12_helps_51 : decode cX12_helps 51 = .ok (.getfield 66, 3) := by decide +kernel
theorem dX12_helps_54 : decode cX12_helps 54 = .ok (.iload 6, 2) := by decide +kernel
theorem dX12_helps_56 : decode cX12_helps 56 = .ok (.dup2, 1) := by decide +kernel
theorem dX12_helps_57 : decode cX12_helps 57 = .ok (.iaload, 1) := by decide +kernel
theorem dX12_helps_58 : decode cX12_helps 58 = .ok (.iconst 1, 1) := by decide +kernel
theorem dX12_helps_59 : decode cX12_helps 59 = .ok (.iadd, 1) := by decide +kernel
theorem dX12_helps_60 : decode cX12_helps 60 = .ok (.iastore, 1) := by decide +kernel
theorem dX12_helps_61 : decode cX12_helps 61 = .ok (.aload_n 0, 1) := by decide +kernel
theorem dX12_helps_62 : decode cX12_helps 62 = .ok (.invokevirtual 186, 3) := by decide +kernel
theorem dX12_helps_65 : decode cX12_helps 65 = .ok (.aload_n 0, 1) := by decide +kernel
theorem dX12_helps_66 : decode cX12_helps 66 = .ok (.getfield 66, 3) := by decide +kernel
theorem dX12_helps_69 : decode cX12_helps 69 = .ok (.iload 6, 2) := by decide +kernel
theorem dX12_helps_71 : decode cX12_helps 71 = .ok (.dup2, 1) := by decide +kernel
theorem dX12_helps_72 : decode cX12_helps 72 = .ok (.iaload, 1) := by decide +kernel
theorem dX12_helps_73 : decode cX12_helps 73 = .ok (.iconst 1, 1) := by decide +kernel
theorem dX12_helps_74 : decode cX12_helps 74 = .ok (.isub, 1) := by decide +kernel
theorem dX12_helps_75 : decode cX12_helps 75 = .ok (.iastore, 1) := by decide +kernel
theorem dX12_helps_76 : decode cX12_helps 76 = .ok (.aload_n 0, 1) := by decide +kernel
theorem dX12_helps_77 : decode cX12_helps 77 = .ok (.getfield 181, 3) := by decide +kernel
theorem dX12_helps_80 : decode cX12_helps 80 = .ok (.lload 4, 2) := by decide +kernel
theorem dX12_helps_82 : decode cX12_helps 82 = .ok (.lmul, 1) := by decide +kernel
theorem dX12_helps_83 : decode cX12_helps 83 = .ok (.lload_n 2, 1) := by decide +kernel
theorem dX12_helps_84 : decode cX12_helps 84 = .ok (.aload_n 0, 1) := by decide +kernel
theorem dX12_helps_85 : decode cX12_helps 85 = .ok (.getfield 177, 3) := by decide +kernel
theorem dX12_helps_88 : decode cX12_helps 88 = .ok (.lmul, 1) := by decide +kernel
theorem dX12_helps_89 : decode cX12_helps 89 = .ok (.lcmp, 1) := by decide +kernel
theorem dX12_helps_90 : decode cX12_helps 90 = .ok (.ifCond .lt 6, 3) := by decide +kernel
theorem dX12_helps_93 : decode cX12_helps 93 = .ok (.goto 17, 3) := by decide +kernel
theorem dX12_helps_96 : decode cX12_helps 96 = .ok (.iload 6, 2) := by decide +kernel
theorem dX12_helps_98 : decode cX12_helps 98 = .ok (.istore_n 1, 1) := by decide +kernel
theorem dX12_helps_99 : decode cX12_helps 99 = .ok (.aload_n 0, 1) := by decide +kernel
theorem dX12_helps_100 : decode cX12_helps 100 = .ok (.getfield 181, 3) := by decide +kernel
theorem dX12_helps_103 : decode cX12_helps 103 = .ok (.lstore_n 2, 1) := by decide +kernel
theorem dX12_helps_104 : decode cX12_helps 104 = .ok (.aload_n 0, 1) := by decide +kernel
theorem dX12_helps_105 : decode cX12_helps 105 = .ok (.getfield 177, 3) := by decide +kernel
theorem dX12_helps_108 : decode cX12_helps 108 = .ok (.lstore 4, 2) := by decide +kernel
theorem dX12_helps_110 : decode cX12_helps 110 = .ok (.iinc 6 1, 3) := by decide +kernel
theorem dX12_helps_113 : decode cX12_helps 113 = .ok (.goto (-72), 3) := by decide +kernel
theorem dX12_helps_116 : decode cX12_helps 116 = .ok (.iload_n 1, 1) := by decide +kernel
theorem dX12_helps_117 : decode cX12_helps 117 = .ok (.ireturn, 1) := by decide +kernel
theorem dX12_count_0 : decode cX12_count 0 = .ok (.aload_n 0, 1) := by decide +kernel
theorem dX12_count_1 : decode cX12_count 1 = .ok (.iconst 0, 1) := by decide +kernel
theorem dX12_count_2 : decode cX12_count 2 = .ok (.putfield 75, 3) := by decide +kernel
theorem dX12_count_5 : decode cX12_count 5 = .ok (.iconst 0, 1) := by decide +kernel
theorem dX12_count_6 : decode cX12_count 6 = .ok (.istore_n 2, 1) := by decide +kernel
theorem dX12_count_7 : decode cX12_count 7 = .ok (.iload_n 1, 1) := by decide +kernel
theorem dX12_count_8 : decode cX12_count 8 = .ok (.tableswitch 154 0 7 #[48, 82, 121, 128, 134, 139, 144, 149], 48) := by decide +kernel
theorem dX12_count_56 : decode cX12_count 56 = .ok (.iconst 0, 1) := by decide +kernel
theorem dX12_count_57 : decode cX12_count 57 = .ok (.istore_n 3, 1) := by decide +kernel
theorem dX12_count_58 : decode cX12_count 58 = .ok (.iload_n 3, 1) := by decide +kernel
theorem dX12_count_59 : decode cX12_count 59 = .ok (.bipush 12, 2) := by decide +kernel
theorem dX12_count_61 : decode cX12_count 61 = .ok (.if_icmp .ge 27, 3) := by decide +kernel
theorem dX12_count_64 : decode cX12_count 64 = .ok (.iload_n 2, 1) := by decide +kernel
theorem dX12_count_65 : decode cX12_count 65 = .ok (.aload_n 0, 1) := by decide +kernel
theorem dX12_count_66 : decode cX12_count 66 = .ok (.getfield 13, 3) := by decide +kernel
theorem dX12_count_69 : decode cX12_count 69 = .ok (.iload_n 3, 1) := by decide +kernel
theorem dX12_count_70 : decode cX12_count 70 = .ok (.iaload, 1) := by decide +kernel
theorem dX12_count_71 : decode cX12_count 71 = .ok (.iconst (-1), 1) := by decide +kernel
theorem dX12_count_72 : decode cX12_count 72 = .ok (.if_icmp .eq 7, 3) := by decide +kernel
theorem dX12_count_75 : decode cX12_count 75 = .ok (.iconst 1, 1) := by decide +kernel
theorem dX12_count_76 : decode cX12_count 76 = .ok (.goto 4, 3) := by decide +kernel
theorem dX12_count_79 : decode cX12_count 79 = .ok (.iconst 0, 1) := by decide +kernel
theorem dX12_count_80 : decode cX12_count 80 = .ok (.iadd, 1) := by decide +kernel
theorem dX12_count_81 : decode cX12_count 81 = .ok (.istore_n 2, 1) := by decide +kernel
theorem dX12_count_82 : decode cX12_count 82 = .ok (.iinc 3 1, 3) := by decide +kernel
theorem dX12_count_85 : decode cX12_count 85 = .ok (.goto (-27), 3) := by decide +kernel
theorem dX12_count_88 : decode cX12_count 88 = .ok (.iload_n 2, 1) := by decide +kernel
theorem dX12_count_89 : decode cX12_count 89 = .ok (.ireturn, 1) := by decide +kernel
theorem dX12_count_90 : decode cX12_count 90 = .ok (.iconst 0, 1) := by decide +kernel
theorem dX12_count_91 : decode cX12_count 91 = .ok (.istore_n 3, 1) := by decide +kernel
theorem dX12_count_92 : decode cX12_count 92 = .ok (.iload_n 3, 1) := by decide +kernel
theorem dX12_count_93 : decode cX12_count 93 = .ok (.bipush 12, 2) := by decide +kernel
theorem dX12_count_95 : decode cX12_count 95 = .ok (.if_icmp .ge 32, 3) := by decide +kernel
theorem dX12_count_98 : decode cX12_count 98 = .ok (.iload_n 2, 1) := by decide +kernel
theorem dX12_count_99 : decode cX12_count 99 = .ok (.aload_n 0, 1) := by decide +kernel
theorem dX12_count_100 : decode cX12_count 100 = .ok (.getfield 13, 3) := by decide +kernel
theorem dX12_count_103 : decode cX12_count 103 = .ok (.iload_n 3, 1) := by decide +kernel
theorem dX12_count_104 : decode cX12_count 104 = .ok (.iaload, 1) := by decide +kernel
theorem dX12_count_105 : decode cX12_count 105 = .ok (.iconst (-1), 1) := by decide +kernel
theorem dX12_count_106 : decode cX12_count 106 = .ok (.if_icmp .eq 12, 3) := by decide +kernel
theorem dX12_count_109 : decode cX12_count 109 = .ok (.aload_n 0, 1) := by decide +kernel
theorem dX12_count_110 : decode cX12_count 110 = .ok (.getfield 13, 3) := by decide +kernel
theorem dX12_count_113 : decode cX12_count 113 = .ok (.iload_n 3, 1) := by decide +kernel
theorem dX12_count_114 : decode cX12_count 114 = .ok (.iaload, 1) := by decide +kernel
theorem dX12_count_115 : decode cX12_count 115 = .ok (.goto 4, 3) := by decide +kernel
theorem dX12_count_118 : decode cX12_count 118 = .ok (.iconst 0, 1) := by decide +kernel
theorem dX12_count_119 : decode cX12_count 119 = .ok (.iadd, 1) := by decide +kernel
theorem dX12_count_120 : decode cX12_count 120 = .ok (.istore_n 2, 1) := by decide +kernel
theorem dX12_count_121 : decode cX12_count 121 = .ok (.iinc 3 1, 3) := by decide +kernel
theorem dX12_count_124 : decode cX12_count 124 = .ok (.goto (-32), 3) := by decide +kernel
theorem dX12_count_127 : decode cX12_count 127 = .ok (.iload_n 2, 1) := by decide +kernel
theorem dX12_count_128 : decode cX12_count 128 = .ok (.ireturn, 1) := by decide +kernel
theorem dX12_count_129 : decode cX12_count 129 = .ok (.aload_n 0, 1) := by decide +kernel
theorem dX12_count_130 : decode cX12_count 130 = .ok (.iconst (-1), 1) := by decide +kernel
theorem dX12_count_131 : decode cX12_count 131 = .ok (.iconst 0, 1) := by decide +kernel
theorem dX12_count_132 : decode cX12_count 132 = .ok (.invokevirtual 129, 3) := by decide +kernel
theorem dX12_count_135 : decode cX12_count 135 = .ok (.ireturn, 1) := by decide +kernel
theorem dX12_count_136 : decode cX12_count 136 = .ok (.aload_n 0, 1) := by decide +kernel
theorem dX12_count_137 : decode cX12_count 137 = .ok (.iconst (-1), 1) := by decide +kernel
theorem dX12_count_138 : decode cX12_count 138 = .ok (.invokevirtual 133, 3) := by decide +kernel
theorem dX12_count_141 : decode cX12_count 141 = .ok (.ireturn, 1) := by decide +kernel
theorem dX12_count_142 : decode cX12_count 142 = .ok (.aload_n 0, 1) := by decide +kernel
theorem dX12_count_143 : decode cX12_count 143 = .ok (.getfield 156, 3) := by decide +kernel
theorem dX12_count_146 : decode cX12_count 146 = .ok (.ireturn, 1) := by decide +kernel
theorem dX12_count_147 : decode cX12_count 147 = .ok (.aload_n 0, 1) := by decide +kernel
theorem dX12_count_148 : decode cX12_count 148 = .ok (.getfield 159, 3) := by decide +kernel
theorem dX12_count_151 : decode cX12_count 151 = .ok (.ireturn, 1) := by decide +kernel
theorem dX12_count_152 : decode cX12_count 152 = .ok (.aload_n 0, 1) := by decide +kernel
theorem dX12_count_153 : decode cX12_count 153 = .ok (.getfield 79, 3) := by decide +kernel
theorem dX12_count_156 : decode cX12_count 156 = .ok (.ireturn, 1) := by decide +kernel
theorem dX12_count_157 : decode cX12_count 157 = .ok (.aload_n 0, 1) := by decide +kernel
theorem dX12_count_158 : decode cX12_count 158 = .ok (.getfield 114, 3) := by decide +kernel
theorem dX12_count_161 : decode cX12_count 161 = .ok (.ireturn, 1) := by decide +kernel
theorem dX12_count_162 : decode cX12_count 162 = .ok (.iconst (-1), 1) := by decide +kernel
theorem dX12_count_163 : decode cX12_count 163 = .ok (.ireturn, 1) := by decide +kernel
end
section
set_option maxRecDepth 20000 in
theorem dL_time_0 : decode cL_time 0 = .ok (.aload_n 3, 1) := by decide +kernel
set_option maxRecDepth 20000 in
theorem dL_time_1 : decode cL_time 1 = .ok (.iconst 0, 1) := by decide +kernel
set_option maxRecDepth 20000 in
theorem dL_time_2 : decode cL_time 2 = .ok (.aload_n 0, 1) := by decide +kernel
set_option maxRecDepth 20000 in
theorem dL_time_3 : decode cL_time 3 = .ok (.iload_n 1, 1) := by decide +kernel
set_option maxRecDepth 20000 in
theorem dL_time_4 : decode cL_time 4 = .ok (.iload_n 2, 1) := by decide +kernel
set_option maxRecDepth 20000 in
theorem dL_time_5 : decode cL_time 5 = .ok (.invokevirtual 7, 3) := by decide +kernel
set_option maxRecDepth 20000 in
theorem dL_time_8 : decode cL_time 8 = .ok (.i2l, 1) := by decide +kernel
set_option maxRecDepth 20000 in
theorem dL_time_9 : decode cL_time 9 = .ok (.lastore, 1) := by decide +kernel
set_option maxRecDepth 20000 in
theorem dL_time_10 : decode cL_time 10 = .ok (.goto 7, 3) := by decide +kernel
set_option maxRecDepth 20000 in
theorem dL_time_13 : decode cL_time 13 = .ok (.astore 4, 2) := by decide +kernel
set_option maxRecDepth 20000 in
theorem dL_time_15 : decode cL_time 15 = .ok (.iconst 1, 1) := by decide +kernel
set_option maxRecDepth 20000 in
theorem dL_time_16 : decode cL_time 16 = .ok (.ireturn, 1) := by decide +kernel
set_option maxRecDepth 20000 in
theorem dL_time_17 : decode cL_time 17 = .ok (.iconst 0, 1) := by decide +kernel
set_option maxRecDepth 20000 in
theorem dL_time_18 : decode cL_time 18 = .ok (.ireturn, 1) := by decide +kernel
set_option maxRecDepth 20000 in
theorem dL_law_0 : decode cL_law 0 = .ok (.new 8, 3) := by decide +kernel
set_option maxRecDepth 20000 in
theorem dL_law_3 : decode cL_law 3 = .ok (.dup, 1) := by decide +kernel
set_option maxRecDepth 20000 in
theorem dL_law_4 : decode cL_law 4 = .ok (.invokespecial 15, 3) := by decide +kernel
set_option maxRecDepth 20000 in
theorem dL_law_7 : decode cL_law 7 = .ok (.astore_n 1, 1) := by decide +kernel
set_option maxRecDepth 20000 in
theorem dL_law_8 : decode cL_law 8 = .ok (.new 16, 3) := by decide +kernel
set_option maxRecDepth 20000 in
theorem dL_law_11 : decode cL_law 11 = .ok (.dup, 1) := by decide +kernel
set_option maxRecDepth 20000 in
theorem dL_law_12 : decode cL_law 12 = .ok (.invokespecial 18, 3) := by decide +kernel
set_option maxRecDepth 20000 in
theorem dL_law_15 : decode cL_law 15 = .ok (.astore_n 2, 1) := by decide +kernel
set_option maxRecDepth 20000 in
theorem dL_law_16 : decode cL_law 16 = .ok (.iconst 1, 1) := by decide +kernel
set_option maxRecDepth 20000 in
theorem dL_law_17 : decode cL_law 17 = .ok (.newarray .long, 2) := by decide +kernel
set_option maxRecDepth 20000 in
theorem dL_law_19 : decode cL_law 19 = .ok (.astore_n 3, 1) := by decide +kernel
set_option maxRecDepth 20000 in
theorem dL_law_20 : decode cL_law 20 = .ok (.iconst 0, 1) := by decide +kernel
set_option maxRecDepth 20000 in
theorem dL_law_21 : decode cL_law 21 = .ok (.istore 4, 2) := by decide +kernel
set_option maxRecDepth 20000 in
theorem dL_law_23 : decode cL_law 23 = .ok (.iload 4, 2) := by decide +kernel
set_option maxRecDepth 20000 in
theorem dL_law_25 : decode cL_law 25 = .ok (.aload_n 0, 1) := by decide +kernel
set_option maxRecDepth 20000 in
theorem dL_law_26 : decode cL_law 26 = .ok (.arraylength, 1) := by decide +kernel
set_option maxRecDepth 20000 in
theorem dL_law_27 : decode cL_law 27 = .ok (.bipush 6, 2) := by decide +kernel
set_option maxRecDepth 20000 in
theorem dL_law_29 : decode cL_law 29 = .ok (.isub, 1) := by decide +kernel
set_option maxRecDepth 20000 in
theorem dL_law_30 : decode cL_law 30 = .ok (.if_icmp .gt 1073, 3) := by decide +kernel
set_option maxRecDepth 20000 in
theorem dL_law_33 : decode cL_law 33 = .ok (.aload_n 0, 1) := by decide +kernel
set_option maxRecDepth 20000 in
theorem dL_law_34 : decode cL_law 34 = .ok (.iload 4, 2) := by decide +kernel
set_option maxRecDepth 20000 in
theorem dL_law_36 : decode cL_law 36 = .ok (.iaload, 1) := by decide +kernel
set_option maxRecDepth 20000 in
theorem dL_law_37 : decode cL_law 37 = .ok (.bipush 31, 2) := by decide +kernel
set_option maxRecDepth 20000 in
theorem dL_law_39 : decode cL_law 39 = .ok (.iand, 1) := by decide +kernel
set_option maxRecDepth 20000 in
theorem dL_law_40 : decode cL_law 40 = .ok (.tableswitch 1057 0 26 #[124, 197, 222, 235, 260, 325, 378, 403, 416, 441, 466, 503, 528, 553, 590, 615, 640, 709, 790, 815, 864, 901, 912, 925, 951, 1019, 1032], 124) := by decide +kernel
set_option maxRecDepth 20000 in
theorem dL_law_164 : decode cL_law 164 = .ok (.aload_n 1, 1) := by decide +kernel
set_option maxRecDepth 20000 in
theorem dL_law_165 : decode cL_law 165 = .ok (.aload_n 0, 1) := by decide +kernel
set_option maxRecDepth 20000 in
theorem dL_law_166 : decode cL_law 166 = .ok (.iload 4, 2) := by decide +kernel
set_option maxRecDepth 20000 in
theorem dL_law_168 : decode cL_law 168 = .ok (.iconst 1, 1) := by decide +kernel
set_option maxRecDepth 20000 in
theorem dL_law_169 : decode cL_law 169 = .ok (.iadd, 1) := by decide +kernel
set_option maxRecDepth 20000 in
theorem dL_law_170 : decode cL_law 170 = .ok (.iaload, 1) := by decide +kernel
set_option maxRecDepth 20000 in
theorem dL_law_171 : decode cL_law 171 = .ok (.aload_n 0, 1) := by decide +kernel
set_option maxRecDepth 20000 in
theorem dL_law_172 : decode cL_law 172 = .ok (.iload 4, 2) := by decide +kernel
set_option maxRecDepth 20000 in
theorem dL_law_174 : decode cL_law 174 = .ok (.iconst 2, 1) := by decide +kernel
set_option maxRecDepth 20000 in
theorem dL_law_175 : decode cL_law 175 = .ok (.iadd, 1) := by decide +kernel
set_option maxRecDepth 20000 in
theorem dL_law_176 : decode cL_law 176 = .ok (.iaload, 1) := by decide +kernel
set_option maxRecDepth 20000 in
theorem dL_law_177 : decode cL_law 177 = .ok (.aload_n 0, 1) := by decide +kernel
set_option maxRecDepth 20000 in
theorem dL_law_178 : decode cL_law 178 = .ok (.iload 4, 2) := by decide +kernel
set_option maxRecDepth 20000 in
theorem dL_law_180 : decode cL_law 180 = .ok (.iconst 3, 1) := by decide +kernel
set_option maxRecDepth 20000 in
theorem dL_law_181 : decode cL_law 181 = .ok (.iadd, 1) := by decide +kernel
set_option maxRecDepth 20000 in
theorem dL_law_182 : decode cL_law 182 = .ok (.iaload, 1) := by decide +kernel
set_option maxRecDepth 20000 in
theorem dL_law_183 : decode cL_law 183 = .ok (.aload_n 0, 1) := by decide +kernel
set_option maxRecDepth 20000 in
theorem dL_law_184 : decode cL_law 184 = .ok (.iload 4, 2) := by decide +kernel
set_option maxRecDepth 20000 in
theorem dL_law_186 : decode cL_law 186 = .ok (.iconst 4, 1) := by decide +kernel
set_option maxRecDepth 20000 in
theorem dL_law_187 : decode cL_law 187 = .ok (.iadd, 1) := by decide +kernel
set_option maxRecDepth 20000 in
theorem dL_law_188 : decode cL_law 188 = .ok (.iaload, 1) := by decide +kernel
set_option maxRecDepth 20000 in
theorem dL_law_189 : decode cL_law 189 = .ok (.aload_n 0, 1) := by decide +kernel
set_option maxRecDepth 20000 in
theorem dL_law_190 : decode cL_law 190 = .ok (.iload 4, 2) := by decide +kernel
set_option maxRecDepth 20000 in
theorem dL_law_192 : decode cL_law 192 = .ok (.iconst 5, 1) := by decide +kernel
set_option maxRecDepth 20000 in
theorem dL_law_193 : decode cL_law 193 = .ok (.iadd, 1) := by decide +kernel
set_option maxRecDepth 20000 in
theorem dL_law_194 : decode cL_law 194 = .ok (.iaload, 1) := by decide +kernel
set_option maxRecDepth 20000 in
theorem dL_law_195 : decode cL_law 195 = .ok (.invokevirtual 19, 3) := by decide +kernel
set_option maxRecDepth 20000 in
theorem dL_law_198 : decode cL_law 198 = .ok (.aload_n 2, 1) := by decide +kernel
set_option maxRecDepth 20000 in
theorem dL_law_199 : decode cL_law 199 = .ok (.aload_n 0, 1) := by decide +kernel
set_option maxRecDepth 20000 in
theorem dL_law_200 : decode cL_law 200 = .ok (.iload 4, 2) := by decide +kernel
set_option maxRecDepth 20000 in
theorem dL_law_202 : decode cL_law 202 = .ok (.iconst 1, 1) := by decide +kernel
set_option maxRecDepth 20000 in
theorem dL_law_203 : decode cL_law 203 = .ok (.iadd, 1) := by decide +kernel
set_option maxRecDepth 20000 in
theorem dL_law_204 : decode cL_law 204 = .ok (.iaload, 1) := by decide +kernel
set_option maxRecDepth 20000 in
theorem dL_law_205 : decode cL_law 205 = .ok (.aload_n 0, 1) := by decide +kernel
set_option maxRecDepth 20000 in
theorem dL_law_206 : decode cL_law 206 = .ok (.iload 4, 2) := by decide +kernel
set_option maxRecDepth 20000 in
theorem dL_law_208 : decode cL_law 208 = .ok (.iconst 2, 1) := by decide +kernel
set_option maxRecDepth 20000 in
theorem dL_law_209 : decode cL_law 209 = .ok (.iadd, 1) := by decide +kernel
set_option maxRecDepth 20000 in
theorem dL_law_210 : decode cL_law 210 = .ok (.iaload, 1) := by decide +kernel
set_option maxRecDepth 20000 in
theorem dL_law_211 : decode cL_law 211 = .ok (.aload_n 0, 1) := by decide +kernel
set_option maxRecDepth 20000 in
theorem dL_law_212 : decode cL_law 212 = .ok (.iload 4, 2) := by decide +kernel
set_option maxRecDepth 20000 in
theorem dL_law_214 : decode cL_law 214 = .ok (.iconst 3, 1) := by decide +kernel
set_option maxRecDepth 20000 in
theorem dL_law_215 : decode cL_law 215 = .ok (.iadd, 1) := by decide +kernel
set_option maxRecDepth 20000 in
theorem dL_law_216 : decode cL_law 216 = .ok (.iaload, 1) := by decide +kernel
set_option maxRecDepth 20000 in
theorem dL_law_217 : decode cL_law 217 = .ok (.aload_n 0, 1) := by decide +kernel
set_option maxRecDepth 20000 in
theorem dL_law_218 : decode cL_law 218 = .ok (.iload 4, 2) := by decide +kernel
set_option maxRecDepth 20000 in
theorem dL_law_220 : decode cL_law 220 = .ok (.iconst 4, 1) := by decide +kernel
set_option maxRecDepth 20000 in
theorem dL_law_221 : decode cL_law 221 = .ok (.iadd, 1) := by decide +kernel
set_option maxRecDepth 20000 in
theorem dL_law_222 : decode cL_law 222 = .ok (.iaload, 1) := by decide +kernel
set_option maxRecDepth 20000 in
theorem dL_law_223 : decode cL_law 223 = .ok (.aload_n 0, 1) := by decide +kernel
set_option maxRecDepth 20000 in
theorem dL_law_224 : decode cL_law 224 = .ok (.iload 4, 2) := by decide +kernel
set_option maxRecDepth 20000 in
theorem dL_law_226 : decode cL_law 226 = .ok (.iconst 5, 1) := by decide +kernel
set_option maxRecDepth 20000 in
theorem dL_law_227 : decode cL_law 227 = .ok (.iadd, 1) := by decide +kernel
set_option maxRecDepth 20000 in
theorem dL_law_228 : decode cL_law 228 = .ok (.iaload, 1) := by decide +kernel
set_option maxRecDepth 20000 in
theorem dL_law_229 : decode cL_law 229 = .ok (.invokevirtual 23, 3) := by decide +kernel
set_option maxRecDepth 20000 in
theorem dL_law_232 : decode cL_law 232 = .ok (.if_icmp .eq 865, 3) := by decide +kernel
set_option maxRecDepth 20000 in
theorem dL_law_235 : decode cL_law 235 = .ok (.iconst 0, 1) := by decide +kernel
set_option maxRecDepth 20000 in
theorem dL_law_236 : decode cL_law 236 = .ok (.ireturn, 1) := by decide +kernel
set_option maxRecDepth 20000 in
theorem dL_law_237 : decode cL_law 237 = .ok (.aload_n 1, 1) := by decide +kernel
set_option maxRecDepth 20000 in
theorem dL_law_238 : decode cL_law 238 = .ok (.aload_n 0, 1) := by decide +kernel
set_option maxRecDepth 20000 in
theorem dL_law_239 : decode cL_law 239 = .ok (.iload 4, 2) := by decide +kernel
set_option maxRecDepth 20000 in
theorem dL_law_241 : decode cL_law 241 = .ok (.iconst 1, 1) := by decide +kernel
set_option maxRecDepth 20000 in
theorem dL_law_242 : decode cL_law 242 = .ok (.iadd, 1) := by decide +kernel
set_option maxRecDepth 20000 in
theorem dL_law_243 : decode cL_law 243 = .ok (.iaload, 1) := by decide +kernel
set_option maxRecDepth 20000 in
theorem dL_law_244 : decode cL_law 244 = .ok (.invokevirtual 24, 3) := by decide +kernel
set_option maxRecDepth 20000 in
theorem dL_law_247 : decode cL_law 247 = .ok (.aload_n 2, 1) := by decide +kernel
set_option maxRecDepth 20000 in
theorem dL_law_248 : decode cL_law 248 = .ok (.aload_n 0, 1) := by decide +kernel
set_option maxRecDepth 20000 in
theorem dL_law_249 : decode cL_law 249 = .ok (.iload 4, 2) := by decide +kernel
set_option maxRecDepth 20000 in
theorem dL_law_251 : decode cL_law 251 = .ok (.iconst 1, 1) := by decide +kernel
set_option maxRecDepth 20000 in
theorem dL_law_252 : decode cL_law 252 = .ok (.iadd, 1) := by decide +kernel
set_option maxRecDepth 20000 in
theorem dL_law_253 : decode cL_law 253 = .ok (.iaload, 1) := by decide +kernel
set_option maxRecDepth 20000 in
theorem dL_law_254 : decode cL_law 254 = .ok (.invokevirtual 28, 3) := by decide +kernel
set_option maxRecDepth 20000 in
theorem dL_law_257 : decode cL_law 257 = .ok (.if_icmp .eq 840, 3) := by decide +kernel
set_option maxRecDepth 20000 in
theorem dL_law_260 : decode cL_law 260 = .ok (.iconst 0, 1) := by decide +kernel
set_option maxRecDepth 20000 in
theorem dL_law_261 : decode cL_law 261 = .ok (.ireturn, 1) := by decide +kernel
set_option maxRecDepth 20000 in
theorem dL_law_262 : decode cL_law 262 = .ok (.aload_n 1, 1) := by decide +kernel
set_option maxRecDepth 20000 in
theorem dL_law_263 : decode cL_law 263 = .ok (.invokevirtual 29, 3) := by decide +kernel
set_option maxRecDepth 20000 in
theorem dL_law_266 : decode cL_law 266 = .ok (.aload_n 2, 1) := by decide +kernel
set_option maxRecDepth 20000 in
theorem dL_law_267 : decode cL_law 267 = .ok (.invokevirtual 33, 3) := by decide +kernel
set_option maxRecDepth 20000 in
theorem dL_law_270 : decode cL_law 270 = .ok (.if_icmp .eq 827, 3) := by decide +kernel
set_option maxRecDepth 20000 in
theorem dL_law_273 : decode cL_law 273 = .ok (.iconst 0, 1) := by decide +kernel
set_option maxRecDepth 20000 in
theorem dL_law_274 : decode cL_law 274 = .ok (.ireturn, 1) := by decide +kernel
set_option maxRecDepth 20000 in
theorem dL_law_275 : decode cL_law 275 = .ok (.aload_n 1, 1) := by decide +kernel
set_option maxRecDepth 20000 in
theorem dL_law_276 : decode cL_law 276 = .ok (.aload_n 0, 1) := by decide +kernel
set_option maxRecDepth 20000 in
theorem dL_law_277 : decode cL_law 277 = .ok (.iload 4, 2) := by decide +kernel
set_option maxRecDepth 20000 in
theorem dL_law_279 : decode cL_law 279 = .ok (.iconst 1, 1) := by decide +kernel
set_option maxRecDepth 20000 in
theorem dL_law_280 : decode cL_law 280 = .ok (.iadd, 1) := by decide +kernel
set_option maxRecDepth 20000 in
theorem dL_law_281 : decode cL_law 281 = .ok (.iaload, 1) := by decide +kernel
set_option maxRecDepth 20000 in
theorem dL_law_282 : decode cL_law 282 = .ok (.invokevirtual 34, 3) := by decide +kernel
set_option maxRecDepth 20000 in
theorem dL_law_285 : decode cL_law 285 = .ok (.aload_n 2, 1) := by decide +kernel
set_option maxRecDepth 20000 in
theorem dL_law_286 : decode cL_law 286 = .ok (.aload_n 0, 1) := by decide +kernel
set_option maxRecDepth 20000 in
theorem dL_law_287 : decode cL_law 287 = .ok (.iload 4, 2) := by decide +kernel
set_option maxRecDepth 20000 in
theorem dL_law_289 : decode cL_law 289 = .ok (.iconst 1, 1) := by decide +kernel
set_option maxRecDepth 20000 in
theorem dL_law_290 : decode cL_law 290 = .ok (.iadd, 1) := by decide +kernel
set_option maxRecDepth 20000 in
theorem dL_law_291 : decode cL_law 291 = .ok (.iaload, 1) := by decide +kernel
set_option maxRecDepth 20000 in
theorem dL_law_292 : decode cL_law 292 = .ok (.invokevirtual 37, 3) := by decide +kernel
set_option maxRecDepth 20000 in
theorem dL_law_295 : decode cL_law 295 = .ok (.if_icmp .eq 802, 3) := by decide +kernel
set_option maxRecDepth 20000 in
theorem dL_law_298 : decode cL_law 298 = .ok (.iconst 0, 1) := by decide +kernel
set_option maxRecDepth 20000 in
theorem dL_law_299 : decode cL_law 299 = .ok (.ireturn, 1) := by decide +kernel
set_option maxRecDepth 20000 in
theorem dL_law_300 : decode cL_law 300 = .ok (.aload_n 1, 1) := by decide +kernel
set_option maxRecDepth 20000 in
theorem dL_law_301 : decode cL_law 301 = .ok (.aload_n 0, 1) := by decide +kernel
set_option maxRecDepth 20000 in
theorem dL_law_302 : decode cL_law 302 = .ok (.iload 4, 2) := by decide +kernel
set_option maxRecDepth 20000 in
theorem dL_law_304 : decode cL_law 304 = .ok (.iconst 1, 1) := by decide +kernel
set_option maxRecDepth 20000 in
theorem dL_law_305 : decode cL_law 305 = .ok (.iadd, 1) := by decide +kernel
set_option maxRecDepth 20000 in
theorem dL_law_306 : decode cL_law 306 = .ok (.iaload, 1) := by decide +kernel
set_option maxRecDepth 20000 in
theorem dL_law_307 : decode cL_law 307 = .ok (.aload_n 0, 1) := by decide +kernel
set_option maxRecDepth 20000 in
theorem dL_law_308 : decode cL_law 308 = .ok (.iload 4, 2) := by decide +kernel
set_option maxRecDepth 20000 in
theorem dL_law_310 : decode cL_law 310 = .ok (.iconst 2, 1) := by decide +kernel
set_option maxRecDepth 20000 in
theorem dL_law_311 : decode cL_law 311 = .ok (.iadd, 1) := by decide +kernel
set_option maxRecDepth 20000 in
theorem dL_law_312 : decode cL_law 312 = .ok (.iaload, 1) := by decide +kernel
set_option maxRecDepth 20000 in
theorem dL_law_313 : decode cL_law 313 = .ok (.aload_n 0, 1) := by decide +kernel
set_option maxRecDepth 20000 in
theorem dL_law_314 : decode cL_law 314 = .ok (.iload 4, 2) := by decide +kernel
set_option maxRecDepth 20000 in
theorem dL_law_316 : decode cL_law 316 = .ok (.iconst 3, 1) := by decide +kernel
set_option maxRecDepth 20000 in
theorem dL_law_317 : decode cL_law 317 = .ok (.iadd, 1) := by decide +kernel
set_option maxRecDepth 20000 in
theorem dL_law_318 : decode cL_law 318 = .ok (.iaload, 1) := by decide +kernel
set_option maxRecDepth 20000 in
theorem dL_law_319 : decode cL_law 319 = .ok (.ifCond .eq 7, 3) := by decide +kernel
set_option maxRecDepth 20000 in
theorem dL_law_322 : decode cL_law 322 = .ok (.iconst 1, 1) := by decide +kernel
set_option maxRecDepth 20000 in
theorem dL_law_323 : decode cL_law 323 = .ok (.goto 4, 3) := by decide +kernel
set_option maxRecDepth 20000 in
theorem dL_law_326 : decode cL_law 326 = .ok (.iconst 0, 1) := by decide +kernel
set_option maxRecDepth 20000 in
theorem dL_law_327 : decode cL_law 327 = .ok (.invokevirtual 38, 3) := by decide +kernel
set_option maxRecDepth 20000 in
theorem dL_law_330 : decode cL_law 330 = .ok (.aload_n 2, 1) := by decide +kernel
set_option maxRecDepth 20000 in
theorem dL_law_331 : decode cL_law 331 = .ok (.aload_n 0, 1) := by decide +kernel
set_option maxRecDepth 20000 in
theorem dL_law_332 : decode cL_law 332 = .ok (.iload 4, 2) := by decide +kernel
set_option maxRecDepth 20000 in
theorem dL_law_334 : decode cL_law 334 = .ok (.iconst 1, 1) := by decide +kernel
set_option maxRecDepth 20000 in
theorem dL_law_335 : decode cL_law 335 = .ok (.iadd, 1) := by decide +kernel
set_option maxRecDepth 20000 in
theorem dL_law_336 : decode cL_law 336 = .ok (.iaload, 1) := by decide +kernel
set_option maxRecDepth 20000 in
theorem dL_law_337 : decode cL_law 337 = .ok (.aload_n 0, 1) := by decide +kernel
set_option maxRecDepth 20000 in
theorem dL_law_338 : decode cL_law 338 = .ok (.iload 4, 2) := by decide +kernel
set_option maxRecDepth 20000 in
theorem dL_law_340 : decode cL_law 340 = .ok (.iconst 2, 1) := by decide +kernel
set_option maxRecDepth 20000 in
theorem dL_law_341 : decode cL_law 341 = .ok (.iadd, 1) := by decide +kernel
set_option maxRecDepth 20000 in
theorem dL_law_342 : decode cL_law 342 = .ok (.iaload, 1) := by decide +kernel
set_option maxRecDepth 20000 in
theorem dL_law_343 : decode cL_law 343 = .ok (.aload_n 0, 1) := by decide +kernel
set_option maxRecDepth 20000 in
theorem dL_law_344 : decode cL_law 344 = .ok (.iload 4, 2) := by decide +kernel
set_option maxRecDepth 20000 in
theorem dL_law_346 : decode cL_law 346 = .ok (.iconst 3, 1) := by decide +kernel
set_option maxRecDepth 20000 in
theorem dL_law_347 : decode cL_law 347 = .ok (.iadd, 1) := by decide +kernel
set_option maxRecDepth 20000 in
theorem dL_law_348 : decode cL_law 348 = .ok (.iaload, 1) := by decide +kernel
set_option maxRecDepth 20000 in
theorem dL_law_349 : decode cL_law 349 = .ok (.ifCond .eq 7, 3) := by decide +kernel
set_option maxRecDepth 20000 in
theorem dL_law_352 : decode cL_law 352 = .ok (.iconst 1, 1) := by decide +kernel
set_option maxRecDepth 20000 in
theorem dL_law_353 : decode cL_law 353 = .ok (.goto 4, 3) := by decide +kernel
set_option maxRecDepth 20000 in
theorem dL_law_356 : decode cL_law 356 = .ok (.iconst 0, 1) := by decide +kernel
set_option maxRecDepth 20000 in
theorem dL_law_357 : decode cL_law 357 = .ok (.invokevirtual 42, 3) := by decide +kernel
set_option maxRecDepth 20000 in
theorem dL_law_360 : decode cL_law 360 = .ok (.if_icmp .eq 737, 3) := by decide +kernel
set_option maxRecDepth 20000 in
theorem dL_law_363 : decode cL_law 363 = .ok (.iconst 0, 1) := by decide +kernel
set_option maxRecDepth 20000 in
theorem dL_law_364 : decode cL_law 364 = .ok (.ireturn, 1) := by decide +kernel
set_option maxRecDepth 20000 in
theorem dL_law_365 : decode cL_law 365 = .ok (.aload_n 1, 1) := by decide +kernel
set_option maxRecDepth 20000 in
theorem dL_law_366 : decode cL_law 366 = .ok (.aload_n 0, 1) := by decide +kernel
set_option maxRecDepth 20000 in
theorem dL_law_367 : decode cL_law 367 = .ok (.iload 4, 2) := by decide +kernel
set_option maxRecDepth 20000 in
theorem dL_law_369 : decode cL_law 369 = .ok (.iconst 1, 1) := by decide +kernel
set_option maxRecDepth 20000 in
theorem dL_law_370 : decode cL_law 370 = .ok (.iadd, 1) := by decide +kernel
set_option maxRecDepth 20000 in
theorem dL_law_371 : decode cL_law 371 = .ok (.iaload, 1) := by decide +kernel
set_option maxRecDepth 20000 in
theorem dL_law_372 : decode cL_law 372 = .ok (.aload_n 0, 1) := by decide +kernel
set_option maxRecDepth 20000 in
theorem dL_law_373 : decode cL_law 373 = .ok (.iload 4, 2) := by decide +kernel
set_option maxRecDepth 20000 in
theorem dL_law_375 : decode cL_law 375 = .ok (.iconst 2, 1) := by decide +kernel
set_option maxRecDepth 20000 in
theorem dL_law_376 : decode cL_law 376 = .ok (.iadd, 1) := by decide +kernel
set_option maxRecDepth 20000 in
theorem dL_law_377 : decode cL_law 377 = .ok (.iaload, 1) := by decide +kernel
set_option maxRecDepth 20000 in
theorem dL_law_378 : decode cL_law 378 = .ok (.ifCond .eq 7, 3) := by decide +kernel
set_option maxRecDepth 20000 in
theorem dL_law_381 : decode cL_law 381 = .ok (.iconst 1, 1) := by decide +kernel
set_option maxRecDepth 20000 in
theorem dL_law_382 : decode cL_law 382 = .ok (.goto 4, 3) := by decide +kernel
set_option maxRecDepth 20000 in
theorem dL_law_385 : decode cL_law 385 = .ok (.iconst 0, 1) := by decide +kernel
set_option maxRecDepth 20000 in
theorem dL_law_386 : decode cL_law 386 = .ok (.invokevirtual 43, 3) := by decide +kernel
set_option maxRecDepth 20000 in
theorem dL_law_389 : decode cL_law 389 = .ok (.aload_n 2, 1) := by decide +kernel
set_option maxRecDepth 20000 in
theorem dL_law_390 : decode cL_law 390 = .ok (.aload_n 0, 1) := by decide +kernel
set_option maxRecDepth 20000 in
theorem dL_law_391 : decode cL_law 391 = .ok (.iload 4, 2) := by decide +kernel
set_option maxRecDepth 20000 in
theorem dL_law_393 : decode cL_law 393 = .ok (.iconst 1, 1) := by decide +kernel
set_option maxRecDepth 20000 in
theorem dL_law_394 : decode cL_law 394 = .ok (.iadd, 1) := by decide +kernel
set_option maxRecDepth 20000 in
theorem dL_law_395 : decode cL_law 395 = .ok (.iaload, 1) := by decide +kernel
set_option maxRecDepth 20000 in
theorem dL_law_396 : decode cL_law 396 = .ok (.aload_n 0, 1) := by decide +kernel
set_option maxRecDepth 20000 in
theorem dL_law_397 : decode cL_law 397 = .ok (.iload 4, 2) := by decide +kernel
set_option maxRecDepth 20000 in
theorem dL_law_399 : decode cL_law 399 = .ok (.iconst 2, 1) := by decide +kernel
set_option maxRecDepth 20000 in
theorem dL_law_400 : decode cL_law 400 = .ok (.iadd, 1) := by decide +kernel
set_option maxRecDepth 20000 in
theorem dL_law_401 : decode cL_law 401 = .ok (.iaload, 1) := by decide +kernel
set_option maxRecDepth 20000 in
theorem dL_law_402 : decode cL_law 402 = .ok (.ifCond .eq 7, 3) := by decide +kernel
set_option maxRecDepth 20000 in
theorem dL_law_405 : decode cL_law 405 = .ok (.iconst 1, 1) := by decide +kernel
set_option maxRecDepth 20000 in
theorem dL_law_406 : decode cL_law 406 = .ok (.goto 4, 3) := by decide +kernel
set_option maxRecDepth 20000 in
theorem dL_law_409 : decode cL_law 409 = .ok (.iconst 0, 1) := by decide +kernel
set_option maxRecDepth 20000 in
theorem dL_law_410 : decode cL_law 410 = .ok (.invokevirtual 47, 3) := by decide +kernel
set_option maxRecDepth 20000 in
theorem dL_law_413 : decode cL_law 413 = .ok (.if_icmp .eq 684, 3) := by decide +kernel
set_option maxRecDepth 20000 in
theorem dL_law_416 : decode cL_law 416 = .ok (.iconst 0, 1) := by decide +kernel
set_option maxRecDepth 20000 in
theorem dL_law_417 : decode cL_law 417 = .ok (.ireturn, 1) := by decide +kernel
set_option maxRecDepth 20000 in
theorem dL_law_418 : decode cL_law 418 = .ok (.aload_n 1, 1) := by decide +kernel
set_option maxRecDepth 20000 in
theorem dL_law_419 : decode cL_law 419 = .ok (.aload_n 0, 1) := by decide +kernel
set_option maxRecDepth 20000 in
theorem dL_law_420 : decode cL_law 420 = .ok (.iload 4, 2) := by decide +kernel
set_option maxRecDepth 20000 in
theorem dL_law_422 : decode cL_law 422 = .ok (.iconst 1, 1) := by decide +kernel
set_option maxRecDepth 20000 in
theorem dL_law_423 : decode cL_law 423 = .ok (.iadd, 1) := by decide +kernel
set_option maxRecDepth 20000 in
theorem dL_law_424 : decode cL_law 424 = .ok (.iaload, 1) := by decide +kernel
set_option maxRecDepth 20000 in
theorem dL_law_425 : decode cL_law 425 = .ok (.invokevirtual 48, 3) := by decide +kernel
set_option maxRecDepth 20000 in
theorem dL_law_428 : decode cL_law 428 = .ok (.aload_n 2, 1) := by decide +kernel
set_option maxRecDepth 20000 in
theorem dL_law_429 : decode cL_law 429 = .ok (.aload_n 0, 1) := by decide +kernel
set_option maxRecDepth 20000 in
theorem dL_law_430 : decode cL_law 430 = .ok (.iload 4, 2) := by decide +kernel
set_option maxRecDepth 20000 in
theorem dL_law_432 : decode cL_law 432 = .ok (.iconst 1, 1) := by decide +kernel
set_option maxRecDepth 20000 in
theorem dL_law_433 : decode cL_law 433 = .ok (.iadd, 1) := by decide +kernel
set_option maxRecDepth 20000 in
theorem dL_law_434 : decode cL_law 434 = .ok (.iaload, 1) := by decide +kernel
set_option maxRecDepth 20000 in
theorem dL_law_435 : decode cL_law 435 = .ok (.invokevirtual 52, 3) := by decide +kernel
set_option maxRecDepth 20000 in
theorem dL_law_438 : decode cL_law 438 = .ok (.if_icmp .eq 659, 3) := by decide +kernel
set_option maxRecDepth 20000 in
theorem dL_law_441 : decode cL_law 441 = .ok (.iconst 0, 1) := by decide +kernel
set_option maxRecDepth 20000 in
theorem dL_law_442 : decode cL_law 442 = .ok (.ireturn, 1) := by decide +kernel
set_option maxRecDepth 20000 in
theorem dL_law_443 : decode cL_law 443 = .ok (.aload_n 1, 1) := by decide +kernel
set_option maxRecDepth 20000 in
theorem dL_law_444 : decode cL_law 444 = .ok (.invokevirtual 53, 3) := by decide +kernel
set_option maxRecDepth 20000 in
theorem dL_law_447 : decode cL_law 447 = .ok (.aload_n 2, 1) := by decide +kernel
set_option maxRecDepth 20000 in
theorem dL_law_448 : decode cL_law 448 = .ok (.invokevirtual 56, 3) := by decide +kernel
set_option maxRecDepth 20000 in
theorem dL_law_451 : decode cL_law 451 = .ok (.if_icmp .eq 646, 3) := by decide +kernel
set_option maxRecDepth 20000 in
theorem dL_law_454 : decode cL_law 454 = .ok (.iconst 0, 1) := by decide +kernel
set_option maxRecDepth 20000 in
theorem dL_law_455 : decode cL_law 455 = .ok (.ireturn, 1) := by decide +kernel
set_option maxRecDepth 20000 in
theorem dL_law_456 : decode cL_law 456 = .ok (.aload_n 1, 1) := by decide +kernel
set_option maxRecDepth 20000 in
theorem dL_law_457 : decode cL_law 457 = .ok (.aload_n 0, 1) := by decide +kernel
set_option maxRecDepth 20000 in
theorem dL_law_458 : decode cL_law 458 = .ok (.iload 4, 2) := by decide +kernel
set_option maxRecDepth 20000 in
theorem dL_law_460 : decode cL_law 460 = .ok (.iconst 1, 1) := by decide +kernel
set_option maxRecDepth 20000 in
theorem dL_law_461 : decode cL_law 461 = .ok (.iadd, 1) := by decide +kernel
set_option maxRecDepth 20000 in
theorem dL_law_462 : decode cL_law 462 = .ok (.iaload, 1) := by decide +kernel
set_option maxRecDepth 20000 in
theorem dL_law_463 : decode cL_law 463 = .ok (.invokevirtual 57, 3) := by decide +kernel
set_option maxRecDepth 20000 in
theorem dL_law_466 : decode cL_law 466 = .ok (.aload_n 2, 1) := by decide +kernel
set_option maxRecDepth 20000 in
theorem dL_law_467 : decode cL_law 467 = .ok (.aload_n 0, 1) := by decide +kernel
set_option maxRecDepth 20000 in
theorem dL_law_468 : decode cL_law 468 = .ok (.iload 4, 2) := by decide +kernel
set_option maxRecDepth 20000 in
theorem dL_law_470 : decode cL_law 470 = .ok (.iconst 1, 1) := by decide +kernel
set_option maxRecDepth 20000 in
theorem dL_law_471 : decode cL_law 471 = .ok (.iadd, 1) := by decide +kernel
set_option maxRecDepth 20000 in
theorem dL_law_472 : decode cL_law 472 = .ok (.iaload, 1) := by decide +kernel
set_option maxRecDepth 20000 in
theorem dL_law_473 : decode cL_law 473 = .ok (.invokevirtual 60, 3) := by decide +kernel
set_option maxRecDepth 20000 in
theorem dL_law_476 : decode cL_law 476 = .ok (.if_icmp .eq 621, 3) := by decide +kernel
set_option maxRecDepth 20000 in
theorem dL_law_479 : decode cL_law 479 = .ok (.iconst 0, 1) := by decide +kernel
set_option maxRecDepth 20000 in
theorem dL_law_480 : decode cL_law 480 = .ok (.ireturn, 1) := by decide +kernel
set_option maxRecDepth 20000 in
theorem dL_law_481 : decode cL_law 481 = .ok (.aload_n 1, 1) := by decide +kernel
set_option maxRecDepth 20000 in
theorem dL_law_482 : decode cL_law 482 = .ok (.aload_n 0, 1) := by decide +kernel
set_option maxRecDepth 20000 in
theorem dL_law_483 : decode cL_law 483 = .ok (.iload 4, 2) := by decide +kernel
set_option maxRecDepth 20000 in
theorem dL_law_485 : decode cL_law 485 = .ok (.iconst 1, 1) := by decide +kernel
set_option maxRecDepth 20000 in
theorem dL_law_486 : decode cL_law 486 = .ok (.iadd, 1) := by decide +kernel
set_option maxRecDepth 20000 in
theorem dL_law_487 : decode cL_law 487 = .ok (.iaload, 1) := by decide +kernel
set_option maxRecDepth 20000 in
theorem dL_law_488 : decode cL_law 488 = .ok (.invokevirtual 61, 3) := by decide +kernel
set_option maxRecDepth 20000 in
theorem dL_law_491 : decode cL_law 491 = .ok (.aload_n 2, 1) := by decide +kernel
set_option maxRecDepth 20000 in
theorem dL_law_492 : decode cL_law 492 = .ok (.aload_n 0, 1) := by decide +kernel
set_option maxRecDepth 20000 in
theorem dL_law_493 : decode cL_law 493 = .ok (.iload 4, 2) := by decide +kernel
set_option maxRecDepth 20000 in
theorem dL_law_495 : decode cL_law 495 = .ok (.iconst 1, 1) := by decide +kernel
set_option maxRecDepth 20000 in
theorem dL_law_496 : decode cL_law 496 = .ok (.iadd, 1) := by decide +kernel
set_option maxRecDepth 20000 in
theorem dL_law_497 : decode cL_law 497 = .ok (.iaload, 1) := by decide +kernel
set_option maxRecDepth 20000 in
theorem dL_law_498 : decode cL_law 498 = .ok (.invokevirtual 64, 3) := by decide +kernel
set_option maxRecDepth 20000 in
theorem dL_law_501 : decode cL_law 501 = .ok (.if_icmp .eq 596, 3) := by decide +kernel
set_option maxRecDepth 20000 in
theorem dL_law_504 : decode cL_law 504 = .ok (.iconst 0, 1) := by decide +kernel
set_option maxRecDepth 20000 in
theorem dL_law_505 : decode cL_law 505 = .ok (.ireturn, 1) := by decide +kernel
set_option maxRecDepth 20000 in
theorem dL_law_506 : decode cL_law 506 = .ok (.aload_n 1, 1) := by decide +kernel
set_option maxRecDepth 20000 in
theorem dL_law_507 : decode cL_law 507 = .ok (.aload_n 0, 1) := by decide +kernel
set_option maxRecDepth 20000 in
theorem dL_law_508 : decode cL_law 508 = .ok (.iload 4, 2) := by decide +kernel
set_option maxRecDepth 20000 in
theorem dL_law_510 : decode cL_law 510 = .ok (.iconst 1, 1) := by decide +kernel
set_option maxRecDepth 20000 in
theorem dL_law_511 : decode cL_law 511 = .ok (.iadd, 1) := by decide +kernel
set_option maxRecDepth 20000 in
theorem dL_law_512 : decode cL_law 512 = .ok (.iaload, 1) := by decide +kernel
set_option maxRecDepth 20000 in
theorem dL_law_513 : decode cL_law 513 = .ok (.aload_n 0, 1) := by decide +kernel
set_option maxRecDepth 20000 in
theorem dL_law_514 : decode cL_law 514 = .ok (.iload 4, 2) := by decide +kernel
set_option maxRecDepth 20000 in
theorem dL_law_516 : decode cL_law 516 = .ok (.iconst 2, 1) := by decide +kernel
set_option maxRecDepth 20000 in
theorem dL_law_517 : decode cL_law 517 = .ok (.iadd, 1) := by decide +kernel
set_option maxRecDepth 20000 in
theorem dL_law_518 : decode cL_law 518 = .ok (.iaload, 1) := by decide +kernel
set_option maxRecDepth 20000 in
theorem dL_law_519 : decode cL_law 519 = .ok (.invokevirtual 65, 3) := by decide +kernel
set_option maxRecDepth 20000 in
theorem dL_law_522 : decode cL_law 522 = .ok (.aload_n 2, 1) := by decide +kernel
set_option maxRecDepth 20000 in
theorem dL_law_523 : decode cL_law 523 = .ok (.aload_n 0, 1) := by decide +kernel
set_option maxRecDepth 20000 in
theorem dL_law_524 : decode cL_law 524 = .ok (.iload 4, 2) := by decide +kernel
set_option maxRecDepth 20000 in
theorem dL_law_526 : decode cL_law 526 = .ok (.iconst 1, 1) := by decide +kernel
set_option maxRecDepth 20000 in
theorem dL_law_527 : decode cL_law 527 = .ok (.iadd, 1) := by decide +kernel
set_option maxRecDepth 20000 in
theorem dL_law_528 : decode cL_law 528 = .ok (.iaload, 1) := by decide +kernel
set_option maxRecDepth 20000 in
theorem dL_law_529 : decode cL_law 529 = .ok (.aload_n 0, 1) := by decide +kernel
set_option maxRecDepth 20000 in
theorem dL_law_530 : decode cL_law 530 = .ok (.iload 4, 2) := by decide +kernel
set_option maxRecDepth 20000 in
theorem dL_law_532 : decode cL_law 532 = .ok (.iconst 2, 1) := by decide +kernel
set_option maxRecDepth 20000 in
theorem dL_law_533 : decode cL_law 533 = .ok (.iadd, 1) := by decide +kernel
set_option maxRecDepth 20000 in
theorem dL_law_534 : decode cL_law 534 = .ok (.iaload, 1) := by decide +kernel
set_option maxRecDepth 20000 in
theorem dL_law_535 : decode cL_law 535 = .ok (.invokevirtual 68, 3) := by decide +kernel
set_option maxRecDepth 20000 in
theorem dL_law_538 : decode cL_law 538 = .ok (.if_icmp .eq 559, 3) := by decide +kernel
set_option maxRecDepth 20000 in
theorem dL_law_541 : decode cL_law 541 = .ok (.iconst 0, 1) := by decide +kernel
set_option maxRecDepth 20000 in
theorem dL_law_542 : decode cL_law 542 = .ok (.ireturn, 1) := by decide +kernel
set_option maxRecDepth 20000 in
theorem dL_law_543 : decode cL_law 543 = .ok (.aload_n 1, 1) := by decide +kernel
set_option maxRecDepth 20000 in
theorem dL_law_544 : decode cL_law 544 = .ok (.aload_n 0, 1) := by decide +kernel
set_option maxRecDepth 20000 in
theorem dL_law_545 : decode cL_law 545 = .ok (.iload 4, 2) := by decide +kernel
set_option maxRecDepth 20000 in
theorem dL_law_547 : decode cL_law 547 = .ok (.iconst 1, 1) := by decide +kernel
set_option maxRecDepth 20000 in
theorem dL_law_548 : decode cL_law 548 = .ok (.iadd, 1) := by decide +kernel
set_option maxRecDepth 20000 in
theorem dL_law_549 : decode cL_law 549 = .ok (.iaload, 1) := by decide +kernel
set_option maxRecDepth 20000 in
theorem dL_law_550 : decode cL_law 550 = .ok (.invokevirtual 69, 3) := by decide +kernel
set_option maxRecDepth 20000 in
theorem dL_law_553 : decode cL_law 553 = .ok (.aload_n 2, 1) := by decide +kernel
set_option maxRecDepth 20000 in
theorem dL_law_554 : decode cL_law 554 = .ok (.aload_n 0, 1) := by decide +kernel
set_option maxRecDepth 20000 in
theorem dL_law_555 : decode cL_law 555 = .ok (.iload 4, 2) := by decide +kernel
set_option maxRecDepth 20000 in
theorem dL_law_557 : decode cL_law 557 = .ok (.iconst 1, 1) := by decide +kernel
set_option maxRecDepth 20000 in
theorem dL_law_558 : decode cL_law 558 = .ok (.iadd, 1) := by decide +kernel
set_option maxRecDepth 20000 in
theorem dL_law_559 : decode cL_law 559 = .ok (.iaload, 1) := by decide +kernel
set_option maxRecDepth 20000 in
theorem dL_law_560 : decode cL_law 560 = .ok (.invokevirtual 72, 3) := by decide +kernel
set_option maxRecDepth 20000 in
theorem dL_law_563 : decode cL_law 563 = .ok (.if_icmp .eq 534, 3) := by decide +kernel
set_option maxRecDepth 20000 in
theorem dL_law_566 : decode cL_law 566 = .ok (.iconst 0, 1) := by decide +kernel
set_option maxRecDepth 20000 in
theorem dL_law_567 : decode cL_law 567 = .ok (.ireturn, 1) := by decide +kernel
set_option maxRecDepth 20000 in
theorem dL_law_568 : decode cL_law 568 = .ok (.aload_n 1, 1) := by decide +kernel
set_option maxRecDepth 20000 in
theorem dL_law_569 : decode cL_law 569 = .ok (.aload_n 0, 1) := by decide +kernel
set_option maxRecDepth 20000 in
theorem dL_law_570 : decode cL_law 570 = .ok (.iload 4, 2) := by decide +kernel
set_option maxRecDepth 20000 in
theorem dL_law_572 : decode cL_law 572 = .ok (.iconst 1, 1) := by decide +kernel
set_option maxRecDepth 20000 in
theorem dL_law_573 : decode cL_law 573 = .ok (.iadd, 1) := by decide +kernel
set_option maxRecDepth 20000 in
theorem dL_law_574 : decode cL_law 574 = .ok (.iaload, 1) := by decide +kernel
set_option maxRecDepth 20000 in
theorem dL_law_575 : decode cL_law 575 = .ok (.invokevirtual 73, 3) := by decide +kernel
set_option maxRecDepth 20000 in
theorem dL_law_578 : decode cL_law 578 = .ok (.aload_n 2, 1) := by decide +kernel
set_option maxRecDepth 20000 in
theorem dL_law_579 : decode cL_law 579 = .ok (.aload_n 0, 1) := by decide +kernel
set_option maxRecDepth 20000 in
theorem dL_law_580 : decode cL_law 580 = .ok (.iload 4, 2) := by decide +kernel
set_option maxRecDepth 20000 in
theorem dL_law_582 : decode cL_law 582 = .ok (.iconst 1, 1) := by decide +kernel
set_option maxRecDepth 20000 in
theorem dL_law_583 : decode cL_law 583 = .ok (.iadd, 1) := by decide +kernel
set_option maxRecDepth 20000 in
theorem dL_law_584 : decode cL_law 584 = .ok (.iaload, 1) := by decide +kernel
set_option maxRecDepth 20000 in
theorem dL_law_585 : decode cL_law 585 = .ok (.invokevirtual 76, 3) := by decide +kernel
set_option maxRecDepth 20000 in
theorem dL_law_588 : decode cL_law 588 = .ok (.if_icmp .eq 509, 3) := by decide +kernel
set_option maxRecDepth 20000 in
theorem dL_law_591 : decode cL_law 591 = .ok (.iconst 0, 1) := by decide +kernel
set_option maxRecDepth 20000 in
theorem dL_law_592 : decode cL_law 592 = .ok (.ireturn, 1) := by decide +kernel
set_option maxRecDepth 20000 in
theorem dL_law_593 : decode cL_law 593 = .ok (.aload_n 1, 1) := by decide +kernel
set_option maxRecDepth 20000 in
theorem dL_law_594 : decode cL_law 594 = .ok (.aload_n 0, 1) := by decide +kernel
set_option maxRecDepth 20000 in
theorem dL_law_595 : decode cL_law 595 = .ok (.iload 4, 2) := by decide +kernel
set_option maxRecDepth 20000 in
theorem dL_law_597 : decode cL_law 597 = .ok (.iconst 1, 1) := by decide +kernel
set_option maxRecDepth 20000 in
theorem dL_law_598 : decode cL_law 598 = .ok (.iadd, 1) := by decide +kernel
set_option maxRecDepth 20000 in
theorem dL_law_599 : decode cL_law 599 = .ok (.iaload, 1) := by decide +kernel
set_option maxRecDepth 20000 in
theorem dL_law_600 : decode cL_law 600 = .ok (.aload_n 0, 1) := by decide +kernel
set_option maxRecDepth 20000 in
theorem dL_law_601 : decode cL_law 601 = .ok (.iload 4, 2) := by decide +kernel
set_option maxRecDepth 20000 in
theorem dL_law_603 : decode cL_law 603 = .ok (.iconst 2, 1) := by decide +kernel
set_option maxRecDepth 20000 in
theorem dL_law_604 : decode cL_law 604 = .ok (.iadd, 1) := by decide +kernel
set_option maxRecDepth 20000 in
theorem dL_law_605 : decode cL_law 605 = .ok (.iaload, 1) := by decide +kernel
set_option maxRecDepth 20000 in
theorem dL_law_606 : decode cL_law 606 = .ok (.invokevirtual 77, 3) := by decide +kernel
set_option maxRecDepth 20000 in
theorem dL_law_609 : decode cL_law 609 = .ok (.aload_n 2, 1) := by decide +kernel
set_option maxRecDepth 20000 in
theorem dL_law_610 : decode cL_law 610 = .ok (.aload_n 0, 1) := by decide +kernel
set_option maxRecDepth 20000 in
theorem dL_law_611 : decode cL_law 611 = .ok (.iload 4, 2) := by decide +kernel
set_option maxRecDepth 20000 in
theorem dL_law_613 : decode cL_law 613 = .ok (.iconst 1, 1) := by decide +kernel
set_option maxRecDepth 20000 in
theorem dL_law_614 : decode cL_law 614 = .ok (.iadd, 1) := by decide +kernel
set_option maxRecDepth 20000 in
theorem dL_law_615 : decode cL_law 615 = .ok (.iaload, 1) := by decide +kernel
set_option maxRecDepth 20000 in
theorem dL_law_616 : decode cL_law 616 = .ok (.aload_n 0, 1) := by decide +kernel
set_option maxRecDepth 20000 in
theorem dL_law_617 : decode cL_law 617 = .ok (.iload 4, 2) := by decide +kernel
set_option maxRecDepth 20000 in
theorem dL_law_619 : decode cL_law 619 = .ok (.iconst 2, 1) := by decide +kernel
set_option maxRecDepth 20000 in
theorem dL_law_620 : decode cL_law 620 = .ok (.iadd, 1) := by decide +kernel
set_option maxRecDepth 20000 in
theorem dL_law_621 : decode cL_law 621 = .ok (.iaload, 1) := by decide +kernel
set_option maxRecDepth 20000 in
theorem dL_law_622 : decode cL_law 622 = .ok (.invokevirtual 80, 3) := by decide +kernel
set_option maxRecDepth 20000 in
theorem dL_law_625 : decode cL_law 625 = .ok (.if_icmp .eq 472, 3) := by decide +kernel
set_option maxRecDepth 20000 in
theorem dL_law_628 : decode cL_law 628 = .ok (.iconst 0, 1) := by decide +kernel
set_option maxRecDepth 20000 in
theorem dL_law_629 : decode cL_law 629 = .ok (.ireturn, 1) := by decide +kernel
set_option maxRecDepth 20000 in
theorem dL_law_630 : decode cL_law 630 = .ok (.aload_n 1, 1) := by decide +kernel
set_option maxRecDepth 20000 in
theorem dL_law_631 : decode cL_law 631 = .ok (.aload_n 0, 1) := by decide +kernel
set_option maxRecDepth 20000 in
theorem dL_law_632 : decode cL_law 632 = .ok (.iload 4, 2) := by decide +kernel
set_option maxRecDepth 20000 in
theorem dL_law_634 : decode cL_law 634 = .ok (.iconst 1, 1) := by decide +kernel
set_option maxRecDepth 20000 in
theorem dL_law_635 : decode cL_law 635 = .ok (.iadd, 1) := by decide +kernel
set_option maxRecDepth 20000 in
theorem dL_law_636 : decode cL_law 636 = .ok (.iaload, 1) := by decide +kernel
set_option maxRecDepth 20000 in
theorem dL_law_637 : decode cL_law 637 = .ok (.invokevirtual 81, 3) := by decide +kernel
set_option maxRecDepth 20000 in
theorem dL_law_640 : decode cL_law 640 = .ok (.aload_n 2, 1) := by decide +kernel
set_option maxRecDepth 20000 in
theorem dL_law_641 : decode cL_law 641 = .ok (.aload_n 0, 1) := by decide +kernel
set_option maxRecDepth 20000 in
theorem dL_law_642 : decode cL_law 642 = .ok (.iload 4, 2) := by decide +kernel
set_option maxRecDepth 20000 in
theorem dL_law_644 : decode cL_law 644 = .ok (.iconst 1, 1) := by decide +kernel
set_option maxRecDepth 20000 in
theorem dL_law_645 : decode cL_law 645 = .ok (.iadd, 1) := by decide +kernel
set_option maxRecDepth 20000 in
theorem dL_law_646 : decode cL_law 646 = .ok (.iaload, 1) := by decide +kernel
set_option maxRecDepth 20000 in
theorem dL_law_647 : decode cL_law 647 = .ok (.invokevirtual 84, 3) := by decide +kernel
set_option maxRecDepth 20000 in
theorem dL_law_650 : decode cL_law 650 = .ok (.if_icmp .eq 447, 3) := by decide +kernel
set_option maxRecDepth 20000 in
theorem dL_law_653 : decode cL_law 653 = .ok (.iconst 0, 1) := by decide +kernel
set_option maxRecDepth 20000 in
theorem dL_law_654 : decode cL_law 654 = .ok (.ireturn, 1) := by decide +kernel
set_option maxRecDepth 20000 in
theorem dL_law_655 : decode cL_law 655 = .ok (.aload_n 1, 1) := by decide +kernel
set_option maxRecDepth 20000 in
theorem dL_law_656 : decode cL_law 656 = .ok (.aload_n 0, 1) := by decide +kernel
set_option maxRecDepth 20000 in
theorem dL_law_657 : decode cL_law 657 = .ok (.iload 4, 2) := by decide +kernel
set_option maxRecDepth 20000 in
theorem dL_law_659 : decode cL_law 659 = .ok (.iconst 1, 1) := by decide +kernel
set_option maxRecDepth 20000 in
theorem dL_law_660 : decode cL_law 660 = .ok (.iadd, 1) := by decide +kernel
set_option maxRecDepth 20000 in
theorem dL_law_661 : decode cL_law 661 = .ok (.iaload, 1) := by decide +kernel
set_option maxRecDepth 20000 in
theorem dL_law_662 : decode cL_law 662 = .ok (.invokevirtual 85, 3) := by decide +kernel
set_option maxRecDepth 20000 in
theorem dL_law_665 : decode cL_law 665 = .ok (.aload_n 2, 1) := by decide +kernel
set_option maxRecDepth 20000 in
theorem dL_law_666 : decode cL_law 666 = .ok (.aload_n 0, 1) := by decide +kernel
set_option maxRecDepth 20000 in
theorem dL_law_667 : decode cL_law 667 = .ok (.iload 4, 2) := by decide +kernel
set_option maxRecDepth 20000 in
theorem dL_law_669 : decode cL_law 669 = .ok (.iconst 1, 1) := by decide +kernel
set_option maxRecDepth 20000 in
theorem dL_law_670 : decode cL_law 670 = .ok (.iadd, 1) := by decide +kernel
set_option maxRecDepth 20000 in
theorem dL_law_671 : decode cL_law 671 = .ok (.iaload, 1) := by decide +kernel
set_option maxRecDepth 20000 in
theorem dL_law_672 : decode cL_law 672 = .ok (.invokevirtual 88, 3) := by decide +kernel
set_option maxRecDepth 20000 in
theorem dL_law_675 : decode cL_law 675 = .ok (.if_icmp .eq 422, 3) := by decide +kernel
set_option maxRecDepth 20000 in
theorem dL_law_678 : decode cL_law 678 = .ok (.iconst 0, 1) := by decide +kernel
set_option maxRecDepth 20000 in
theorem dL_law_679 : decode cL_law 679 = .ok (.ireturn, 1) := by decide +kernel
set_option maxRecDepth 20000 in
theorem dL_law_680 : decode cL_law 680 = .ok (.aload_n 1, 1) := by decide +kernel
set_option maxRecDepth 20000 in
theorem dL_law_681 : decode cL_law 681 = .ok (.aload_n 0, 1) := by decide +kernel
set_option maxRecDepth 20000 in
theorem dL_law_682 : decode cL_law 682 = .ok (.iload 4, 2) := by decide +kernel
set_option maxRecDepth 20000 in
theorem dL_law_684 : decode cL_law 684 = .ok (.iconst 1, 1) := by decide +kernel
set_option maxRecDepth 20000 in
theorem dL_law_685 : decode cL_law 685 = .ok (.iadd, 1) := by decide +kernel
set_option maxRecDepth 20000 in
theorem dL_law_686 : decode cL_law 686 = .ok (.iaload, 1) := by decide +kernel
set_option maxRecDepth 20000 in
theorem dL_law_687 : decode cL_law 687 = .ok (.aload_n 0, 1) := by decide +kernel
set_option maxRecDepth 20000 in
theorem dL_law_688 : decode cL_law 688 = .ok (.iload 4, 2) := by decide +kernel
set_option maxRecDepth 20000 in
theorem dL_law_690 : decode cL_law 690 = .ok (.iconst 2, 1) := by decide +kernel
set_option maxRecDepth 20000 in
theorem dL_law_691 : decode cL_law 691 = .ok (.iadd, 1) := by decide +kernel
set_option maxRecDepth 20000 in
theorem dL_law_692 : decode cL_law 692 = .ok (.iaload, 1) := by decide +kernel
set_option maxRecDepth 20000 in
theorem dL_law_693 : decode cL_law 693 = .ok (.i2l, 1) := by decide +kernel
set_option maxRecDepth 20000 in
theorem dL_law_694 : decode cL_law 694 = .ok (.bipush 32, 2) := by decide +kernel
set_option maxRecDepth 20000 in
theorem dL_law_696 : decode cL_law 696 = .ok (.lshl, 1) := by decide +kernel
set_option maxRecDepth 20000 in
theorem dL_law_697 : decode cL_law 697 = .ok (.aload_n 0, 1) := by decide +kernel
set_option maxRecDepth 20000 in
theorem dL_law_698 : decode cL_law 698 = .ok (.iload 4, 2) := by decide +kernel
set_option maxRecDepth 20000 in
theorem dL_law_700 : decode cL_law 700 = .ok (.iconst 3, 1) := by decide +kernel
set_option maxRecDepth 20000 in
theorem dL_law_701 : decode cL_law 701 = .ok (.iadd, 1) := by decide +kernel
set_option maxRecDepth 20000 in
theorem dL_law_702 : decode cL_law 702 = .ok (.iaload, 1) := by decide +kernel
set_option maxRecDepth 20000 in
theorem dL_law_703 : decode cL_law 703 = .ok (.i2l, 1) := by decide +kernel
set_option maxRecDepth 20000 in
theorem dL_law_704 : decode cL_law 704 = .ok (.ldc2_w 89, 3) := by decide +kernel
set_option maxRecDepth 20000 in
theorem dL_law_707 : decode cL_law 707 = .ok (.land, 1) := by decide +kernel
set_option maxRecDepth 20000 in
theorem dL_law_708 : decode cL_law 708 = .ok (.lor, 1) := by decide +kernel
set_option maxRecDepth 20000 in
theorem dL_law_709 : decode cL_law 709 = .ok (.invokevirtual 91, 3) := by decide +kernel
set_option maxRecDepth 20000 in
theorem dL_law_712 : decode cL_law 712 = .ok (.aload_n 2, 1) := by decide +kernel
set_option maxRecDepth 20000 in
theorem dL_law_713 : decode cL_law 713 = .ok (.aload_n 0, 1) := by decide +kernel
set_option maxRecDepth 20000 in
theorem dL_law_714 : decode cL_law 714 = .ok (.iload 4, 2) := by decide +kernel
set_option maxRecDepth 20000 in
theorem dL_law_716 : decode cL_law 716 = .ok (.iconst 1, 1) := by decide +kernel
set_option maxRecDepth 20000 in
theorem dL_law_717 : decode cL_law 717 = .ok (.iadd, 1) := by decide +kernel
set_option maxRecDepth 20000 in
theorem dL_law_718 : decode cL_law 718 = .ok (.iaload, 1) := by decide +kernel
set_option maxRecDepth 20000 in
theorem dL_law_719 : decode cL_law 719 = .ok (.aload_n 0, 1) := by decide +kernel
set_option maxRecDepth 20000 in
theorem dL_law_720 : decode cL_law 720 = .ok (.iload 4, 2) := by decide +kernel
set_option maxRecDepth 20000 in
theorem dL_law_722 : decode cL_law 722 = .ok (.iconst 2, 1) := by decide +kernel
set_option maxRecDepth 20000 in
theorem dL_law_723 : decode cL_law 723 = .ok (.iadd, 1) := by decide +kernel
set_option maxRecDepth 20000 in
theorem dL_law_724 : decode cL_law 724 = .ok (.iaload, 1) := by decide +kernel
set_option maxRecDepth 20000 in
theorem dL_law_725 : decode cL_law 725 = .ok (.i2l, 1) := by decide +kernel
set_option maxRecDepth 20000 in
theorem dL_law_726 : decode cL_law 726 = .ok (.bipush 32, 2) := by decide +kernel
set_option maxRecDepth 20000 in
theorem dL_law_728 : decode cL_law 728 = .ok (.lshl, 1) := by decide +kernel
set_option maxRecDepth 20000 in
theorem dL_law_729 : decode cL_law 729 = .ok (.aload_n 0, 1) := by decide +kernel
set_option maxRecDepth 20000 in
theorem dL_law_730 : decode cL_law 730 = .ok (.iload 4, 2) := by decide +kernel
set_option maxRecDepth 20000 in
theorem dL_law_732 : decode cL_law 732 = .ok (.iconst 3, 1) := by decide +kernel
set_option maxRecDepth 20000 in
theorem dL_law_733 : decode cL_law 733 = .ok (.iadd, 1) := by decide +kernel
set_option maxRecDepth 20000 in
theorem dL_law_734 : decode cL_law 734 = .ok (.iaload, 1) := by decide +kernel
set_option maxRecDepth 20000 in
theorem dL_law_735 : decode cL_law 735 = .ok (.i2l, 1) := by decide +kernel
set_option maxRecDepth 20000 in
theorem dL_law_736 : decode cL_law 736 = .ok (.ldc2_w 89, 3) := by decide +kernel
set_option maxRecDepth 20000 in
theorem dL_law_739 : decode cL_law 739 = .ok (.land, 1) := by decide +kernel
set_option maxRecDepth 20000 in
theorem dL_law_740 : decode cL_law 740 = .ok (.lor, 1) := by decide +kernel
set_option maxRecDepth 20000 in
theorem dL_law_741 : decode cL_law 741 = .ok (.invokevirtual 95, 3) := by decide +kernel
set_option maxRecDepth 20000 in
theorem dL_law_744 : decode cL_law 744 = .ok (.if_icmp .eq 353, 3) := by decide +kernel
set_option maxRecDepth 20000 in
theorem dL_law_747 : decode cL_law 747 = .ok (.iconst 0, 1) := by decide +kernel
set_option maxRecDepth 20000 in
theorem dL_law_748 : decode cL_law 748 = .ok (.ireturn, 1) := by decide +kernel
set_option maxRecDepth 20000 in
theorem dL_law_749 : decode cL_law 749 = .ok (.aload_n 1, 1) := by decide +kernel
set_option maxRecDepth 20000 in
theorem dL_law_750 : decode cL_law 750 = .ok (.aload_n 0, 1) := by decide +kernel
set_option maxRecDepth 20000 in
theorem dL_law_751 : decode cL_law 751 = .ok (.iload 4, 2) := by decide +kernel
set_option maxRecDepth 20000 in
theorem dL_law_753 : decode cL_law 753 = .ok (.iconst 1, 1) := by decide +kernel
set_option maxRecDepth 20000 in
theorem dL_law_754 : decode cL_law 754 = .ok (.iadd, 1) := by decide +kernel
set_option maxRecDepth 20000 in
theorem dL_law_755 : decode cL_law 755 = .ok (.iaload, 1) := by decide +kernel
set_option maxRecDepth 20000 in
theorem dL_law_756 : decode cL_law 756 = .ok (.aload_n 0, 1) := by decide +kernel
set_option maxRecDepth 20000 in
theorem dL_law_757 : decode cL_law 757 = .ok (.iload 4, 2) := by decide +kernel
set_option maxRecDepth 20000 in
theorem dL_law_759 : decode cL_law 759 = .ok (.iconst 2, 1) := by decide +kernel
set_option maxRecDepth 20000 in
theorem dL_law_760 : decode cL_law 760 = .ok (.iadd, 1) := by decide +kernel
set_option maxRecDepth 20000 in
theorem dL_law_761 : decode cL_law 761 = .ok (.iaload, 1) := by decide +kernel
set_option maxRecDepth 20000 in
theorem dL_law_762 : decode cL_law 762 = .ok (.i2l, 1) := by decide +kernel
set_option maxRecDepth 20000 in
theorem dL_law_763 : decode cL_law 763 = .ok (.bipush 32, 2) := by decide +kernel
set_option maxRecDepth 20000 in
theorem dL_law_765 : decode cL_law 765 = .ok (.lshl, 1) := by decide +kernel
set_option maxRecDepth 20000 in
theorem dL_law_766 : decode cL_law 766 = .ok (.aload_n 0, 1) := by decide +kernel
set_option maxRecDepth 20000 in
theorem dL_law_767 : decode cL_law 767 = .ok (.iload 4, 2) := by decide +kernel
set_option maxRecDepth 20000 in
theorem dL_law_769 : decode cL_law 769 = .ok (.iconst 3, 1) := by decide +kernel
set_option maxRecDepth 20000 in
theorem dL_law_770 : decode cL_law 770 = .ok (.iadd, 1) := by decide +kernel
set_option maxRecDepth 20000 in
theorem dL_law_771 : decode cL_law 771 = .ok (.iaload, 1) := by decide +kernel
set_option maxRecDepth 20000 in
theorem dL_law_772 : decode cL_law 772 = .ok (.i2l, 1) := by decide +kernel
set_option maxRecDepth 20000 in
theorem dL_law_773 : decode cL_law 773 = .ok (.ldc2_w 89, 3) := by decide +kernel
set_option maxRecDepth 20000 in
theorem dL_law_776 : decode cL_law 776 = .ok (.land, 1) := by decide +kernel
set_option maxRecDepth 20000 in
theorem dL_law_777 : decode cL_law 777 = .ok (.lor, 1) := by decide +kernel
set_option maxRecDepth 20000 in
theorem dL_law_778 : decode cL_law 778 = .ok (.aload_n 0, 1) := by decide +kernel
set_option maxRecDepth 20000 in
theorem dL_law_779 : decode cL_law 779 = .ok (.iload 4, 2) := by decide +kernel
set_option maxRecDepth 20000 in
theorem dL_law_781 : decode cL_law 781 = .ok (.iconst 4, 1) := by decide +kernel
set_option maxRecDepth 20000 in
theorem dL_law_782 : decode cL_law 782 = .ok (.iadd, 1) := by decide +kernel
set_option maxRecDepth 20000 in
theorem dL_law_783 : decode cL_law 783 = .ok (.iaload, 1) := by decide +kernel
set_option maxRecDepth 20000 in
theorem dL_law_784 : decode cL_law 784 = .ok (.invokevirtual 96, 3) := by decide +kernel
set_option maxRecDepth 20000 in
theorem dL_law_787 : decode cL_law 787 = .ok (.aload_n 2, 1) := by decide +kernel
set_option maxRecDepth 20000 in
theorem dL_law_788 : decode cL_law 788 = .ok (.aload_n 0, 1) := by decide +kernel
set_option maxRecDepth 20000 in
theorem dL_law_789 : decode cL_law 789 = .ok (.iload 4, 2) := by decide +kernel
set_option maxRecDepth 20000 in
theorem dL_law_791 : decode cL_law 791 = .ok (.iconst 1, 1) := by decide +kernel
set_option maxRecDepth 20000 in
theorem dL_law_792 : decode cL_law 792 = .ok (.iadd, 1) := by decide +kernel
set_option maxRecDepth 20000 in
theorem dL_law_793 : decode cL_law 793 = .ok (.iaload, 1) := by decide +kernel
set_option maxRecDepth 20000 in
theorem dL_law_794 : decode cL_law 794 = .ok (.aload_n 0, 1) := by decide +kernel
set_option maxRecDepth 20000 in
theorem dL_law_795 : decode cL_law 795 = .ok (.iload 4, 2) := by decide +kernel
set_option maxRecDepth 20000 in
theorem dL_law_797 : decode cL_law 797 = .ok (.iconst 2, 1) := by decide +kernel
set_option maxRecDepth 20000 in
theorem dL_law_798 : decode cL_law 798 = .ok (.iadd, 1) := by decide +kernel
set_option maxRecDepth 20000 in
theorem dL_law_799 : decode cL_law 799 = .ok (.iaload, 1) := by decide +kernel
set_option maxRecDepth 20000 in
theorem dL_law_800 : decode cL_law 800 = .ok (.i2l, 1) := by decide +kernel
set_option maxRecDepth 20000 in
theorem dL_law_801 : decode cL_law 801 = .ok (.bipush 32, 2) := by decide +kernel
set_option maxRecDepth 20000 in
theorem dL_law_803 : decode cL_law 803 = .ok (.lshl, 1) := by decide +kernel
set_option maxRecDepth 20000 in
theorem dL_law_804 : decode cL_law 804 = .ok (.aload_n 0, 1) := by decide +kernel
set_option maxRecDepth 20000 in
theorem dL_law_805 : decode cL_law 805 = .ok (.iload 4, 2) := by decide +kernel
set_option maxRecDepth 20000 in
theorem dL_law_807 : decode cL_law 807 = .ok (.iconst 3, 1) := by decide +kernel
set_option maxRecDepth 20000 in
theorem dL_law_808 : decode cL_law 808 = .ok (.iadd, 1) := by decide +kernel
set_option maxRecDepth 20000 in
theorem dL_law_809 : decode cL_law 809 = .ok (.iaload, 1) := by decide +kernel
set_option maxRecDepth 20000 in
theorem dL_law_810 : decode cL_law 810 = .ok (.i2l, 1) := by decide +kernel
set_option maxRecDepth 20000 in
theorem dL_law_811 : decode cL_law 811 = .ok (.ldc2_w 89, 3) := by decide +kernel
set_option maxRecDepth 20000 in
theorem dL_law_814 : decode cL_law 814 = .ok (.land, 1) := by decide +kernel
set_option maxRecDepth 20000 in
theorem dL_law_815 : decode cL_law 815 = .ok (.lor, 1) := by decide +kernel
set_option maxRecDepth 20000 in
theorem dL_law_816 : decode cL_law 816 = .ok (.aload_n 0, 1) := by decide +kernel
set_option maxRecDepth 20000 in
theorem dL_law_817 : decode cL_law 817 = .ok (.iload 4, 2) := by decide +kernel
set_option maxRecDepth 20000 in
theorem dL_law_819 : decode cL_law 819 = .ok (.iconst 4, 1) := by decide +kernel
set_option maxRecDepth 20000 in
theorem dL_law_820 : decode cL_law 820 = .ok (.iadd, 1) := by decide +kernel
set_option maxRecDepth 20000 in
theorem dL_law_821 : decode cL_law 821 = .ok (.iaload, 1) := by decide +kernel
set_option maxRecDepth 20000 in
theorem dL_law_822 : decode cL_law 822 = .ok (.invokevirtual 100, 3) := by decide +kernel
set_option maxRecDepth 20000 in
theorem dL_law_825 : decode cL_law 825 = .ok (.if_icmp .eq 272, 3) := by decide +kernel
set_option maxRecDepth 20000 in
theorem dL_law_828 : decode cL_law 828 = .ok (.iconst 0, 1) := by decide +kernel
set_option maxRecDepth 20000 in
theorem dL_law_829 : decode cL_law 829 = .ok (.ireturn, 1) := by decide +kernel
set_option maxRecDepth 20000 in
theorem dL_law_830 : decode cL_law 830 = .ok (.aload_n 1, 1) := by decide +kernel
set_option maxRecDepth 20000 in
theorem dL_law_831 : decode cL_law 831 = .ok (.aload_n 0, 1) := by decide +kernel
set_option maxRecDepth 20000 in
theorem dL_law_832 : decode cL_law 832 = .ok (.iload 4, 2) := by decide +kernel
set_option maxRecDepth 20000 in
theorem dL_law_834 : decode cL_law 834 = .ok (.iconst 1, 1) := by decide +kernel
set_option maxRecDepth 20000 in
theorem dL_law_835 : decode cL_law 835 = .ok (.iadd, 1) := by decide +kernel
set_option maxRecDepth 20000 in
theorem dL_law_836 : decode cL_law 836 = .ok (.iaload, 1) := by decide +kernel
set_option maxRecDepth 20000 in
theorem dL_law_837 : decode cL_law 837 = .ok (.invokevirtual 101, 3) := by decide +kernel
set_option maxRecDepth 20000 in
theorem dL_law_840 : decode cL_law 840 = .ok (.aload_n 2, 1) := by decide +kernel
set_option maxRecDepth 20000 in
theorem dL_law_841 : decode cL_law 841 = .ok (.aload_n 0, 1) := by decide +kernel
set_option maxRecDepth 20000 in
theorem dL_law_842 : decode cL_law 842 = .ok (.iload 4, 2) := by decide +kernel
set_option maxRecDepth 20000 in
theorem dL_law_844 : decode cL_law 844 = .ok (.iconst 1, 1) := by decide +kernel
set_option maxRecDepth 20000 in
theorem dL_law_845 : decode cL_law 845 = .ok (.iadd, 1) := by decide +kernel
set_option maxRecDepth 20000 in
theorem dL_law_846 : decode cL_law 846 = .ok (.iaload, 1) := by decide +kernel
set_option maxRecDepth 20000 in
theorem dL_law_847 : decode cL_law 847 = .ok (.invokevirtual 104, 3) := by decide +kernel
set_option maxRecDepth 20000 in
theorem dL_law_850 : decode cL_law 850 = .ok (.if_icmp .eq 247, 3) := by decide +kernel
set_option maxRecDepth 20000 in
theorem dL_law_853 : decode cL_law 853 = .ok (.iconst 0, 1) := by decide +kernel
set_option maxRecDepth 20000 in
theorem dL_law_854 : decode cL_law 854 = .ok (.ireturn, 1) := by decide +kernel
set_option maxRecDepth 20000 in
theorem dL_law_855 : decode cL_law 855 = .ok (.aload_n 1, 1) := by decide +kernel
set_option maxRecDepth 20000 in
theorem dL_law_856 : decode cL_law 856 = .ok (.aload_n 0, 1) := by decide +kernel
set_option maxRecDepth 20000 in
theorem dL_law_857 : decode cL_law 857 = .ok (.iload 4, 2) := by decide +kernel
set_option maxRecDepth 20000 in
theorem dL_law_859 : decode cL_law 859 = .ok (.iconst 1, 1) := by decide +kernel
set_option maxRecDepth 20000 in
theorem dL_law_860 : decode cL_law 860 = .ok (.iadd, 1) := by decide +kernel
set_option maxRecDepth 20000 in
theorem dL_law_861 : decode cL_law 861 = .ok (.iaload, 1) := by decide +kernel
set_option maxRecDepth 20000 in
theorem dL_law_862 : decode cL_law 862 = .ok (.aload_n 0, 1) := by decide +kernel
set_option maxRecDepth 20000 in
theorem dL_law_863 : decode cL_law 863 = .ok (.iload 4, 2) := by decide +kernel
set_option maxRecDepth 20000 in
theorem dL_law_865 : decode cL_law 865 = .ok (.iconst 2, 1) := by decide +kernel
set_option maxRecDepth 20000 in
theorem dL_law_866 : decode cL_law 866 = .ok (.iadd, 1) := by decide +kernel
set_option maxRecDepth 20000 in
theorem dL_law_867 : decode cL_law 867 = .ok (.iaload, 1) := by decide +kernel
set_option maxRecDepth 20000 in
theorem dL_law_868 : decode cL_law 868 = .ok (.aload_n 0, 1) := by decide +kernel
set_option maxRecDepth 20000 in
theorem dL_law_869 : decode cL_law 869 = .ok (.iload 4, 2) := by decide +kernel
set_option maxRecDepth 20000 in
theorem dL_law_871 : decode cL_law 871 = .ok (.iconst 3, 1) := by decide +kernel
set_option maxRecDepth 20000 in
theorem dL_law_872 : decode cL_law 872 = .ok (.iadd, 1) := by decide +kernel
set_option maxRecDepth 20000 in
theorem dL_law_873 : decode cL_law 873 = .ok (.iaload, 1) := by decide +kernel
set_option maxRecDepth 20000 in
theorem dL_law_874 : decode cL_law 874 = .ok (.invokevirtual 105, 3) := by decide +kernel
set_option maxRecDepth 20000 in
theorem dL_law_877 : decode cL_law 877 = .ok (.aload_n 2, 1) := by decide +kernel
set_option maxRecDepth 20000 in
theorem dL_law_878 : decode cL_law 878 = .ok (.aload_n 0, 1) := by decide +kernel
set_option maxRecDepth 20000 in
theorem dL_law_879 : decode cL_law 879 = .ok (.iload 4, 2) := by decide +kernel
set_option maxRecDepth 20000 in
theorem dL_law_881 : decode cL_law 881 = .ok (.iconst 1, 1) := by decide +kernel
set_option maxRecDepth 20000 in
theorem dL_law_882 : decode cL_law 882 = .ok (.iadd, 1) := by decide +kernel
set_option maxRecDepth 20000 in
theorem dL_law_883 : decode cL_law 883 = .ok (.iaload, 1) := by decide +kernel
set_option maxRecDepth 20000 in
theorem dL_law_884 : decode cL_law 884 = .ok (.aload_n 0, 1) := by decide +kernel
set_option maxRecDepth 20000 in
theorem dL_law_885 : decode cL_law 885 = .ok (.iload 4, 2) := by decide +kernel
set_option maxRecDepth 20000 in
theorem dL_law_887 : decode cL_law 887 = .ok (.iconst 2, 1) := by decide +kernel
set_option maxRecDepth 20000 in
theorem dL_law_888 : decode cL_law 888 = .ok (.iadd, 1) := by decide +kernel
set_option maxRecDepth 20000 in
theorem dL_law_889 : decode cL_law 889 = .ok (.iaload, 1) := by decide +kernel
set_option maxRecDepth 20000 in
theorem dL_law_890 : decode cL_law 890 = .ok (.aload_n 0, 1) := by decide +kernel
set_option maxRecDepth 20000 in
theorem dL_law_891 : decode cL_law 891 = .ok (.iload 4, 2) := by decide +kernel
set_option maxRecDepth 20000 in
theorem dL_law_893 : decode cL_law 893 = .ok (.iconst 3, 1) := by decide +kernel
set_option maxRecDepth 20000 in
theorem dL_law_894 : decode cL_law 894 = .ok (.iadd, 1) := by decide +kernel
set_option maxRecDepth 20000 in
theorem dL_law_895 : decode cL_law 895 = .ok (.iaload, 1) := by decide +kernel
set_option maxRecDepth 20000 in
theorem dL_law_896 : decode cL_law 896 = .ok (.invokevirtual 109, 3) := by decide +kernel
set_option maxRecDepth 20000 in
theorem dL_law_899 : decode cL_law 899 = .ok (.if_icmp .eq 198, 3) := by decide +kernel
set_option maxRecDepth 20000 in
theorem dL_law_902 : decode cL_law 902 = .ok (.iconst 0, 1) := by decide +kernel
set_option maxRecDepth 20000 in
theorem dL_law_903 : decode cL_law 903 = .ok (.ireturn, 1) := by decide +kernel
set_option maxRecDepth 20000 in
theorem dL_law_904 : decode cL_law 904 = .ok (.aload_n 1, 1) := by decide +kernel
set_option maxRecDepth 20000 in
theorem dL_law_905 : decode cL_law 905 = .ok (.aload_n 0, 1) := by decide +kernel
set_option maxRecDepth 20000 in
theorem dL_law_906 : decode cL_law 906 = .ok (.iload 4, 2) := by decide +kernel
set_option maxRecDepth 20000 in
theorem dL_law_908 : decode cL_law 908 = .ok (.iconst 1, 1) := by decide +kernel
set_option maxRecDepth 20000 in
theorem dL_law_909 : decode cL_law 909 = .ok (.iadd, 1) := by decide +kernel
set_option maxRecDepth 20000 in
theorem dL_law_910 : decode cL_law 910 = .ok (.iaload, 1) := by decide +kernel
set_option maxRecDepth 20000 in
theorem dL_law_911 : decode cL_law 911 = .ok (.aload_n 0, 1) := by decide +kernel
set_option maxRecDepth 20000 in
theorem dL_law_912 : decode cL_law 912 = .ok (.iload 4, 2) := by decide +kernel
set_option maxRecDepth 20000 in
theorem dL_law_914 : decode cL_law 914 = .ok (.iconst 2, 1) := by decide +kernel
set_option maxRecDepth 20000 in
theorem dL_law_915 : decode cL_law 915 = .ok (.iadd, 1) := by decide +kernel
set_option maxRecDepth 20000 in
theorem dL_law_916 : decode cL_law 916 = .ok (.iaload, 1) := by decide +kernel
set_option maxRecDepth 20000 in
theorem dL_law_917 : decode cL_law 917 = .ok (.invokevirtual 110, 3) := by decide +kernel
set_option maxRecDepth 20000 in
theorem dL_law_920 : decode cL_law 920 = .ok (.aload_n 2, 1) := by decide +kernel
set_option maxRecDepth 20000 in
theorem dL_law_921 : decode cL_law 921 = .ok (.aload_n 0, 1) := by decide +kernel
set_option maxRecDepth 20000 in
theorem dL_law_922 : decode cL_law 922 = .ok (.iload 4, 2) := by decide +kernel
set_option maxRecDepth 20000 in
theorem dL_law_924 : decode cL_law 924 = .ok (.iconst 1, 1) := by decide +kernel
set_option maxRecDepth 20000 in
theorem dL_law_925 : decode cL_law 925 = .ok (.iadd, 1) := by decide +kernel
set_option maxRecDepth 20000 in
theorem dL_law_926 : decode cL_law 926 = .ok (.iaload, 1) := by decide +kernel
set_option maxRecDepth 20000 in
theorem dL_law_927 : decode cL_law 927 = .ok (.aload_n 0, 1) := by decide +kernel
set_option maxRecDepth 20000 in
theorem dL_law_928 : decode cL_law 928 = .ok (.iload 4, 2) := by decide +kernel
set_option maxRecDepth 20000 in
theorem dL_law_930 : decode cL_law 930 = .ok (.iconst 2, 1) := by decide +kernel
set_option maxRecDepth 20000 in
theorem dL_law_931 : decode cL_law 931 = .ok (.iadd, 1) := by decide +kernel
set_option maxRecDepth 20000 in
theorem dL_law_932 : decode cL_law 932 = .ok (.iaload, 1) := by decide +kernel
set_option maxRecDepth 20000 in
theorem dL_law_933 : decode cL_law 933 = .ok (.invokevirtual 114, 3) := by decide +kernel
set_option maxRecDepth 20000 in
theorem dL_law_936 : decode cL_law 936 = .ok (.if_icmp .eq 161, 3) := by decide +kernel
set_option maxRecDepth 20000 in
theorem dL_law_939 : decode cL_law 939 = .ok (.iconst 0, 1) := by decide +kernel
set_option maxRecDepth 20000 in
theorem dL_law_940 : decode cL_law 940 = .ok (.ireturn, 1) := by decide +kernel
set_option maxRecDepth 20000 in
theorem dL_law_941 : decode cL_law 941 = .ok (.aload_n 1, 1) := by decide +kernel
set_option maxRecDepth 20000 in
theorem dL_law_942 : decode cL_law 942 = .ok (.invokevirtual 115, 3) := by decide +kernel
set_option maxRecDepth 20000 in
theorem dL_law_945 : decode cL_law 945 = .ok (.aload_n 2, 1) := by decide +kernel
set_option maxRecDepth 20000 in
theorem dL_law_946 : decode cL_law 946 = .ok (.invokevirtual 118, 3) := by decide +kernel
set_option maxRecDepth 20000 in
theorem dL_law_949 : decode cL_law 949 = .ok (.goto 148, 3) := by decide +kernel
set_option maxRecDepth 20000 in
theorem dL_law_952 : decode cL_law 952 = .ok (.aload_n 1, 1) := by decide +kernel
set_option maxRecDepth 20000 in
theorem dL_law_953 : decode cL_law 953 = .ok (.invokevirtual 119, 3) := by decide +kernel
set_option maxRecDepth 20000 in
theorem dL_law_956 : decode cL_law 956 = .ok (.aload_n 2, 1) := by decide +kernel
set_option maxRecDepth 20000 in
theorem dL_law_957 : decode cL_law 957 = .ok (.invokevirtual 122, 3) := by decide +kernel
set_option maxRecDepth 20000 in
theorem dL_law_960 : decode cL_law 960 = .ok (.if_icmp .eq 137, 3) := by decide +kernel
set_option maxRecDepth 20000 in
theorem dL_law_963 : decode cL_law 963 = .ok (.iconst 0, 1) := by decide +kernel
set_option maxRecDepth 20000 in
theorem dL_law_964 : decode cL_law 964 = .ok (.ireturn, 1) := by decide +kernel
set_option maxRecDepth 20000 in
theorem dL_law_965 : decode cL_law 965 = .ok (.aload_n 1, 1) := by decide +kernel
set_option maxRecDepth 20000 in
theorem dL_law_966 : decode cL_law 966 = .ok (.aload_n 0, 1) := by decide +kernel
set_option maxRecDepth 20000 in
theorem dL_law_967 : decode cL_law 967 = .ok (.iload 4, 2) := by decide +kernel
set_option maxRecDepth 20000 in
theorem dL_law_969 : decode cL_law 969 = .ok (.iconst 1, 1) := by decide +kernel
set_option maxRecDepth 20000 in
theorem dL_law_970 : decode cL_law 970 = .ok (.iadd, 1) := by decide +kernel
set_option maxRecDepth 20000 in
theorem dL_law_971 : decode cL_law 971 = .ok (.iaload, 1) := by decide +kernel
set_option maxRecDepth 20000 in
theorem dL_law_972 : decode cL_law 972 = .ok (.invokevirtual 123, 3) := by decide +kernel
set_option maxRecDepth 20000 in
theorem dL_law_975 : decode cL_law 975 = .ok (.aload_n 2, 1) := by decide +kernel
set_option maxRecDepth 20000 in
theorem dL_law_976 : decode cL_law 976 = .ok (.aload_n 0, 1) := by decide +kernel
set_option maxRecDepth 20000 in
theorem dL_law_977 : decode cL_law 977 = .ok (.iload 4, 2) := by decide +kernel
set_option maxRecDepth 20000 in
theorem dL_law_979 : decode cL_law 979 = .ok (.iconst 1, 1) := by decide +kernel
set_option maxRecDepth 20000 in
theorem dL_law_980 : decode cL_law 980 = .ok (.iadd, 1) := by decide +kernel
set_option maxRecDepth 20000 in
theorem dL_law_981 : decode cL_law 981 = .ok (.iaload, 1) := by decide +kernel
set_option maxRecDepth 20000 in
theorem dL_law_982 : decode cL_law 982 = .ok (.invokevirtual 127, 3) := by decide +kernel
set_option maxRecDepth 20000 in
theorem dL_law_985 : decode cL_law 985 = .ok (.lcmp, 1) := by decide +kernel
set_option maxRecDepth 20000 in
theorem dL_law_986 : decode cL_law 986 = .ok (.ifCond .eq 111, 3) := by decide +kernel
set_option maxRecDepth 20000 in
theorem dL_law_989 : decode cL_law 989 = .ok (.iconst 0, 1) := by decide +kernel
set_option maxRecDepth 20000 in
theorem dL_law_990 : decode cL_law 990 = .ok (.ireturn, 1) := by decide +kernel
set_option maxRecDepth 20000 in
theorem dL_law_991 : decode cL_law 991 = .ok (.aload_n 1, 1) := by decide +kernel
set_option maxRecDepth 20000 in
theorem dL_law_992 : decode cL_law 992 = .ok (.aload_n 0, 1) := by decide +kernel
set_option maxRecDepth 20000 in
theorem dL_law_993 : decode cL_law 993 = .ok (.iload 4, 2) := by decide +kernel
set_option maxRecDepth 20000 in
theorem dL_law_995 : decode cL_law 995 = .ok (.iconst 1, 1) := by decide +kernel
set_option maxRecDepth 20000 in
theorem dL_law_996 : decode cL_law 996 = .ok (.iadd, 1) := by decide +kernel
set_option maxRecDepth 20000 in
theorem dL_law_997 : decode cL_law 997 = .ok (.iaload, 1) := by decide +kernel
set_option maxRecDepth 20000 in
theorem dL_law_998 : decode cL_law 998 = .ok (.aload_n 0, 1) := by decide +kernel
set_option maxRecDepth 20000 in
theorem dL_law_999 : decode cL_law 999 = .ok (.iload 4, 2) := by decide +kernel
set_option maxRecDepth 20000 in
theorem dL_law_1001 : decode cL_law 1001 = .ok (.iconst 2, 1) := by decide +kernel
set_option maxRecDepth 20000 in
theorem dL_law_1002 : decode cL_law 1002 = .ok (.iadd, 1) := by decide +kernel
set_option maxRecDepth 20000 in
theorem dL_law_1003 : decode cL_law 1003 = .ok (.iaload, 1) := by decide +kernel
set_option maxRecDepth 20000 in
theorem dL_law_1004 : decode cL_law 1004 = .ok (.aload_n 3, 1) := by decide +kernel
set_option maxRecDepth 20000 in
theorem dL_law_1005 : decode cL_law 1005 = .ok (.invokestatic 128, 3) := by decide +kernel
set_option maxRecDepth 20000 in
theorem dL_law_1008 : decode cL_law 1008 = .ok (.istore 5, 2) := by decide +kernel
set_option maxRecDepth 20000 in
theorem dL_law_1010 : decode cL_law 1010 = .ok (.aload_n 2, 1) := by decide +kernel
set_option maxRecDepth 20000 in
theorem dL_law_1011 : decode cL_law 1011 = .ok (.aload_n 0, 1) := by decide +kernel
set_option maxRecDepth 20000 in
theorem dL_law_1012 : decode cL_law 1012 = .ok (.iload 4, 2) := by decide +kernel
set_option maxRecDepth 20000 in
theorem dL_law_1014 : decode cL_law 1014 = .ok (.iconst 1, 1) := by decide +kernel
set_option maxRecDepth 20000 in
theorem dL_law_1015 : decode cL_law 1015 = .ok (.iadd, 1) := by decide +kernel
set_option maxRecDepth 20000 in
theorem dL_law_1016 : decode cL_law 1016 = .ok (.iaload, 1) := by decide +kernel
set_option maxRecDepth 20000 in
theorem dL_law_1017 : decode cL_law 1017 = .ok (.aload_n 0, 1) := by decide +kernel
set_option maxRecDepth 20000 in
theorem dL_law_1018 : decode cL_law 1018 = .ok (.iload 4, 2) := by decide +kernel
set_option maxRecDepth 20000 in
theorem dL_law_1020 : decode cL_law 1020 = .ok (.iconst 2, 1) := by decide +kernel
set_option maxRecDepth 20000 in
theorem dL_law_1021 : decode cL_law 1021 = .ok (.iadd, 1) := by decide +kernel
set_option maxRecDepth 20000 in
theorem dL_law_1022 : decode cL_law 1022 = .ok (.iaload, 1) := by decide +kernel
set_option maxRecDepth 20000 in
theorem dL_law_1023 : decode cL_law 1023 = .ok (.invokevirtual 133, 3) := by decide +kernel
set_option maxRecDepth 20000 in
theorem dL_law_1026 : decode cL_law 1026 = .ok (.istore 6, 2) := by decide +kernel
set_option maxRecDepth 20000 in
theorem dL_law_1028 : decode cL_law 1028 = .ok (.aload_n 2, 1) := by decide +kernel
set_option maxRecDepth 20000 in
theorem dL_law_1029 : decode cL_law 1029 = .ok (.invokevirtual 134, 3) := by decide +kernel
set_option maxRecDepth 20000 in
theorem dL_law_1032 : decode cL_law 1032 = .ok (.iload 5, 2) := by decide +kernel
set_option maxRecDepth 20000 in
theorem dL_law_1034 : decode cL_law 1034 = .ok (.if_icmp .eq 5, 3) := by decide +kernel
set_option maxRecDepth 20000 in
theorem dL_law_1037 : decode cL_law 1037 = .ok (.iconst 0, 1) := by decide +kernel
set_option maxRecDepth 20000 in
theorem dL_law_1038 : decode cL_law 1038 = .ok (.ireturn, 1) := by decide +kernel
set_option maxRecDepth 20000 in
theorem dL_law_1039 : decode cL_law 1039 = .ok (.iload 5, 2) := by decide +kernel
set_option maxRecDepth 20000 in
theorem dL_law_1041 : decode cL_law 1041 = .ok (.ifCond .ne 15, 3) := by decide +kernel
set_option maxRecDepth 20000 in
theorem dL_law_1044 : decode cL_law 1044 = .ok (.aload_n 3, 1) := by decide +kernel
set_option maxRecDepth 20000 in
theorem dL_law_1045 : decode cL_law 1045 = .ok (.iconst 0, 1) := by decide +kernel
set_option maxRecDepth 20000 in
theorem dL_law_1046 : decode cL_law 1046 = .ok (.laload, 1) := by decide +kernel
set_option maxRecDepth 20000 in
theorem dL_law_1047 : decode cL_law 1047 = .ok (.iload 6, 2) := by decide +kernel
set_option maxRecDepth 20000 in
theorem dL_law_1049 : decode cL_law 1049 = .ok (.i2l, 1) := by decide +kernel
set_option maxRecDepth 20000 in
theorem dL_law_1050 : decode cL_law 1050 = .ok (.lcmp, 1) := by decide +kernel
set_option maxRecDepth 20000 in
theorem dL_law_1051 : decode cL_law 1051 = .ok (.ifCond .eq 5, 3) := by decide +kernel
set_option maxRecDepth 20000 in
theorem dL_law_1054 : decode cL_law 1054 = .ok (.iconst 0, 1) := by decide +kernel
set_option maxRecDepth 20000 in
theorem dL_law_1055 : decode cL_law 1055 = .ok (.ireturn, 1) := by decide +kernel
set_option maxRecDepth 20000 in
theorem dL_law_1056 : decode cL_law 1056 = .ok (.goto 41, 3) := by decide +kernel
set_option maxRecDepth 20000 in
theorem dL_law_1059 : decode cL_law 1059 = .ok (.aload_n 1, 1) := by decide +kernel
set_option maxRecDepth 20000 in
theorem dL_law_1060 : decode cL_law 1060 = .ok (.invokevirtual 137, 3) := by decide +kernel
set_option maxRecDepth 20000 in
theorem dL_law_1063 : decode cL_law 1063 = .ok (.aload_n 2, 1) := by decide +kernel
set_option maxRecDepth 20000 in
theorem dL_law_1064 : decode cL_law 1064 = .ok (.invokevirtual 140, 3) := by decide +kernel
set_option maxRecDepth 20000 in
theorem dL_law_1067 : decode cL_law 1067 = .ok (.if_icmp .eq 30, 3) := by decide +kernel
set_option maxRecDepth 20000 in
theorem dL_law_1070 : decode cL_law 1070 = .ok (.iconst 0, 1) := by decide +kernel
set_option maxRecDepth 20000 in
theorem dL_law_1071 : decode cL_law 1071 = .ok (.ireturn, 1) := by decide +kernel
set_option maxRecDepth 20000 in
theorem dL_law_1072 : decode cL_law 1072 = .ok (.aload_n 1, 1) := by decide +kernel
set_option maxRecDepth 20000 in
theorem dL_law_1073 : decode cL_law 1073 = .ok (.aload_n 0, 1) := by decide +kernel
set_option maxRecDepth 20000 in
theorem dL_law_1074 : decode cL_law 1074 = .ok (.iload 4, 2) := by decide +kernel
set_option maxRecDepth 20000 in
theorem dL_law_1076 : decode cL_law 1076 = .ok (.iconst 1, 1) := by decide +kernel
set_option maxRecDepth 20000 in
theorem dL_law_1077 : decode cL_law 1077 = .ok (.iadd, 1) := by decide +kernel
set_option maxRecDepth 20000 in
theorem dL_law_1078 : decode cL_law 1078 = .ok (.iaload, 1) := by decide +kernel
set_option maxRecDepth 20000 in
theorem dL_law_1079 : decode cL_law 1079 = .ok (.invokevirtual 141, 3) := by decide +kernel
set_option maxRecDepth 20000 in
theorem dL_law_1082 : decode cL_law 1082 = .ok (.aload_n 2, 1) := by decide +kernel
set_option maxRecDepth 20000 in
theorem dL_law_1083 : decode cL_law 1083 = .ok (.aload_n 0, 1) := by decide +kernel
set_option maxRecDepth 20000 in
theorem dL_law_1084 : decode cL_law 1084 = .ok (.iload 4, 2) := by decide +kernel
set_option maxRecDepth 20000 in
theorem dL_law_1086 : decode cL_law 1086 = .ok (.iconst 1, 1) := by decide +kernel
set_option maxRecDepth 20000 in
theorem dL_law_1087 : decode cL_law 1087 = .ok (.iadd, 1) := by decide +kernel
set_option maxRecDepth 20000 in
theorem dL_law_1088 : decode cL_law 1088 = .ok (.iaload, 1) := by decide +kernel
set_option maxRecDepth 20000 in
theorem dL_law_1089 : decode cL_law 1089 = .ok (.invokevirtual 144, 3) := by decide +kernel
set_option maxRecDepth 20000 in
theorem dL_law_1092 : decode cL_law 1092 = .ok (.if_icmp .eq 5, 3) := by decide +kernel
set_option maxRecDepth 20000 in
theorem dL_law_1095 : decode cL_law 1095 = .ok (.iconst 0, 1) := by decide +kernel
set_option maxRecDepth 20000 in
theorem dL_law_1096 : decode cL_law 1096 = .ok (.ireturn, 1) := by decide +kernel
set_option maxRecDepth 20000 in
theorem dL_law_1097 : decode cL_law 1097 = .ok (.iinc 4 6, 3) := by decide +kernel
set_option maxRecDepth 20000 in
theorem dL_law_1100 : decode cL_law 1100 = .ok (.goto (-1077), 3) := by decide +kernel
set_option maxRecDepth 20000 in
theorem dL_law_1103 : decode cL_law 1103 = .ok (.iconst 1, 1) := by decide +kernel
set_option maxRecDepth 20000 in
theorem dL_law_1104 : decode cL_law 1104 = .ok (.ireturn, 1) := by decide +kernel
end
section
/-! the static heap of the system: places in the order of their making, the state of their cells as functions -/
abbrev St : Type := (Nat → Nat → Int32) × (Nat → Nat → Int64)
def wr (u : St) (p k : Nat) (v : Int32) : St := (fun q j => if q = p ∧ j = k then v else u.1 q j, u.2)
def wl (u : St) (p k : Nat) (v : Int64) : St := (u.1, fun q j => if q = p ∧ j = k then v else u.2 q j)
abbrev Kd : Type := Nat × Nat × List Nat
def SH : List Kd := [(0, 11, [5, 7, 8, 15, 20, 22, 25, 26, 31, 37, 3]), (0, 7, [6, 0]), (1, 300, []), (0, 6, [5, 0]), (0, 0, [9, 10, 3, 0, 0]), (1, 4096, []), (1, 12, []), (0, 1, [12, 13, 14, 0, 0]), (1, 144, []), (1, 144, []), (1, 144, []), (0, 10, [8, 16, 17, 18, 19, 0, 0, 0]), (1, 4096, []), (1, 4096, []), (1, 4096, []), (1, 4096, []), (0, 2, [8, 15, 21, 0, 0]), (1, 4096, []), (0, 3, [8, 15, 23, 24, 0, 0, 0]), (2, 4096, []), (1, 4096, []), (1, 12, []), (0, 4, [27, 28, 29, 30, 0, 0]), (1, 10, []), (1, 20, []), (1, 20, []), (1, 20, []), (0, 9, [26, 32, 33, 34, 35, 36, 0, 0, 0, 0, 0]), (0, 5, [0, 0]), (0, 5, [0, 0]), (0, 5, [0, 0]), (1, 10, []), (1, 10, []), (0, 8, [26, 38, 49, 0, 0, 0]), (5, 10, [35, 36, 37, 38, 39, 40, 41, 42, 43, 44]), (1, 201, []), (1, 201, []), (1, 201, []), (1, 201, []), (1, 201, []), (1, 201, []), (1, 201, []), (1, 201, []), (1, 201, []), (1, 201, []), (1, 20, []), (0, 1, [51, 52, 53, 0, 0]), (1, 144, []), (1, 144, []), (1, 144, []), (0, 12, [0, 55, 0, 56, 57, 58, 59, 60, 61, 0, 62, 63, 0, 64, 65, 66, 67, 0, 68, 69, 70, 71, 72, 73, 0, 0, 0, 0, 1, 1, 74, 75]), (3, 300, []), (1, 12, []), (1, 144, []), (1, 144, []), (1, 12, []), (1, 144, []), (1, 144, []), (2, 12, []), (2, 144, []), (1, 4096, []), (1, 4096, []), (1, 4096, []), (1, 4096, []), (2, 4096, []), (1, 12, []), (1, 10, []), (1, 20, []), (1, 20, []), (1, 20, []), (1, 2010, []), (1, 10, []), (4, 1, [])]
abbrev classes : List vw_C := [(RX0, TX0, 5), (RX1, TX1, 5), (RX2, TX2, 5), (RX3, TX3, 7), (RX4, TX4, 6), (RX5, TX5, 2), (RX6, TX6, 2), (RX7, TX7, 2), (RX8, TX8, 6), (RX9, TX9, 11), (RX10, TX10, 8), (RX11, TX11, 11), (RX12, TX12, 32)]
def NWL : List (String × Nat × MethodName × String) := [("GateWalk", 11, ⟨"GateWalk$Tape", "<init>", "()V"⟩, "GateWalk"), ("GateWalk$Circuit", 20, ⟨"GateWalk$Equations", "<init>", "()V"⟩, "GateWalk"), ("GateWalk", 63, ⟨"GateWalk$Net", "<init>", "()V"⟩, "GateWalk"), ("GateWalk$Turns", 11, ⟨"GateWalk$Ratio", "<init>", "()V"⟩, "GateWalk"), ("GateWalk", 86, ⟨"GateWalk$Equations", "<init>", "()V"⟩, "GateWalk"), ("GateWalk$Equations", 28, ⟨"GateWalk", "isIn", "(II)Z"⟩, "GateWalk"), ("GateWalk$Circuit", 51, ⟨"GateWalk", "isIn", "(II)Z"⟩, "GateWalk"), ("GateWalk$Walk", 63, ⟨"GateWalk", "isIn", "(II)Z"⟩, "GateWalk"), ("GateWalk$Walk", 67, ⟨"GateWalk", "isState", "(I)Z"⟩, "GateWalk"), ("GateWalk$Hazards", 48, ⟨"GateWalk", "isIn", "(II)Z"⟩, "GateWalk"), ("GateWalk$Liveness", 34, ⟨"GateWalk", "isIn", "(II)Z"⟩, "GateWalk"), ("GateWalk$Net", 50, ⟨"GateWalk", "isIn", "(II)Z"⟩, "GateWalk"), ("GateWalk$Timetable", 64, ⟨"GateWalk", "isIn", "(II)Z"⟩, "GateWalk")]
def Nst (U : State) : Prop := ∀ q ∈ NWL, va_Nw (.methodLinkNest q.1 q.2.1 q.2.2.1 q.2.2.2) U
def LW : List Cond := lw_tbl.filter goodWord
theorem LW_t {w : Cond} (h : w ∈ tables_1) (g : goodWord w = true) : w ∈ LW := List.mem_filter.mpr ⟨List.mem_append_right _ h, g⟩
theorem LW_s {w : Cond} (h : w ∈ k2_sels lw_privs) (g : goodWord w = true) : w ∈ LW := List.mem_filter.mpr ⟨List.mem_append_left _ h, g⟩
theorem LW_i {w : Cond} (i : Nat) (h : tables_1[i]? = some w) (g : goodWord w = true) : w ∈ LW := LW_t (List.mem_of_getElem? h) g
theorem LW_good {w : Cond} (h : w ∈ LW) : w ∈ LW ∧ ((w.onTables && w.keeps) = true ∨ ∃ ty, w = .arrayClass ty) := ⟨h, good_of_word (List.mem_filter.mp h).2⟩
theorem goodLW {y : MethodName} {b : ByteArray} {n : Nat} {r : Option FieldType} (pre : List Cond) (hp : ∀ w ∈ pre, w ∈ LW) (hc : Cond.code y b n r ∈ LW) : GoodIn LW (pre ++ (Cond.code y b n r :: LW)) := by
  intro w hw
  rcases List.mem_append.mp hw with h | h
  · exact LW_good (hp w h)
  · rcases List.mem_cons.mp h with h | h
    · subst h; exact LW_good hc
    · exact LW_good h
theorem Nst.same {u U : State} (h : u.vm = U.vm) (hZ : Nst u) : Nst U := fun q hq => va_Nw.same rfl h (hZ q hq)
theorem Nst.warm {u U : State} (h : u.WarmedH U.vm) (hZ : Nst u) : Nst U := fun q hq => va_Nw.warmM h (hZ q hq)
def fv (ad : Nat → Nat) (u : St) (p k c : Nat) : Value := match c with
  | 0 => .int (u.1 p k)
  | 1 => .long (u.2 p k)
  | 2 => .null
  | 3 => .ref (ad (u.1 p k).toNatClampNeg)
  | c + 4 => .ref (ad c)
def clo (cA : Nat → ClassId) (ad : Nat → Nat) (kd : Kd) (u : St) (p : Nat) : va_E := match kd with
  | (0, ci, fc) => .inr (ci, fc.mapIdx (fun k c => fv ad u p k c))
  | (4, n, _) => .inl (cA 4, n, .inr (.inl (u.2 p)))
  | (5, n, rs) => .inl (cA 5, n, .inr (.inr (.inr (.inr (fun i => (rs[i]?).map ad)))))
  | (t, n, _) => .inl (cA t, n, .inl (u.1 p))
def wld (sh : List Kd) (cA : Nat → ClassId) (ad : Nat → Nat) (u : St) : va_W := sh.mapIdx (fun p kd => (ad p, clo cA ad kd u p))
def tysA (cA : Nat → ClassId) : List (ClassId × FieldType) := [(cA 1, .int), (cA 2, .boolean), (cA 3, .byte), (cA 4, .long), (cA 5, .array .int)]
theorem wld_at {sh : List Kd} {cA : Nat → ClassId} {ad : Nat → Nat} {u : St} {p : Nat} {kd : Kd} (h : sh[p]? = some kd) : (wld sh cA ad u)[p]? = some (ad p, clo cA ad kd u p) := by
  simp [wld, List.getElem?_mapIdx, h]
theorem wld_inv {sh : List Kd} {cA : Nat → ClassId} {ad : Nat → Nat} {u : St} {p : Nat} {q : Nat × va_E} (h : (wld sh cA ad u)[p]? = some q) : ∃ kd, sh[p]? = some kd ∧ q = (ad p, clo cA ad kd u p) := by
  simp only [wld, List.getElem?_mapIdx] at h
  cases hk : sh[p]? with
  | none => rw [hk] at h; cases h
  | some kd => rw [hk] at h; cases h; exact ⟨kd, rfl, rfl⟩
def Inj (ad : Nat → Nat) (n : Nat) : Prop := ∀ i j : Nat, i < n → j < n → ad i = ad j → i = j
theorem wld_D {sh : List Kd} {cA : Nat → ClassId} {ad : Nat → Nat} {A : Nat → Prop} (hi : Inj ad sh.length) (hA : ∀ p, p < sh.length → A (ad p)) (u : St) : va_D A (wld sh cA ad u) := by
  refine ⟨fun i j p q h1 h2 hpq => ?_, fun k q h => ?_⟩
  · obtain ⟨k1, e1, r1⟩ := wld_inv h1
    obtain ⟨k2, e2, r2⟩ := wld_inv h2
    subst r1; subst r2
    exact hi i j (List.getElem?_eq_some_iff.mp e1).1 (List.getElem?_eq_some_iff.mp e2).1 hpq
  · obtain ⟨k1, e1, r1⟩ := wld_inv h
    subst r1
    exact hA k (List.getElem?_eq_some_iff.mp e1).1
/-- two states that differ in the cell of one place alone -/
theorem clo_eq {cA : Nat → ClassId} {ad : Nat → Nat} {kd : Kd} {u v : St} {p : Nat} (h1 : u.1 p = v.1 p) (h2 : u.2 p = v.2 p) : clo cA ad kd u p = clo cA ad kd v p := by
  have hf : ∀ k c, fv ad u p k c = fv ad v p k c := fun k c => by
    unfold fv
    split <;> simp [h1, h2]
  unfold clo
  split <;> simp [h1, h2, hf]
theorem wld_set {sh : List Kd} {cA : Nat → ClassId} {ad : Nat → Nat} {u v : St} {p : Nat} {kd : Kd} (hp : sh[p]? = some kd) (h1 : ∀ q, q ≠ p → u.1 q = v.1 q) (h2 : ∀ q, q ≠ p → u.2 q = v.2 q) {e : va_E} (he : e = clo cA ad kd v p) : (wld sh cA ad u).set p (ad p, e) = wld sh cA ad v := by
  apply List.ext_getElem?
  intro k
  by_cases hk : k = p
  · subst hk
    have hl : k < (wld sh cA ad u).length := (List.getElem?_eq_some_iff.mp (wld_at (u := u) (cA := cA) (ad := ad) hp)).1
    rw [List.getElem?_set_self hl, wld_at hp, he]
  · rw [List.getElem?_set_ne (Ne.symm hk)]
    cases hs : sh[k]? with
    | none => simp [wld, List.getElem?_mapIdx, hs]
    | some kd2 => rw [wld_at hs, wld_at hs, clo_eq (h1 k hk) (h2 k hk)]
theorem wr_o (u : St) (p k : Nat) (x : Int32) (q : Nat) (h : q ≠ p) : u.1 q = (wr u p k x).1 q := by
  funext j; simp [wr, h]
theorem wr_u (u : St) (p k : Nat) (x : Int32) : (wr u p k x).1 p = upd (u.1 p) k x := by
  funext j; simp [wr, upd]
theorem wl_o (u : St) (p k : Nat) (x : Int64) (q : Nat) (h : q ≠ p) : u.2 q = (wl u p k x).2 q := by
  funext j; simp [wl, h]
theorem wl_u (u : St) (p k : Nat) (x : Int64) : (wl u p k x).2 p = vp_updL (u.2 p) k x := by
  funext j; simp [wl, vp_updL]
theorem fv_set {ad : Nat → Nat} {u : St} {p k : Nat} {x : Int32} {fc : List Nat} (hc : fc[k]? = some 0) : (fc.mapIdx (fun k c => fv ad u p k c)).set k (.int x) = fc.mapIdx (fun j c => fv ad (wr u p k x) p j c) := by
  apply List.ext_getElem?
  intro j
  by_cases hj : j = k
  · subst hj
    have hl : j < (fc.mapIdx (fun k c => fv ad u p k c)).length := by rw [List.length_mapIdx]; exact (List.getElem?_eq_some_iff.mp hc).1
    rw [List.getElem?_set_self hl]
    simp [List.getElem?_mapIdx, hc, fv, wr]
  · rw [List.getElem?_set_ne (Ne.symm hj)]
    simp only [List.getElem?_mapIdx]
    cases fc[j]? with
    | none => rfl
    | some c =>
      simp only [Option.map_some]
      congr 1
      unfold fv
      split <;> simp [wr, hj]
theorem fv_setL {ad : Nat → Nat} {u : St} {p k : Nat} {x : Int64} {fc : List Nat} (hc : fc[k]? = some 1) : (fc.mapIdx (fun k c => fv ad u p k c)).set k (.long x) = fc.mapIdx (fun j c => fv ad (wl u p k x) p j c) := by
  apply List.ext_getElem?
  intro j
  by_cases hj : j = k
  · subst hj
    have hl : j < (fc.mapIdx (fun k c => fv ad u p k c)).length := by rw [List.length_mapIdx]; exact (List.getElem?_eq_some_iff.mp hc).1
    rw [List.getElem?_set_self hl]
    simp [List.getElem?_mapIdx, hc, fv, wl]
  · rw [List.getElem?_set_ne (Ne.symm hj)]
    simp only [List.getElem?_mapIdx]
    cases fc[j]? with
    | none => rfl
    | some c =>
      simp only [Option.map_some]
      congr 1
      unfold fv
      split <;> simp [wl, hj]
theorem fv_setR {ad : Nat → Nat} {u : St} {p k : Nat} {q : Nat} (hq : q < 2 ^ 31) {fc : List Nat} (hc : fc[k]? = some 3) : (fc.mapIdx (fun k c => fv ad u p k c)).set k (.ref (ad q)) = fc.mapIdx (fun j c => fv ad (wr u p k (nI q)) p j c) := by
  apply List.ext_getElem?
  intro j
  by_cases hj : j = k
  · subst hj
    have hl : j < (fc.mapIdx (fun k c => fv ad u p k c)).length := by rw [List.length_mapIdx]; exact (List.getElem?_eq_some_iff.mp hc).1
    rw [List.getElem?_set_self hl]
    simp [List.getElem?_mapIdx, hc, fv, wr, nI_clamp hq]
  · rw [List.getElem?_set_ne (Ne.symm hj)]
    simp only [List.getElem?_mapIdx]
    cases fc[j]? with
    | none => rfl
    | some c =>
      simp only [Option.map_some]
      congr 1
      unfold fv
      split <;> simp [wr, hj]
/-- what a method stands in -/
def Cx (sh : List Kd) (p : Program) (s : State) (m : MethodId) (args : Array Value) (meth : Method) (c : Code) (cc : ByteArray) (nL : Nat) (ret : Option FieldType) (own : String) (D : va_G) (cA : Nat → ClassId) (ad : Nat → Nat) (A : Nat → Prop) : Prop :=
  p.tables.exec = Jvm.exec ∧ c.code = cc ∧ meth.sig.returnType = ret ∧ c.maxLocals = nL ∧ s.vm.findClass own = some m.cls ∧ (∀ w ∈ LW, w.before args s = true) ∧ meth.locks = false ∧ va_K D classes (tysA cA) s ∧ Nst s ∧ Inj ad sh.length ∧ ∀ q, q < sh.length → A (ad q)
def Z (sh : List Kd) (p : Program) (l : Launch) (e : Env) (R : Room) (s : State) (m : MethodId) (args : Array Value) (below : List Frame) (meth : Method) (c : Code) (D : va_G) (cA : Nat → ClassId) (ad : Nat → Nat) (A : Nat → Prop) (cells slots : Nat) (Q : State → Prop) (u : St) (pc : Nat) (ls : Array Slot) (st : List Value) : Prop :=
  ∀ (H : Heap) (locs : List Loc), va_P D classes (wld sh cA ad u) H → va_S A s.heap H locs → W p l e R s m args below meth c H locs cells slots Q (F0 m pc ls st)
def rmD (d : Nat) : Room := { frames := d, cells := 0, slots := 0, locals := 60 * d }
def inAd (ad : Nat → Nat) : Nat → Prop := fun q => ∃ k, k < SH.length ∧ q = ad k
def Wd (D : va_G) (cA : Nat → ClassId) (ad : Nat → Nat) (u : St) (U : State) : Prop := va_P D classes (wld SH cA ad u) U.heap ∧ va_K D classes (tysA cA) U ∧ Nst U
def Qx (D : va_G) (cA : Nat → ClassId) (ad : Nat → Nat) (r : Option Value) (u : St) : Array Value → State → Outcome → State → Prop := fun _ st o t => o = .returned r ∧ va_P D classes (wld SH cA ad u) t.heap ∧ va_F (inAd ad) st t
/-- a method's contract: from the state u it comes to the state u', with the answer r -/
def Mt (y : MethodName) (cc : ByteArray) (nL : Nat) (ret : Option FieldType) (d : Nat) (ags : (Nat → Nat) → List Value) (u : St) (r : (Nat → Nat) → Option Value) (u' : St) : Prop :=
  ∀ (l : Launch) (D : va_G) (cA : Nat → ClassId) (ad : Nat → Nat), Inj ad SH.length → Met l y (.code y cc nL ret :: LW) (rmD d) (va_Pc (ags ad) (Wd D cA ad u)) (Qx D cA ad (r ad) u') 0 0 (inAd ad)
theorem Wd.blind {D : va_G} {cA : Nat → ClassId} {ad : Nat → Nat} {u : St} {av : List Value} : FrameBlind (va_Pc av (Wd D cA ad u)) := fun a U g mk h => ⟨h.1, h.2.1, va_K.moved (Vm.Alike.refl U.vm) h.2.2.1, h.2.2.2.same rfl⟩
def ushr (x y : Int32) : Int32 := (x.toUInt32 >>> (y.toUInt32 &&& Int32.toUInt32 31)).toInt32
def lushr (x : Int64) (y : Int32) : Int64 := (x.toUInt64 >>> (y.toInt64.toUInt64 &&& Int64.toUInt64 63)).toInt64
section ZROWS
variable {sh : List Kd} {p : Program} {l : Launch} {e : Env} {R : Room} {s : State} {m : MethodId} {args : Array Value} {below : List Frame} {meth : Method} {c : Code} {cc : ByteArray} {nL : Nat} {ret : Option FieldType} {own : String} {D : va_G} {cA : Nat → ClassId} {ad : Nat → Nat} {A : Nat → Prop} {cells slots : Nat} {Q : State → Prop} {u : St} {pc : Nat} {ls : Array Slot} {rest : List Value}
theorem z_iconst (C : Cx sh p s m args meth c cc nL ret own D cA ad A) {n : Int} (v : Int32) (hd : decode cc pc = .ok (.iconst n, 1)) (hv : Int32.ofInt n = v) (k : Z sh p l e R s m args below meth c D cA ad A cells slots Q u (pc + 1) ls (.int v :: rest)) : Z sh p l e R s m args below meth c D cA ad A cells slots Q u pc ls rest := fun H locs hP hS => lv_iconst C.1 C.2.1 hd hv (k H locs hP hS)
theorem z_bipush (C : Cx sh p s m args meth c cc nL ret own D cA ad A) {n : Int} (v : Int32) (hd : decode cc pc = .ok (.bipush n, 2)) (hv : (Int8.ofInt n).toInt32 = v) (k : Z sh p l e R s m args below meth c D cA ad A cells slots Q u (pc + 2) ls (.int v :: rest)) : Z sh p l e R s m args below meth c D cA ad A cells slots Q u pc ls rest := fun H locs hP hS => lv_bipush C.1 C.2.1 hd hv (k H locs hP hS)
theorem z_sipush (C : Cx sh p s m args meth c cc nL ret own D cA ad A) {n : Int} (v : Int32) (hd : decode cc pc = .ok (.sipush n, 3)) (hv : (Int16.ofInt n).toInt32 = v) (k : Z sh p l e R s m args below meth c D cA ad A cells slots Q u (pc + 3) ls (.int v :: rest)) : Z sh p l e R s m args below meth c D cA ad A cells slots Q u pc ls rest := fun H locs hP hS => lv_sipush C.1 C.2.1 hd hv (k H locs hP hS)
theorem z_lconst (C : Cx sh p s m args meth c cc nL ret own D cA ad A) {n : Fin 2} (v : Int64) (hd : decode cc pc = .ok (.lconst n, 1)) (hv : Int64.ofNat (n : Nat) = v) (k : Z sh p l e R s m args below meth c D cA ad A cells slots Q u (pc + 1) ls (.long v :: rest)) : Z sh p l e R s m args below meth c D cA ad A cells slots Q u pc ls rest := fun H locs hP hS => lv_lconst C.1 C.2.1 hd hv (k H locs hP hS)
theorem z_ldc (C : Cx sh p s m args meth c cc nL ret own D cA ad A) {index : Nat} {v : Int32} (hw : Cond.constant own index v ∈ LW) (hd : decode cc pc = .ok (.ldc index, 2)) (k : Z sh p l e R s m args below meth c D cA ad A cells slots Q u (pc + 2) ls (.int v :: rest)) : Z sh p l e R s m args below meth c D cA ad A cells slots Q u pc ls rest := fun H locs hP hS => lv_ldc C.1 C.2.1 C.2.2.2.2.1 (C.2.2.2.2.2.1 _ hw) hd (k H locs hP hS)
theorem z_ldc_w (C : Cx sh p s m args meth c cc nL ret own D cA ad A) {index : Nat} {v : Int32} (hw : Cond.constant own index v ∈ LW) (hd : decode cc pc = .ok (.ldc_w index, 3)) (k : Z sh p l e R s m args below meth c D cA ad A cells slots Q u (pc + 3) ls (.int v :: rest)) : Z sh p l e R s m args below meth c D cA ad A cells slots Q u pc ls rest := fun H locs hP hS => lv_ldcw C.1 C.2.1 C.2.2.2.2.1 (C.2.2.2.2.2.1 _ hw) hd (k H locs hP hS)
theorem z_ldc2 (C : Cx sh p s m args meth c cc nL ret own D cA ad A) {index : Nat} {v : Int64} (hw : Cond.constantLong own index v ∈ LW) (hd : decode cc pc = .ok (.ldc2_w index, 3)) (k : Z sh p l e R s m args below meth c D cA ad A cells slots Q u (pc + 3) ls (.long v :: rest)) : Z sh p l e R s m args below meth c D cA ad A cells slots Q u pc ls rest := fun H locs hP hS => lv_ldc2 C.1 C.2.1 C.2.2.2.2.1 (C.2.2.2.2.2.1 _ hw) hd (k H locs hP hS)
theorem z_iload (C : Cx sh p s m args meth c cc nL ret own D cA ad A) {i k : Nat} {x : Int32} {lv : List (Nat × Value)} (hl : lv_has ls nL lv) (hd : decode cc pc = .ok (.iload i, 2)) (hk : lv[k]? = some (i, .int x)) (kk : Z sh p l e R s m args below meth c D cA ad A cells slots Q u (pc + 2) ls (.int x :: rest)) : Z sh p l e R s m args below meth c D cA ad A cells slots Q u pc ls rest := fun H locs hP hS => lv_iload C.1 C.2.1 hd (lv_at hl k hk) (kk H locs hP hS)
theorem z_iload_n (C : Cx sh p s m args meth c cc nL ret own D cA ad A) {j : Fin 4} {i k : Nat} {x : Int32} {lv : List (Nat × Value)} (hl : lv_has ls nL lv) (hd : decode cc pc = .ok (.iload_n j, 1)) (hi : (j : Nat) = i) (hk : lv[k]? = some (i, .int x)) (kk : Z sh p l e R s m args below meth c D cA ad A cells slots Q u (pc + 1) ls (.int x :: rest)) : Z sh p l e R s m args below meth c D cA ad A cells slots Q u pc ls rest := fun H locs hP hS => lv_iload_n C.1 C.2.1 hd hi (lv_at hl k hk) (kk H locs hP hS)
theorem z_aload (C : Cx sh p s m args meth c cc nL ret own D cA ad A) {i k : Nat} {x : Nat} {lv : List (Nat × Value)} (hl : lv_has ls nL lv) (hd : decode cc pc = .ok (.aload i, 2)) (hk : lv[k]? = some (i, .ref x)) (kk : Z sh p l e R s m args below meth c D cA ad A cells slots Q u (pc + 2) ls (.ref x :: rest)) : Z sh p l e R s m args below meth c D cA ad A cells slots Q u pc ls rest := fun H locs hP hS => lv_aload C.1 C.2.1 hd (lv_at hl k hk) (kk H locs hP hS)
theorem z_aload_n (C : Cx sh p s m args meth c cc nL ret own D cA ad A) {j : Fin 4} {i k : Nat} {x : Nat} {lv : List (Nat × Value)} (hl : lv_has ls nL lv) (hd : decode cc pc = .ok (.aload_n j, 1)) (hi : (j : Nat) = i) (hk : lv[k]? = some (i, .ref x)) (kk : Z sh p l e R s m args below meth c D cA ad A cells slots Q u (pc + 1) ls (.ref x :: rest)) : Z sh p l e R s m args below meth c D cA ad A cells slots Q u pc ls rest := fun H locs hP hS => lv_aload_n C.1 C.2.1 hd hi (lv_at hl k hk) (kk H locs hP hS)
theorem z_lload (C : Cx sh p s m args meth c cc nL ret own D cA ad A) {i k : Nat} {x : Int64} {lv : List (Nat × Value)} (hl : lv_has ls nL lv) (hd : decode cc pc = .ok (.lload i, 2)) (hk : lv[k]? = some (i, .long x)) (kk : Z sh p l e R s m args below meth c D cA ad A cells slots Q u (pc + 2) ls (.long x :: rest)) : Z sh p l e R s m args below meth c D cA ad A cells slots Q u pc ls rest := fun H locs hP hS => lv_lload C.1 C.2.1 hd (lv_at hl k hk) (kk H locs hP hS)
theorem z_lload_n (C : Cx sh p s m args meth c cc nL ret own D cA ad A) {j : Fin 4} {i k : Nat} {x : Int64} {lv : List (Nat × Value)} (hl : lv_has ls nL lv) (hd : decode cc pc = .ok (.lload_n j, 1)) (hi : (j : Nat) = i) (hk : lv[k]? = some (i, .long x)) (kk : Z sh p l e R s m args below meth c D cA ad A cells slots Q u (pc + 1) ls (.long x :: rest)) : Z sh p l e R s m args below meth c D cA ad A cells slots Q u pc ls rest := fun H locs hP hS => lv_lload_n C.1 C.2.1 hd hi (lv_at hl k hk) (kk H locs hP hS)
theorem z_istore (C : Cx sh p s m args meth c cc nL ret own D cA ad A) {i : Nat} {x : Int32} {lv : List (Nat × Value)} (lv' : List (Nat × Value)) (hl : lv_has ls nL lv) (hd : decode cc pc = .ok (.istore i, 2)) (hn : i < nL) (hf : (i, Value.int x) :: lv.filter (fun q => !(q.1 == i) && !(q.1 + 1 == i && q.2.category == 2)) = lv') (kk : ∀ ls' : Array Slot, lv_has ls' nL lv' → Z sh p l e R s m args below meth c D cA ad A cells slots Q u (pc + 2) ls' rest) : Z sh p l e R s m args below meth c D cA ad A cells slots Q u pc ls (.int x :: rest) := fun H locs hP hS => lv_istore C.1 C.2.1 hd hl hn hf (fun ls' h' => kk ls' h' H locs hP hS)
theorem z_istore_n (C : Cx sh p s m args meth c cc nL ret own D cA ad A) {j : Fin 4} {i : Nat} {x : Int32} {lv : List (Nat × Value)} (lv' : List (Nat × Value)) (hl : lv_has ls nL lv) (hd : decode cc pc = .ok (.istore_n j, 1)) (hi : (j : Nat) = i) (hn : i < nL) (hf : (i, Value.int x) :: lv.filter (fun q => !(q.1 == i) && !(q.1 + 1 == i && q.2.category == 2)) = lv') (kk : ∀ ls' : Array Slot, lv_has ls' nL lv' → Z sh p l e R s m args below meth c D cA ad A cells slots Q u (pc + 1) ls' rest) : Z sh p l e R s m args below meth c D cA ad A cells slots Q u pc ls (.int x :: rest) := fun H locs hP hS => lv_istore_n C.1 C.2.1 hd hi hl hn hf (fun ls' h' => kk ls' h' H locs hP hS)
theorem z_astore (C : Cx sh p s m args meth c cc nL ret own D cA ad A) {i : Nat} {x : Nat} {lv : List (Nat × Value)} (lv' : List (Nat × Value)) (hl : lv_has ls nL lv) (hd : decode cc pc = .ok (.astore i, 2)) (hn : i < nL) (hf : (i, Value.ref x) :: lv.filter (fun q => !(q.1 == i) && !(q.1 + 1 == i && q.2.category == 2)) = lv') (kk : ∀ ls' : Array Slot, lv_has ls' nL lv' → Z sh p l e R s m args below meth c D cA ad A cells slots Q u (pc + 2) ls' rest) : Z sh p l e R s m args below meth c D cA ad A cells slots Q u pc ls (.ref x :: rest) := fun H locs hP hS => lv_astore C.1 C.2.1 hd hl hn hf (fun ls' h' => kk ls' h' H locs hP hS)
theorem z_astore_n (C : Cx sh p s m args meth c cc nL ret own D cA ad A) {j : Fin 4} {i : Nat} {x : Nat} {lv : List (Nat × Value)} (lv' : List (Nat × Value)) (hl : lv_has ls nL lv) (hd : decode cc pc = .ok (.astore_n j, 1)) (hi : (j : Nat) = i) (hn : i < nL) (hf : (i, Value.ref x) :: lv.filter (fun q => !(q.1 == i) && !(q.1 + 1 == i && q.2.category == 2)) = lv') (kk : ∀ ls' : Array Slot, lv_has ls' nL lv' → Z sh p l e R s m args below meth c D cA ad A cells slots Q u (pc + 1) ls' rest) : Z sh p l e R s m args below meth c D cA ad A cells slots Q u pc ls (.ref x :: rest) := fun H locs hP hS => lv_astore_n C.1 C.2.1 hd hi hl hn hf (fun ls' h' => kk ls' h' H locs hP hS)
theorem z_lstore (C : Cx sh p s m args meth c cc nL ret own D cA ad A) {i : Nat} {x : Int64} {lv : List (Nat × Value)} (lv' : List (Nat × Value)) (hl : lv_has ls nL lv) (hd : decode cc pc = .ok (.lstore i, 2)) (hn : i + 1 < nL) (hf : (i, Value.long x) :: lv.filter (fun q => !(q.1 == i) && (!(q.1 == i + 1) && !(q.1 + 1 == i && q.2.category == 2))) = lv') (kk : ∀ ls' : Array Slot, lv_has ls' nL lv' → Z sh p l e R s m args below meth c D cA ad A cells slots Q u (pc + 2) ls' rest) : Z sh p l e R s m args below meth c D cA ad A cells slots Q u pc ls (.long x :: rest) := fun H locs hP hS => lv_lstore C.1 C.2.1 hd hl hn hf (fun ls' h' => kk ls' h' H locs hP hS)
theorem z_lstore_n (C : Cx sh p s m args meth c cc nL ret own D cA ad A) {j : Fin 4} {i : Nat} {x : Int64} {lv : List (Nat × Value)} (lv' : List (Nat × Value)) (hl : lv_has ls nL lv) (hd : decode cc pc = .ok (.lstore_n j, 1)) (hi : (j : Nat) = i) (hn : i + 1 < nL) (hf : (i, Value.long x) :: lv.filter (fun q => !(q.1 == i) && (!(q.1 == i + 1) && !(q.1 + 1 == i && q.2.category == 2))) = lv') (kk : ∀ ls' : Array Slot, lv_has ls' nL lv' → Z sh p l e R s m args below meth c D cA ad A cells slots Q u (pc + 1) ls' rest) : Z sh p l e R s m args below meth c D cA ad A cells slots Q u pc ls (.long x :: rest) := fun H locs hP hS => lv_lstore_n C.1 C.2.1 hd hi hl hn hf (fun ls' h' => kk ls' h' H locs hP hS)
theorem z_iadd (C : Cx sh p s m args meth c cc nL ret own D cA ad A) {x y : Int32} (hd : decode cc pc = .ok (.iadd, 1)) (kk : Z sh p l e R s m args below meth c D cA ad A cells slots Q u (pc + 1) ls (.int (x + y) :: rest)) : Z sh p l e R s m args below meth c D cA ad A cells slots Q u pc ls (.int y :: .int x :: rest) := fun H locs hP hS => lv_iadd C.1 C.2.1 hd (kk H locs hP hS)
theorem z_isub (C : Cx sh p s m args meth c cc nL ret own D cA ad A) {x y : Int32} (hd : decode cc pc = .ok (.isub, 1)) (kk : Z sh p l e R s m args below meth c D cA ad A cells slots Q u (pc + 1) ls (.int (x - y) :: rest)) : Z sh p l e R s m args below meth c D cA ad A cells slots Q u pc ls (.int y :: .int x :: rest) := fun H locs hP hS => lv_isub C.1 C.2.1 hd (kk H locs hP hS)
theorem z_imul (C : Cx sh p s m args meth c cc nL ret own D cA ad A) {x y : Int32} (hd : decode cc pc = .ok (.imul, 1)) (kk : Z sh p l e R s m args below meth c D cA ad A cells slots Q u (pc + 1) ls (.int (x * y) :: rest)) : Z sh p l e R s m args below meth c D cA ad A cells slots Q u pc ls (.int y :: .int x :: rest) := fun H locs hP hS => lv_imul C.1 C.2.1 hd (kk H locs hP hS)
theorem z_iand (C : Cx sh p s m args meth c cc nL ret own D cA ad A) {x y : Int32} (hd : decode cc pc = .ok (.iand, 1)) (kk : Z sh p l e R s m args below meth c D cA ad A cells slots Q u (pc + 1) ls (.int (x &&& y) :: rest)) : Z sh p l e R s m args below meth c D cA ad A cells slots Q u pc ls (.int y :: .int x :: rest) := fun H locs hP hS => lv_iand C.1 C.2.1 hd (kk H locs hP hS)
theorem z_ior (C : Cx sh p s m args meth c cc nL ret own D cA ad A) {x y : Int32} (hd : decode cc pc = .ok (.ior, 1)) (kk : Z sh p l e R s m args below meth c D cA ad A cells slots Q u (pc + 1) ls (.int (x ||| y) :: rest)) : Z sh p l e R s m args below meth c D cA ad A cells slots Q u pc ls (.int y :: .int x :: rest) := fun H locs hP hS => lv_ior C.1 C.2.1 hd (kk H locs hP hS)
theorem z_ixor (C : Cx sh p s m args meth c cc nL ret own D cA ad A) {x y : Int32} (hd : decode cc pc = .ok (.ixor, 1)) (kk : Z sh p l e R s m args below meth c D cA ad A cells slots Q u (pc + 1) ls (.int (x ^^^ y) :: rest)) : Z sh p l e R s m args below meth c D cA ad A cells slots Q u pc ls (.int y :: .int x :: rest) := fun H locs hP hS => lv_ixor C.1 C.2.1 hd (kk H locs hP hS)
theorem z_ishl (C : Cx sh p s m args meth c cc nL ret own D cA ad A) {x y : Int32} (hd : decode cc pc = .ok (.ishl, 1)) (kk : Z sh p l e R s m args below meth c D cA ad A cells slots Q u (pc + 1) ls (.int (x <<< (y &&& 31)) :: rest)) : Z sh p l e R s m args below meth c D cA ad A cells slots Q u pc ls (.int y :: .int x :: rest) := fun H locs hP hS => lv_ishl C.1 C.2.1 hd (kk H locs hP hS)
theorem z_ishr (C : Cx sh p s m args meth c cc nL ret own D cA ad A) {x y : Int32} (hd : decode cc pc = .ok (.ishr, 1)) (kk : Z sh p l e R s m args below meth c D cA ad A cells slots Q u (pc + 1) ls (.int (x >>> (y &&& 31)) :: rest)) : Z sh p l e R s m args below meth c D cA ad A cells slots Q u pc ls (.int y :: .int x :: rest) := fun H locs hP hS => lv_ishr C.1 C.2.1 hd (kk H locs hP hS)
theorem z_idiv (C : Cx sh p s m args meth c cc nL ret own D cA ad A) {x y : Int32} (hd : decode cc pc = .ok (.idiv, 1)) (hne : ¬ y = 0) (kk : Z sh p l e R s m args below meth c D cA ad A cells slots Q u (pc + 1) ls (.int (x / y) :: rest)) : Z sh p l e R s m args below meth c D cA ad A cells slots Q u pc ls (.int y :: .int x :: rest) := fun H locs hP hS => lv_idiv C.1 C.2.1 hd hne (kk H locs hP hS)
theorem z_irem (C : Cx sh p s m args meth c cc nL ret own D cA ad A) {x y : Int32} (hd : decode cc pc = .ok (.irem, 1)) (hne : ¬ y = 0) (kk : Z sh p l e R s m args below meth c D cA ad A cells slots Q u (pc + 1) ls (.int (x - x / y * y) :: rest)) : Z sh p l e R s m args below meth c D cA ad A cells slots Q u pc ls (.int y :: .int x :: rest) := fun H locs hP hS => lv_irem C.1 C.2.1 hd hne (kk H locs hP hS)
theorem z_ladd (C : Cx sh p s m args meth c cc nL ret own D cA ad A) {x y : Int64} (hd : decode cc pc = .ok (.ladd, 1)) (kk : Z sh p l e R s m args below meth c D cA ad A cells slots Q u (pc + 1) ls (.long (x + y) :: rest)) : Z sh p l e R s m args below meth c D cA ad A cells slots Q u pc ls (.long y :: .long x :: rest) := fun H locs hP hS => lv_ladd C.1 C.2.1 hd (kk H locs hP hS)
theorem z_lmul (C : Cx sh p s m args meth c cc nL ret own D cA ad A) {x y : Int64} (hd : decode cc pc = .ok (.lmul, 1)) (kk : Z sh p l e R s m args below meth c D cA ad A cells slots Q u (pc + 1) ls (.long (x * y) :: rest)) : Z sh p l e R s m args below meth c D cA ad A cells slots Q u pc ls (.long y :: .long x :: rest) := fun H locs hP hS => lv_lmul C.1 C.2.1 hd (kk H locs hP hS)
theorem z_land (C : Cx sh p s m args meth c cc nL ret own D cA ad A) {x y : Int64} (hd : decode cc pc = .ok (.land, 1)) (kk : Z sh p l e R s m args below meth c D cA ad A cells slots Q u (pc + 1) ls (.long (x &&& y) :: rest)) : Z sh p l e R s m args below meth c D cA ad A cells slots Q u pc ls (.long y :: .long x :: rest) := fun H locs hP hS => lv_land C.1 C.2.1 hd (kk H locs hP hS)
theorem z_lor (C : Cx sh p s m args meth c cc nL ret own D cA ad A) {x y : Int64} (hd : decode cc pc = .ok (.lor, 1)) (kk : Z sh p l e R s m args below meth c D cA ad A cells slots Q u (pc + 1) ls (.long (x ||| y) :: rest)) : Z sh p l e R s m args below meth c D cA ad A cells slots Q u pc ls (.long y :: .long x :: rest) := fun H locs hP hS => lv_lor C.1 C.2.1 hd (kk H locs hP hS)
theorem z_ldiv (C : Cx sh p s m args meth c cc nL ret own D cA ad A) {x y : Int64} (hd : decode cc pc = .ok (.ldiv, 1)) (hne : ¬ y = 0) (kk : Z sh p l e R s m args below meth c D cA ad A cells slots Q u (pc + 1) ls (.long (x / y) :: rest)) : Z sh p l e R s m args below meth c D cA ad A cells slots Q u pc ls (.long y :: .long x :: rest) := fun H locs hP hS => lv_ldiv C.1 C.2.1 hd hne (kk H locs hP hS)
theorem z_lrem (C : Cx sh p s m args meth c cc nL ret own D cA ad A) {x y : Int64} (hd : decode cc pc = .ok (.lrem, 1)) (hne : ¬ y = 0) (kk : Z sh p l e R s m args below meth c D cA ad A cells slots Q u (pc + 1) ls (.long (x - x / y * y) :: rest)) : Z sh p l e R s m args below meth c D cA ad A cells slots Q u pc ls (.long y :: .long x :: rest) := fun H locs hP hS => lv_lrem C.1 C.2.1 hd hne (kk H locs hP hS)
theorem z_iushr (C : Cx sh p s m args meth c cc nL ret own D cA ad A) {x y : Int32} (hd : decode cc pc = .ok (.iushr, 1)) (kk : Z sh p l e R s m args below meth c D cA ad A cells slots Q u (pc + 1) ls (.int (ushr x y) :: rest)) : Z sh p l e R s m args below meth c D cA ad A cells slots Q u pc ls (.int y :: .int x :: rest) := fun H locs hP hS => lv_iushr C.1 C.2.1 hd rfl (kk H locs hP hS)
theorem z_lshl (C : Cx sh p s m args meth c cc nL ret own D cA ad A) {x : Int64} {y : Int32} (hd : decode cc pc = .ok (.lshl, 1)) (kk : Z sh p l e R s m args below meth c D cA ad A cells slots Q u (pc + 1) ls (.long (x <<< (y.toInt64 &&& 63)) :: rest)) : Z sh p l e R s m args below meth c D cA ad A cells slots Q u pc ls (.int y :: .long x :: rest) := fun H locs hP hS => lv_lshl C.1 C.2.1 hd rfl (kk H locs hP hS)
theorem z_lushr (C : Cx sh p s m args meth c cc nL ret own D cA ad A) {x : Int64} {y : Int32} (hd : decode cc pc = .ok (.lushr, 1)) (kk : Z sh p l e R s m args below meth c D cA ad A cells slots Q u (pc + 1) ls (.long (lushr x y) :: rest)) : Z sh p l e R s m args below meth c D cA ad A cells slots Q u pc ls (.int y :: .long x :: rest) := fun H locs hP hS => lv_lushr C.1 C.2.1 hd rfl (kk H locs hP hS)
theorem z_i2l (C : Cx sh p s m args meth c cc nL ret own D cA ad A) {x : Int32} (hd : decode cc pc = .ok (.i2l, 1)) (kk : Z sh p l e R s m args below meth c D cA ad A cells slots Q u (pc + 1) ls (.long (x.toInt64) :: rest)) : Z sh p l e R s m args below meth c D cA ad A cells slots Q u pc ls (.int x :: rest) := fun H locs hP hS => lv_i2l C.1 C.2.1 hd rfl (kk H locs hP hS)
theorem z_l2i (C : Cx sh p s m args meth c cc nL ret own D cA ad A) {x : Int64} (hd : decode cc pc = .ok (.l2i, 1)) (kk : Z sh p l e R s m args below meth c D cA ad A cells slots Q u (pc + 1) ls (.int (x.toInt32) :: rest)) : Z sh p l e R s m args below meth c D cA ad A cells slots Q u pc ls (.long x :: rest) := fun H locs hP hS => lv_l2i C.1 C.2.1 hd rfl (kk H locs hP hS)
theorem z_i2b (C : Cx sh p s m args meth c cc nL ret own D cA ad A) {x : Int32} (hd : decode cc pc = .ok (.i2b, 1)) (kk : Z sh p l e R s m args below meth c D cA ad A cells slots Q u (pc + 1) ls (.int (x.toInt8.toInt32) :: rest)) : Z sh p l e R s m args below meth c D cA ad A cells slots Q u pc ls (.int x :: rest) := fun H locs hP hS => lv_i2b C.1 C.2.1 hd rfl (kk H locs hP hS)
theorem z_icmp_eq (C : Cx sh p s m args meth c cc nL ret own D cA ad A) {x y : Int32} {off : Int} (tgt : Nat) (hd : decode cc pc = .ok (.if_icmp .eq off, 3)) (ht : (pc : Int) + off = (tgt : Int)) (kt : x = y → Z sh p l e R s m args below meth c D cA ad A cells slots Q u tgt ls rest) (kf : ¬ x = y → Z sh p l e R s m args below meth c D cA ad A cells slots Q u (pc + 3) ls rest) : Z sh p l e R s m args below meth c D cA ad A cells slots Q u pc ls (.int y :: .int x :: rest) := fun H locs hP hS => lv_icmp_eq C.1 C.2.1 hd ht (fun h => kt h H locs hP hS) (fun h => kf h H locs hP hS)
theorem z_icmp_ne (C : Cx sh p s m args meth c cc nL ret own D cA ad A) {x y : Int32} {off : Int} (tgt : Nat) (hd : decode cc pc = .ok (.if_icmp .ne off, 3)) (ht : (pc : Int) + off = (tgt : Int)) (kt : ¬ x = y → Z sh p l e R s m args below meth c D cA ad A cells slots Q u tgt ls rest) (kf : x = y → Z sh p l e R s m args below meth c D cA ad A cells slots Q u (pc + 3) ls rest) : Z sh p l e R s m args below meth c D cA ad A cells slots Q u pc ls (.int y :: .int x :: rest) := fun H locs hP hS => lv_icmp_ne C.1 C.2.1 hd ht (fun h => kt h H locs hP hS) (fun h => kf h H locs hP hS)
theorem z_icmp_lt (C : Cx sh p s m args meth c cc nL ret own D cA ad A) {x y : Int32} {off : Int} (tgt : Nat) (hd : decode cc pc = .ok (.if_icmp .lt off, 3)) (ht : (pc : Int) + off = (tgt : Int)) (kt : x < y → Z sh p l e R s m args below meth c D cA ad A cells slots Q u tgt ls rest) (kf : ¬ x < y → Z sh p l e R s m args below meth c D cA ad A cells slots Q u (pc + 3) ls rest) : Z sh p l e R s m args below meth c D cA ad A cells slots Q u pc ls (.int y :: .int x :: rest) := fun H locs hP hS => lv_icmp_lt C.1 C.2.1 hd ht (fun h => kt h H locs hP hS) (fun h => kf h H locs hP hS)
theorem z_icmp_ge (C : Cx sh p s m args meth c cc nL ret own D cA ad A) {x y : Int32} {off : Int} (tgt : Nat) (hd : decode cc pc = .ok (.if_icmp .ge off, 3)) (ht : (pc : Int) + off = (tgt : Int)) (kt : y ≤ x → Z sh p l e R s m args below meth c D cA ad A cells slots Q u tgt ls rest) (kf : ¬ y ≤ x → Z sh p l e R s m args below meth c D cA ad A cells slots Q u (pc + 3) ls rest) : Z sh p l e R s m args below meth c D cA ad A cells slots Q u pc ls (.int y :: .int x :: rest) := fun H locs hP hS => lv_icmp_ge C.1 C.2.1 hd ht (fun h => kt h H locs hP hS) (fun h => kf h H locs hP hS)
theorem z_icmp_gt (C : Cx sh p s m args meth c cc nL ret own D cA ad A) {x y : Int32} {off : Int} (tgt : Nat) (hd : decode cc pc = .ok (.if_icmp .gt off, 3)) (ht : (pc : Int) + off = (tgt : Int)) (kt : y < x → Z sh p l e R s m args below meth c D cA ad A cells slots Q u tgt ls rest) (kf : ¬ y < x → Z sh p l e R s m args below meth c D cA ad A cells slots Q u (pc + 3) ls rest) : Z sh p l e R s m args below meth c D cA ad A cells slots Q u pc ls (.int y :: .int x :: rest) := fun H locs hP hS => lv_icmp_gt C.1 C.2.1 hd ht (fun h => kt h H locs hP hS) (fun h => kf h H locs hP hS)
theorem z_icmp_le (C : Cx sh p s m args meth c cc nL ret own D cA ad A) {x y : Int32} {off : Int} (tgt : Nat) (hd : decode cc pc = .ok (.if_icmp .le off, 3)) (ht : (pc : Int) + off = (tgt : Int)) (kt : x ≤ y → Z sh p l e R s m args below meth c D cA ad A cells slots Q u tgt ls rest) (kf : ¬ x ≤ y → Z sh p l e R s m args below meth c D cA ad A cells slots Q u (pc + 3) ls rest) : Z sh p l e R s m args below meth c D cA ad A cells slots Q u pc ls (.int y :: .int x :: rest) := fun H locs hP hS => lv_icmp_le C.1 C.2.1 hd ht (fun h => kt h H locs hP hS) (fun h => kf h H locs hP hS)
theorem z_if_eq (C : Cx sh p s m args meth c cc nL ret own D cA ad A) {x : Int32} {off : Int} (tgt : Nat) (hd : decode cc pc = .ok (.ifCond .eq off, 3)) (ht : (pc : Int) + off = (tgt : Int)) (kt : x = 0 → Z sh p l e R s m args below meth c D cA ad A cells slots Q u tgt ls rest) (kf : ¬ x = 0 → Z sh p l e R s m args below meth c D cA ad A cells slots Q u (pc + 3) ls rest) : Z sh p l e R s m args below meth c D cA ad A cells slots Q u pc ls (.int x :: rest) := fun H locs hP hS => lv_if_eq C.1 C.2.1 hd ht (fun h => kt h H locs hP hS) (fun h => kf h H locs hP hS)
theorem z_if_ne (C : Cx sh p s m args meth c cc nL ret own D cA ad A) {x : Int32} {off : Int} (tgt : Nat) (hd : decode cc pc = .ok (.ifCond .ne off, 3)) (ht : (pc : Int) + off = (tgt : Int)) (kt : ¬ x = 0 → Z sh p l e R s m args below meth c D cA ad A cells slots Q u tgt ls rest) (kf : x = 0 → Z sh p l e R s m args below meth c D cA ad A cells slots Q u (pc + 3) ls rest) : Z sh p l e R s m args below meth c D cA ad A cells slots Q u pc ls (.int x :: rest) := fun H locs hP hS => lv_if_ne C.1 C.2.1 hd ht (fun h => kt h H locs hP hS) (fun h => kf h H locs hP hS)
theorem z_if_lt (C : Cx sh p s m args meth c cc nL ret own D cA ad A) {x : Int32} {off : Int} (tgt : Nat) (hd : decode cc pc = .ok (.ifCond .lt off, 3)) (ht : (pc : Int) + off = (tgt : Int)) (kt : x < 0 → Z sh p l e R s m args below meth c D cA ad A cells slots Q u tgt ls rest) (kf : ¬ x < 0 → Z sh p l e R s m args below meth c D cA ad A cells slots Q u (pc + 3) ls rest) : Z sh p l e R s m args below meth c D cA ad A cells slots Q u pc ls (.int x :: rest) := fun H locs hP hS => lv_if_lt C.1 C.2.1 hd ht (fun h => kt h H locs hP hS) (fun h => kf h H locs hP hS)
theorem z_if_ge (C : Cx sh p s m args meth c cc nL ret own D cA ad A) {x : Int32} {off : Int} (tgt : Nat) (hd : decode cc pc = .ok (.ifCond .ge off, 3)) (ht : (pc : Int) + off = (tgt : Int)) (kt : 0 ≤ x → Z sh p l e R s m args below meth c D cA ad A cells slots Q u tgt ls rest) (kf : ¬ 0 ≤ x → Z sh p l e R s m args below meth c D cA ad A cells slots Q u (pc + 3) ls rest) : Z sh p l e R s m args below meth c D cA ad A cells slots Q u pc ls (.int x :: rest) := fun H locs hP hS => lv_if_ge C.1 C.2.1 hd ht (fun h => kt h H locs hP hS) (fun h => kf h H locs hP hS)
theorem z_if_gt (C : Cx sh p s m args meth c cc nL ret own D cA ad A) {x : Int32} {off : Int} (tgt : Nat) (hd : decode cc pc = .ok (.ifCond .gt off, 3)) (ht : (pc : Int) + off = (tgt : Int)) (kt : 0 < x → Z sh p l e R s m args below meth c D cA ad A cells slots Q u tgt ls rest) (kf : ¬ 0 < x → Z sh p l e R s m args below meth c D cA ad A cells slots Q u (pc + 3) ls rest) : Z sh p l e R s m args below meth c D cA ad A cells slots Q u pc ls (.int x :: rest) := fun H locs hP hS => lv_if_gt C.1 C.2.1 hd ht (fun h => kt h H locs hP hS) (fun h => kf h H locs hP hS)
theorem z_if_le (C : Cx sh p s m args meth c cc nL ret own D cA ad A) {x : Int32} {off : Int} (tgt : Nat) (hd : decode cc pc = .ok (.ifCond .le off, 3)) (ht : (pc : Int) + off = (tgt : Int)) (kt : x ≤ 0 → Z sh p l e R s m args below meth c D cA ad A cells slots Q u tgt ls rest) (kf : ¬ x ≤ 0 → Z sh p l e R s m args below meth c D cA ad A cells slots Q u (pc + 3) ls rest) : Z sh p l e R s m args below meth c D cA ad A cells slots Q u pc ls (.int x :: rest) := fun H locs hP hS => lv_if_le C.1 C.2.1 hd ht (fun h => kt h H locs hP hS) (fun h => kf h H locs hP hS)
theorem z_iinc (C : Cx sh p s m args meth c cc nL ret own D cA ad A) {i k : Nat} {n : Int} {x : Int32} (v : Int32) {lv : List (Nat × Value)} (lv' : List (Nat × Value)) (hl : lv_has ls nL lv) (hd : decode cc pc = .ok (.iinc i n, 3)) (hk : lv[k]? = some (i, .int x)) (hv : x + Int32.ofInt n = v) (hn : i < nL) (hf : (i, Value.int v) :: lv.filter (fun q => !(q.1 == i) && !(q.1 + 1 == i && q.2.category == 2)) = lv') (kk : ∀ ls' : Array Slot, lv_has ls' nL lv' → Z sh p l e R s m args below meth c D cA ad A cells slots Q u (pc + 3) ls' rest) : Z sh p l e R s m args below meth c D cA ad A cells slots Q u pc ls rest := fun H locs hP hS => lv_iinc (k := k) C.1 C.2.1 hd hl hk hv hn hf (fun ls' h' => kk ls' h' H locs hP hS)
theorem z_goto (C : Cx sh p s m args meth c cc nL ret own D cA ad A) {off : Int} (tgt : Nat) (hd : decode cc pc = .ok (.goto off, 3)) (ht : (pc : Int) + off = (tgt : Int)) (k : Z sh p l e R s m args below meth c D cA ad A cells slots Q u tgt ls rest) : Z sh p l e R s m args below meth c D cA ad A cells slots Q u pc ls rest := fun H locs hP hS => lv_goto C.1 C.2.1 hd ht (k H locs hP hS)
theorem z_lcmp (C : Cx sh p s m args meth c cc nL ret own D cA ad A) {x y : Int64} (hd : decode cc pc = .ok (.lcmp, 1)) (k : Z sh p l e R s m args below meth c D cA ad A cells slots Q u (pc + 1) ls (.int (lg_cmp x y) :: rest)) : Z sh p l e R s m args below meth c D cA ad A cells slots Q u pc ls (.long y :: .long x :: rest) := fun H locs hP hS => W.lcmp C.1 C.2.1 hd (k H locs hP hS)
theorem z_tIn (C : Cx sh p s m args meth c cc nL ret own D cA ad A) {dflt lo hi : Int} {offs : Array Int} {len : Nat} {x : Int32} {off : Int} (tgt : Nat) (hd : decode cc pc = .ok (.tableswitch dflt lo hi offs, len)) (h1 : ¬ x.toInt < lo) (h2 : ¬ hi < x.toInt) (ho : offs[(x.toInt - lo).toNat]? = some off) (ht : (pc : Int) + off = (tgt : Int)) (k : Z sh p l e R s m args below meth c D cA ad A cells slots Q u tgt ls rest) : Z sh p l e R s m args below meth c D cA ad A cells slots Q u pc ls (.int x :: rest) := fun H locs hP hS => lv_tableIn C.1 C.2.1 hd h1 h2 ho ht (k H locs hP hS)
theorem z_tOut (C : Cx sh p s m args meth c cc nL ret own D cA ad A) {dflt lo hi : Int} {offs : Array Int} {len : Nat} {x : Int32} (tgt : Nat) (hd : decode cc pc = .ok (.tableswitch dflt lo hi offs, len)) (h : x.toInt < lo ∨ hi < x.toInt) (ht : (pc : Int) + dflt = (tgt : Int)) (k : Z sh p l e R s m args below meth c D cA ad A cells slots Q u tgt ls rest) : Z sh p l e R s m args below meth c D cA ad A cells slots Q u pc ls (.int x :: rest) := fun H locs hP hS => lv_tableOut C.1 C.2.1 hd h ht (k H locs hP hS)
theorem z_dup (C : Cx sh p s m args meth c cc nL ret own D cA ad A) {va : Value} (hd : decode cc pc = .ok (.dup, 1)) (h1 : va.category = 1) (k : Z sh p l e R s m args below meth c D cA ad A cells slots Q u (pc + 1) ls (va :: va :: rest)) : Z sh p l e R s m args below meth c D cA ad A cells slots Q u pc ls (va :: rest) := fun H locs hP hS => lv_dup C.1 C.2.1 hd h1 (k H locs hP hS)
theorem z_dup2 (C : Cx sh p s m args meth c cc nL ret own D cA ad A) {va vb : Value} (hd : decode cc pc = .ok (.dup2, 1)) (h1 : va.category = 1) (h2 : vb.category = 1) (k : Z sh p l e R s m args below meth c D cA ad A cells slots Q u (pc + 1) ls (va :: vb :: va :: vb :: rest)) : Z sh p l e R s m args below meth c D cA ad A cells slots Q u pc ls (va :: vb :: rest) := fun H locs hP hS => lv_dup2_11 C.1 C.2.1 hd h1 h2 (k H locs hP hS)
theorem z_pop (C : Cx sh p s m args meth c cc nL ret own D cA ad A) {va : Value} (hd : decode cc pc = .ok (.pop, 1)) (h1 : va.category = 1) (k : Z sh p l e R s m args below meth c D cA ad A cells slots Q u (pc + 1) ls rest) : Z sh p l e R s m args below meth c D cA ad A cells slots Q u pc ls (va :: rest) := fun H locs hP hS => lv_pop C.1 C.2.1 hd h1 (k H locs hP hS)
/-- a field's words: the link, the class's layout -/
def Fw (own : String) (index ci k : Nat) : Prop := ∃ (CN : String) (T : u_T) (N : Nat), classes[ci]? = some (CN, T, N) ∧ k < N ∧ (∀ w ∈ u_ws CN T N, w ∈ LW) ∧ Cond.fieldLink own index (T k).1 (T k).2.1 (T k).2.2.1 ∈ LW
theorem z_get (C : Cx sh p s m args meth c cc nL ret own D cA ad A) {index ci k q cd : Nat} {fc : List Nat} (hF : Fw own index ci k) (hs : sh[q]? = some (0, ci, fc)) (hc : fc[k]? = some cd) (hd : decode cc pc = .ok (.getfield index, 3)) (kk : Z sh p l e R s m args below meth c D cA ad A cells slots Q u (pc + 3) ls (fv ad u q k cd :: rest)) : Z sh p l e R s m args below meth c D cA ad A cells slots Q u pc ls (.ref (ad q) :: rest) := fun H locs hP hS => by
  obtain ⟨CN, T, N, h1, h2, h3, h4⟩ := hF
  refine va_get (D := D) (ci := ci) (v := fv ad u q k cd) (C := CN) (T := T) (N := N) C.1 C.2.1 C.2.2.2.2.2.1 h3 C.2.2.2.2.1 C.2.2.2.2.2.2.2.1 hP q (wld_at hs) h1 k h2 (C.2.2.2.2.2.1 _ h4) (fun _ h9 => h9) ?_ hd (kk H locs hP hS)
  show (fc.mapIdx (fun k c => fv ad u q k c))[k]? = _
  simp [List.getElem?_mapIdx, hc]
theorem z_geti (C : Cx sh p s m args meth c cc nL ret own D cA ad A) {index ci : Nat} (q k : Nat) {fc : List Nat} (hF : Fw own index ci k) (hs : sh[q]? = some (0, ci, fc)) (hc : fc[k]? = some 0) (hd : decode cc pc = .ok (.getfield index, 3)) (kk : Z sh p l e R s m args below meth c D cA ad A cells slots Q u (pc + 3) ls (.int (u.1 q k) :: rest)) : Z sh p l e R s m args below meth c D cA ad A cells slots Q u pc ls (.ref (ad q) :: rest) := z_get C hF hs hc hd kk
theorem z_getl (C : Cx sh p s m args meth c cc nL ret own D cA ad A) {index ci : Nat} (q k : Nat) {fc : List Nat} (hF : Fw own index ci k) (hs : sh[q]? = some (0, ci, fc)) (hc : fc[k]? = some 1) (hd : decode cc pc = .ok (.getfield index, 3)) (kk : Z sh p l e R s m args below meth c D cA ad A cells slots Q u (pc + 3) ls (.long (u.2 q k) :: rest)) : Z sh p l e R s m args below meth c D cA ad A cells slots Q u pc ls (.ref (ad q) :: rest) := z_get C hF hs hc hd kk
theorem z_getr (C : Cx sh p s m args meth c cc nL ret own D cA ad A) {index ci : Nat} (q k j : Nat) {fc : List Nat} (hF : Fw own index ci k) (hs : sh[q]? = some (0, ci, fc)) (hc : fc[k]? = some (j + 4)) (hd : decode cc pc = .ok (.getfield index, 3)) (kk : Z sh p l e R s m args below meth c D cA ad A cells slots Q u (pc + 3) ls (.ref (ad j) :: rest)) : Z sh p l e R s m args below meth c D cA ad A cells slots Q u pc ls (.ref (ad q) :: rest) := z_get C hF hs hc hd kk
theorem z_getd (C : Cx sh p s m args meth c cc nL ret own D cA ad A) {index ci : Nat} (q k : Nat) {fc : List Nat} (hF : Fw own index ci k) (hs : sh[q]? = some (0, ci, fc)) (hc : fc[k]? = some 3) (hd : decode cc pc = .ok (.getfield index, 3)) (kk : Z sh p l e R s m args below meth c D cA ad A cells slots Q u (pc + 3) ls (.ref (ad (u.1 q k).toNatClampNeg) :: rest)) : Z sh p l e R s m args below meth c D cA ad A cells slots Q u pc ls (.ref (ad q) :: rest) := z_get C hF hs hc hd kk
def Pw (own : String) (index ci k : Nat) (ty : FieldType) : Prop := ∃ (CN : String) (T : u_T) (N : Nat) (ty0 : Nat → FieldType), classes[ci]? = some (CN, T, N) ∧ k < N ∧ (∀ w ∈ u_ws CN T N, w ∈ LW) ∧ Cond.fieldLink own index (T k).1 (T k).2.1 (T k).2.2.1 ∈ LW ∧ (∀ k, k < N → parseFieldDescriptor (T k).2.2.1 = some (ty0 k)) ∧ (∀ a, a < N → ∀ b, b < N → a ≠ b → (T a).2.1 ≠ (T b).2.1) ∧ (T k).2.2.2 = false ∧ ty0 k = ty
theorem z_put (C : Cx sh p s m args meth c cc nL ret own D cA ad A) {index ci : Nat} {u' : St} {q k : Nat} {v : Value} {fc : List Nat} {ty : FieldType} (hF : Pw own index ci k ty) (hs : sh[q]? = some (0, ci, fc)) (hk : k < fc.length) (hn : narrow ty v = v) (hfit : fits ty v = true) (he : (fc.mapIdx (fun k c => fv ad u q k c)).set k v = fc.mapIdx (fun j c => fv ad u' q j c)) (h1 : ∀ j, j ≠ q → u.1 j = u'.1 j) (h2 : ∀ j, j ≠ q → u.2 j = u'.2 j) (hd : decode cc pc = .ok (.putfield index, 3)) (kk : Z sh p l e R s m args below meth c D cA ad A cells slots Q u' (pc + 3) ls rest) : Z sh p l e R s m args below meth c D cA ad A cells slots Q u pc ls (v :: .ref (ad q) :: rest) := fun H locs hP hS => by
  obtain ⟨CN, T, N, ty0, g1, g2, g3, g4, g5, g6, g7, g8⟩ := hF
  refine va_put (D := D) (ci := ci) (v := v) (ty := ty) (C := CN) (T := T) (N := N) C.1 C.2.1 C.2.2.2.2.2.1 g3 ty0 g5 g6 C.2.2.2.2.1 C.2.2.2.2.2.2.2.1 hP (wld_D C.2.2.2.2.2.2.2.2.2.1 C.2.2.2.2.2.2.2.2.2.2 u) hS q (wld_at hs) g1 k g2 (C.2.2.2.2.2.1 _ g4) (fun _ h9 => h9) g7 (by rw [g5 k g2, g8]) hn hfit ?_ hd (fun H1 locs1 hP1 hD1 hS1 => ?_)
  · show k < (fc.mapIdx (fun k c => fv ad u q k c)).length
    rw [List.length_mapIdx]; exact hk
  · refine kk H1 locs1 ?_ hS1
    rw [← wld_set hs h1 h2 (show (Sum.inr (ci, fc.mapIdx (fun j c => fv ad u' q j c)) : va_E) = clo cA ad (0, ci, fc) u' q from rfl), ← he]
    exact hP1
theorem z_puti (C : Cx sh p s m args meth c cc nL ret own D cA ad A) {index ci : Nat} (q k : Nat) {x : Int32} {fc : List Nat} (hF : Pw own index ci k .int) (hs : sh[q]? = some (0, ci, fc)) (hc : fc[k]? = some 0) (hd : decode cc pc = .ok (.putfield index, 3)) (kk : Z sh p l e R s m args below meth c D cA ad A cells slots Q (wr u q k x) (pc + 3) ls rest) : Z sh p l e R s m args below meth c D cA ad A cells slots Q u pc ls (.int x :: .ref (ad q) :: rest) := z_put C hF hs (List.getElem?_eq_some_iff.mp hc).1 rfl rfl (fv_set hc) (wr_o u q k x) (fun _ _ => rfl) hd kk
theorem nar_z {x : Int32} (hx : x = 0 ∨ x = 1) : narrow .boolean (.int x) = .int x ∧ fits .boolean (.int x) = true := by
  rcases hx with rfl | rfl <;> exact ⟨by decide, by decide⟩
theorem z_putz (C : Cx sh p s m args meth c cc nL ret own D cA ad A) {index ci : Nat} (q k : Nat) {x : Int32} {fc : List Nat} (hF : Pw own index ci k .boolean) (hx : x = 0 ∨ x = 1) (hs : sh[q]? = some (0, ci, fc)) (hc : fc[k]? = some 0) (hd : decode cc pc = .ok (.putfield index, 3)) (kk : Z sh p l e R s m args below meth c D cA ad A cells slots Q (wr u q k x) (pc + 3) ls rest) : Z sh p l e R s m args below meth c D cA ad A cells slots Q u pc ls (.int x :: .ref (ad q) :: rest) := z_put C hF hs (List.getElem?_eq_some_iff.mp hc).1 (nar_z hx).1 (nar_z hx).2 (fv_set hc) (wr_o u q k x) (fun _ _ => rfl) hd kk
theorem z_putl (C : Cx sh p s m args meth c cc nL ret own D cA ad A) {index ci : Nat} (q k : Nat) {x : Int64} {fc : List Nat} (hF : Pw own index ci k .long) (hs : sh[q]? = some (0, ci, fc)) (hc : fc[k]? = some 1) (hd : decode cc pc = .ok (.putfield index, 3)) (kk : Z sh p l e R s m args below meth c D cA ad A cells slots Q (wl u q k x) (pc + 3) ls rest) : Z sh p l e R s m args below meth c D cA ad A cells slots Q u pc ls (.long x :: .ref (ad q) :: rest) := z_put C hF hs (List.getElem?_eq_some_iff.mp hc).1 rfl rfl (fv_setL hc) (fun _ _ => rfl) (wl_o u q k x) hd kk
theorem z_putd (C : Cx sh p s m args meth c cc nL ret own D cA ad A) {index ci : Nat} (q k r : Nat) {cn : String} {fc : List Nat} (hr : r < 2 ^ 31) (hF : Pw own index ci k (.object cn)) (hs : sh[q]? = some (0, ci, fc)) (hc : fc[k]? = some 3) (hd : decode cc pc = .ok (.putfield index, 3)) (kk : Z sh p l e R s m args below meth c D cA ad A cells slots Q (wr u q k (nI r)) (pc + 3) ls rest) : Z sh p l e R s m args below meth c D cA ad A cells slots Q u pc ls (.ref (ad r) :: .ref (ad q) :: rest) := z_put C hF hs (List.getElem?_eq_some_iff.mp hc).1 rfl rfl (fv_setR hr hc) (wr_o u q k (nI r)) (fun _ _ => rfl) hd kk
theorem z_iald (C : Cx sh p s m args meth c cc nL ret own D cA ad A) (q n : Nat) {i : Int32} {xs : List Nat} (hs : sh[q]? = some (1, n, xs)) (hi : ¬ (i < 0 ∨ n ≤ i.toNatClampNeg)) (hd : decode cc pc = .ok (.iaload, 1)) (kk : Z sh p l e R s m args below meth c D cA ad A cells slots Q u (pc + 1) ls (.int (u.1 q i.toNatClampNeg) :: rest)) : Z sh p l e R s m args below meth c D cA ad A cells slots Q u pc ls (.int i :: .ref (ad q) :: rest) := fun H locs hP hS => va_iald C.1 C.2.1 C.2.2.2.2.2.2.2.1 hP q 0 (wld_at hs) rfl hi hd (kk H locs hP hS)
theorem z_zald (C : Cx sh p s m args meth c cc nL ret own D cA ad A) (q n : Nat) {i : Int32} {xs : List Nat} (hs : sh[q]? = some (2, n, xs)) (hi : ¬ (i < 0 ∨ n ≤ i.toNatClampNeg)) (hd : decode cc pc = .ok (.baload, 1)) (kk : Z sh p l e R s m args below meth c D cA ad A cells slots Q u (pc + 1) ls (.int (u.1 q i.toNatClampNeg) :: rest)) : Z sh p l e R s m args below meth c D cA ad A cells slots Q u pc ls (.int i :: .ref (ad q) :: rest) := fun H locs hP hS => va_zald C.1 C.2.1 C.2.2.2.2.2.2.2.1 hP q 1 (wld_at hs) rfl hi hd (kk H locs hP hS)
theorem z_bald (C : Cx sh p s m args meth c cc nL ret own D cA ad A) (q n : Nat) {i : Int32} {xs : List Nat} (hs : sh[q]? = some (3, n, xs)) (hi : ¬ (i < 0 ∨ n ≤ i.toNatClampNeg)) (hd : decode cc pc = .ok (.baload, 1)) (kk : Z sh p l e R s m args below meth c D cA ad A cells slots Q u (pc + 1) ls (.int (u.1 q i.toNatClampNeg) :: rest)) : Z sh p l e R s m args below meth c D cA ad A cells slots Q u pc ls (.int i :: .ref (ad q) :: rest) := fun H locs hP hS => va_bald C.1 C.2.1 C.2.2.2.2.2.2.2.1 hP q 2 (wld_at hs) rfl hi hd (kk H locs hP hS)
theorem z_lald (C : Cx sh p s m args meth c cc nL ret own D cA ad A) (q n : Nat) {i : Int32} {xs : List Nat} (hs : sh[q]? = some (4, n, xs)) (hi : ¬ (i < 0 ∨ n ≤ i.toNatClampNeg)) (hd : decode cc pc = .ok (.laload, 1)) (kk : Z sh p l e R s m args below meth c D cA ad A cells slots Q u (pc + 1) ls (.long (u.2 q i.toNatClampNeg) :: rest)) : Z sh p l e R s m args below meth c D cA ad A cells slots Q u pc ls (.int i :: .ref (ad q) :: rest) := fun H locs hP hS => va_lald C.1 C.2.1 C.2.2.2.2.2.2.2.1 hP q 3 (wld_at hs) rfl hi hd (kk H locs hP hS)
theorem z_aald (C : Cx sh p s m args meth c cc nL ret own D cA ad A) (q n j : Nat) {i : Int32} {xs : List Nat} (hs : sh[q]? = some (5, n, xs)) (hi : ¬ (i < 0 ∨ n ≤ i.toNatClampNeg)) (hj : xs[i.toNatClampNeg]? = some j) (hd : decode cc pc = .ok (.aaload, 1)) (kk : Z sh p l e R s m args below meth c D cA ad A cells slots Q u (pc + 1) ls (.ref (ad j) :: rest)) : Z sh p l e R s m args below meth c D cA ad A cells slots Q u pc ls (.int i :: .ref (ad q) :: rest) := fun H locs hP hS => by
  have hlt : i.toNatClampNeg < n := Nat.not_le.mp fun q => hi (Or.inr q)
  refine W.aald (v := .ref (ad j)) (ty := .array .int) C.1 C.2.1 (hP q _ (wld_at hs)) ((C.2.2.2.2.2.2.2.1.2 4 _ rfl).1 n (fun k => va_rf ((xs[k]?).map ad))) rfl (fun q => by cases q) (by show ¬ (i < 0 ∨ (arrV _ _ _).slots.size ≤ _); rw [arrV_size]; exact hi) (by show (arrV _ _ _).slots[_]? = _; rw [arrV_read _ _ hlt]; show some (va_rf ((xs[i.toNatClampNeg]?).map ad)) = _; rw [hj]; rfl) rfl rfl hd (kk H locs hP hS)
theorem z_alen (C : Cx sh p s m args meth c cc nL ret own D cA ad A) (q n : Nat) (v : Int32) {xs : List Nat} (hs : sh[q]? = some (1, n, xs)) (hv : Int32.ofNat n = v) (hd : decode cc pc = .ok (.arraylength, 1)) (kk : Z sh p l e R s m args below meth c D cA ad A cells slots Q u (pc + 1) ls (.int v :: rest)) : Z sh p l e R s m args below meth c D cA ad A cells slots Q u pc ls (.ref (ad q) :: rest) := fun H locs hP hS => va_alen C.1 C.2.1 C.2.2.2.2.2.2.2.1 hP q 0 (wld_at hs) rfl hv hd (kk H locs hP hS)
theorem z_iast (C : Cx sh p s m args meth c cc nL ret own D cA ad A) (q n : Nat) {i x : Int32} {xs : List Nat} (hs : sh[q]? = some (1, n, xs)) (hi : ¬ (i < 0 ∨ n ≤ i.toNatClampNeg)) (hd : decode cc pc = .ok (.iastore, 1)) (kk : Z sh p l e R s m args below meth c D cA ad A cells slots Q (wr u q i.toNatClampNeg x) (pc + 1) ls rest) : Z sh p l e R s m args below meth c D cA ad A cells slots Q u pc ls (.int x :: .int i :: .ref (ad q) :: rest) := fun H locs hP hS => va_iast C.1 C.2.1 C.2.2.2.2.2.2.2.1 hP (wld_D C.2.2.2.2.2.2.2.2.2.1 C.2.2.2.2.2.2.2.2.2.2 u) hS q 0 (wld_at hs) rfl hi hd (fun H1 locs1 hP1 _ hS1 => kk H1 locs1 (by
  rw [← wld_set hs (wr_o u q i.toNatClampNeg x) (fun _ _ => rfl) (show (Sum.inl (cA 1, n, .inl (upd (u.1 q) i.toNatClampNeg x)) : va_E) = clo cA ad (1, n, xs) (wr u q i.toNatClampNeg x) q by rw [← wr_u]; rfl)]
  exact hP1) hS1)
theorem z_zast (C : Cx sh p s m args meth c cc nL ret own D cA ad A) (q n : Nat) {i x : Int32} {xs : List Nat} (hs : sh[q]? = some (2, n, xs)) (hi : ¬ (i < 0 ∨ n ≤ i.toNatClampNeg)) (hd : decode cc pc = .ok (.bastore, 1)) (kk : Z sh p l e R s m args below meth c D cA ad A cells slots Q (wr u q i.toNatClampNeg (vp_nar .boolean x)) (pc + 1) ls rest) : Z sh p l e R s m args below meth c D cA ad A cells slots Q u pc ls (.int x :: .int i :: .ref (ad q) :: rest) := fun H locs hP hS => va_zast C.1 C.2.1 C.2.2.2.2.2.2.2.1 hP (wld_D C.2.2.2.2.2.2.2.2.2.1 C.2.2.2.2.2.2.2.2.2.2 u) hS q 1 (wld_at hs) rfl hi hd (fun H1 locs1 hP1 _ hS1 => kk H1 locs1 (by
  rw [← wld_set hs (wr_o u q i.toNatClampNeg _) (fun _ _ => rfl) (show (Sum.inl (cA 2, n, .inl (upd (u.1 q) i.toNatClampNeg (vp_nar .boolean x))) : va_E) = clo cA ad (2, n, xs) (wr u q i.toNatClampNeg (vp_nar .boolean x)) q by rw [← wr_u]; rfl)]
  exact hP1) hS1)
theorem z_bast (C : Cx sh p s m args meth c cc nL ret own D cA ad A) (q n : Nat) {i x : Int32} {xs : List Nat} (hs : sh[q]? = some (3, n, xs)) (hi : ¬ (i < 0 ∨ n ≤ i.toNatClampNeg)) (hd : decode cc pc = .ok (.bastore, 1)) (kk : Z sh p l e R s m args below meth c D cA ad A cells slots Q (wr u q i.toNatClampNeg (vp_nar .byte x)) (pc + 1) ls rest) : Z sh p l e R s m args below meth c D cA ad A cells slots Q u pc ls (.int x :: .int i :: .ref (ad q) :: rest) := fun H locs hP hS => va_bast C.1 C.2.1 C.2.2.2.2.2.2.2.1 hP (wld_D C.2.2.2.2.2.2.2.2.2.1 C.2.2.2.2.2.2.2.2.2.2 u) hS q 2 (wld_at hs) rfl hi hd (fun H1 locs1 hP1 _ hS1 => kk H1 locs1 (by
  rw [← wld_set hs (wr_o u q i.toNatClampNeg _) (fun _ _ => rfl) (show (Sum.inl (cA 3, n, .inl (upd (u.1 q) i.toNatClampNeg (vp_nar .byte x))) : va_E) = clo cA ad (3, n, xs) (wr u q i.toNatClampNeg (vp_nar .byte x)) q by rw [← wr_u]; rfl)]
  exact hP1) hS1)
theorem z_last (C : Cx sh p s m args meth c cc nL ret own D cA ad A) (q n : Nat) {i : Int32} {x : Int64} {xs : List Nat} (hs : sh[q]? = some (4, n, xs)) (hi : ¬ (i < 0 ∨ n ≤ i.toNatClampNeg)) (hd : decode cc pc = .ok (.lastore, 1)) (kk : Z sh p l e R s m args below meth c D cA ad A cells slots Q (wl u q i.toNatClampNeg x) (pc + 1) ls rest) : Z sh p l e R s m args below meth c D cA ad A cells slots Q u pc ls (.long x :: .int i :: .ref (ad q) :: rest) := fun H locs hP hS => va_last C.1 C.2.1 C.2.2.2.2.2.2.2.1 hP (wld_D C.2.2.2.2.2.2.2.2.2.1 C.2.2.2.2.2.2.2.2.2.2 u) hS q 3 (wld_at hs) rfl hi hd (fun H1 locs1 hP1 _ hS1 => kk H1 locs1 (by
  rw [← wld_set (u := u) (v := wl u q i.toNatClampNeg x) hs (fun _ _ => rfl) (wl_o u q i.toNatClampNeg x) (show (Sum.inl (cA 4, n, .inr (.inl (vp_updL (u.2 q) i.toNatClampNeg x))) : va_E) = clo cA ad (4, n, xs) (wl u q i.toNatClampNeg x) q by rw [← wl_u]; rfl)]
  exact hP1) hS1)
/-- a call's end: the caller goes on in the callee's last state -/
theorem z_ret {cells slots : Nat} {g : JFrame} {H : Heap} {locs : List Loc} {u' : St} {r : Option Value} {aa : Array Value} (hA : ∀ q, inAd ad q → A q) (hg : g = F0 m pc ls (g.stack))
    (hr : va_Run p l e R s m args below meth c H locs cells slots 0 0 g rest (Qx D cA ad r u' aa) (inAd ad)) (hS : va_S A s.heap H locs) (kk : Z SH p l e R s m args below meth c D cA ad A cells slots Q u' (pc + 3) ls (r.toList ++ rest)) : W p l e R s m args below meth c H locs cells slots Q g := by
  intro T hT X
  obtain ⟨v, st₀, t, T', L, h0, X', hL, e1, e2, ⟨hv, hp, hz, hk⟩, st⟩ := hr T hT X
  cases hv
  rw [h0] at hz hk
  obtain ⟨t2, a1, b1⟩ := kk T'.heap (locs ++ L) (by rw [e1]; exact hp) ⟨Nat.le_trans hS.1 (by rw [e1]; exact hz), fun q h1 h2 => by rw [e1, hk q (Nat.lt_of_lt_of_le h1 hS.1) (fun z => h2 (hA q z))]; exact hS.2.1 q h1 h2, fun q hq => by
      rcases List.mem_append.mp hq with h | h
      · exact hS.2.2 q h
      · exact hA _ (hL q h)⟩ T' rfl X'
  refine ⟨t2, st t2 ?_, b1⟩
  rw [hg]
  exact a1
theorem Cx.inA (C : Cx SH p s m args meth c cc nL ret own D cA ad A) : ∀ q, inAd ad q → A q := fun q ⟨k, h1, h2⟩ => by rw [h2]; exact C.2.2.2.2.2.2.2.2.2.2 k h1
theorem Cx.pre (C : Cx SH p s m args meth c cc nL ret own D cA ad A) {H : Heap} {av : List Value} (hP : va_P D classes (wld SH cA ad u) H) : FrameBlind (va_Pc av (Wd D cA ad u)) ∧ ∀ U : State, U.heap = H → s.WarmedH U.vm → va_Pc av (Wd D cA ad u) av.toArray U := ⟨Wd.blind, fun U hU hW => ⟨rfl, by rw [hU]; exact hP, va_K.moved hW.alike C.2.2.2.2.2.2.2.1, C.2.2.2.2.2.2.2.2.1.warm hW⟩⟩
/-- a callee's words -/
def Cw (y : MethodName) (cc : ByteArray) (nL : Nat) (ret : Option FieldType) (n : Nat) : Prop := Cond.initialized y.cls ∈ LW ∧ Cond.code y cc nL ret ∈ LW ∧ (y.cls ≠ "java/lang/invoke/MethodHandle" ∧ y.cls ≠ "java/lang/invoke/VarHandle" ∧ (parseMethodDescriptor y.desc).map (fun d => d.parameters.length) = some n)
def Vw (y : MethodName) : Prop := Cond.instanceMethod y ∈ LW ∧ Cond.selects y.cls y y ∈ LW
theorem z_callV (C : Cx SH p s m args meth c cc nL ret own D cA ad A) {y : MethodName} {cc2 : ByteArray} {nL2 n index d q ci : Nat} {ret2 : Option FieldType} {ags : (Nat → Nat) → List Value} {r : (Nat → Nat) → Option Value} {u' : St} {T : u_T} {N : Nat} {fc : List Nat} {st : List Value} (As rest st' : List Value) (M : Mt y cc2 nL2 ret2 d ags u r u') (w1 : Cw y cc2 nL2 ret2 n) (w2 : Vw y) (w3 : Cond.methodLink own index y ∈ LW) (hs : SH[q]? = some (0, ci, fc)) (hcl : classes[ci]? = some (y.cls, T, N)) (ha : ags ad = .ref (ad q) :: As) (hn : As.length = n) (hst : st = As.reverse ++ .ref (ad q) :: rest) (hsz : ls.size = nL) (hW : (rest.map fun v => v.category).sum ≤ 8) (hR : d + 1 ≤ R.frames ∧ 8 + (nL2 + 11) + 60 * d ≤ R.locals) (hcs : cells ≤ R.cells ∧ slots ≤ R.slots) (hst' : st' = (r ad).toList ++ rest) (hd : decode cc pc = .ok (.invokevirtual index, 3)) (kk : Z SH p l e R s m args below meth c D cA ad A cells slots Q u' (pc + 3) ls st') : Z SH p l e R s m args below meth c D cA ad A cells slots Q u pc ls st := fun H locs hP hS => by
  subst hst'
  have hG : GoodIn LW (wsV own index y.cls y (.code y cc2 nL2 ret2 :: LW)) := goodLW _ (by
    intro w hw
    simp only [List.mem_cons, List.not_mem_nil, or_false] at hw
    rcases hw with rfl | rfl | rfl | rfl
    · exact w3
    · exact w2.1
    · exact w2.2
    · exact w1.1) w1.2.1
  have hpre := C.pre (av := ags ad) hP
  have hP2 := hpre.2
  rw [ha] at hP2
  refine z_ret (pc := pc) (ls := ls) (rest := rest) C.inA ?_ (va_runV (g := F0 m pc ls st) (As := As) (rest := rest) (C := y.cls) (b := ad q) ⟨C.1, C.2.1, C.2.2.2.1, C.2.2.2.2.1, C.2.2.2.2.2.1⟩ (M l D cA ad C.2.2.2.2.2.2.2.2.2.1) (cwV n C.2.2.2.2.2.1 hG rfl rfl rfl ⟨rfl, w1.2.2⟩ hR) ⟨hpre.1, va_recv C.2.2.2.2.2.2.2.1 hP hcl (wld_at hs), by rw [ha]; exact hP2⟩ rfl hn hsz hst (lv_room hW) hd hcs) hS kk
  rfl
theorem z_callS (C : Cx SH p s m args meth c cc nL ret own D cA ad A) {y : MethodName} {cc2 : ByteArray} {nL2 n index d : Nat} {ret2 : Option FieldType} {ags : (Nat → Nat) → List Value} {r : (Nat → Nat) → Option Value} {u' : St} {st : List Value} (As rest st' : List Value) (M : Mt y cc2 nL2 ret2 d ags u r u') (w1 : Cw y cc2 nL2 ret2 n) (w2 : Cond.static y ∈ LW) (w3 : Cond.methodLink own index y ∈ LW) (ha : ags ad = As) (hn : As.length = n) (hst : st = As.reverse ++ rest) (hsz : ls.size = nL) (hW : (rest.map fun v => v.category).sum ≤ 8) (hR : d + 1 ≤ R.frames ∧ 8 + (nL2 + 11) + 60 * d ≤ R.locals) (hcs : cells ≤ R.cells ∧ slots ≤ R.slots) (hst' : st' = (r ad).toList ++ rest) (hd : decode cc pc = .ok (.invokestatic index, 3)) (kk : Z SH p l e R s m args below meth c D cA ad A cells slots Q u' (pc + 3) ls st') : Z SH p l e R s m args below meth c D cA ad A cells slots Q u pc ls st := fun H locs hP hS => by
  subst hst'
  have hG : GoodIn LW (va_wsS own index y (.code y cc2 nL2 ret2 :: LW)) := goodLW _ (by
    intro w hw
    simp only [List.mem_cons, List.not_mem_nil, or_false] at hw
    rcases hw with rfl | rfl | rfl
    · exact w3
    · exact w2
    · exact w1.1) w1.2.1
  have hpre := C.pre (av := ags ad) hP
  have hP2 := hpre.2
  rw [ha] at hP2
  refine z_ret (pc := pc) (ls := ls) (rest := rest) C.inA ?_ (va_runS (g := F0 m pc ls st) (As := As) (rest := rest) ⟨C.1, C.2.1, C.2.2.2.1, C.2.2.2.2.1, C.2.2.2.2.2.1⟩ (M l D cA ad C.2.2.2.2.2.2.2.2.2.1) (va_cwS n C.2.2.2.2.2.1 hG rfl rfl rfl w1.2.2 hR) ⟨hpre.1, by rw [ha]; exact hP2⟩ rfl hn hsz hst (lv_room hW) hd hcs) hS kk
  rfl
theorem z_callSN (C : Cx SH p s m args meth c cc nL ret own D cA ad A) {y : MethodName} {host : String} {cc2 : ByteArray} {nL2 n index d : Nat} {ret2 : Option FieldType} {ags : (Nat → Nat) → List Value} {r : (Nat → Nat) → Option Value} {u' : St} {st : List Value} (As rest st' : List Value) (M : Mt y cc2 nL2 ret2 d ags u r u') (w1 : Cw y cc2 nL2 ret2 n) (w2 : Cond.static y ∈ LW) (w3 : (own, index, y, host) ∈ NWL) (ha : ags ad = As) (hn : As.length = n) (hst : st = As.reverse ++ rest) (hsz : ls.size = nL) (hW : (rest.map fun v => v.category).sum ≤ 8) (hR : d + 1 ≤ R.frames ∧ 8 + (nL2 + 11) + 60 * d ≤ R.locals) (hcs : cells ≤ R.cells ∧ slots ≤ R.slots) (hst' : st' = (r ad).toList ++ rest) (hd : decode cc pc = .ok (.invokestatic index, 3)) (kk : Z SH p l e R s m args below meth c D cA ad A cells slots Q u' (pc + 3) ls st') : Z SH p l e R s m args below meth c D cA ad A cells slots Q u pc ls st := fun H locs hP hS => by
  subst hst'
  have hG : GoodIn LW (.code y cc2 nL2 ret2 :: LW) := goodLW [] (by intro w hw; cases hw) w1.2.1
  have hpre := C.pre (av := ags ad) hP
  have hP2 := hpre.2
  rw [ha] at hP2
  refine z_ret (pc := pc) (ls := ls) (rest := rest) C.inA ?_ (va_runSN (g := F0 m pc ls st) (As := As) (rest := rest) ⟨C.1, C.2.1, C.2.2.2.1, C.2.2.2.2.1, C.2.2.2.2.2.1⟩ (M l D cA ad C.2.2.2.2.2.2.2.2.2.1) ⟨va_cnB n C.2.2.2.2.2.1 hG rfl rfl rfl (C.2.2.2.2.2.2.2.2.1 _ w3) (C.2.2.2.2.2.1 _ w1.1) w1.2.2 hR, C.2.2.2.2.2.1 _ w2, trivial⟩ ⟨hpre.1, by rw [ha]; exact hP2⟩ rfl hn hsz hst (lv_room hW) hd hcs) hS kk
  rfl
end ZROWS
section ZENDS
variable {p : Program} {l : Launch} {e : Env} {R : Room} {s : State} {m : MethodId} {args : Array Value} {below : List Frame} {meth : Method} {c : Code} {cc : ByteArray} {nL : Nat} {own : String} {D : va_G} {cA : Nat → ClassId} {ad : Nat → Nat} {u : St} {pc : Nat} {ls : Array Slot}
theorem z_iret {v : Int32} (C : Cx SH p s m args meth c cc nL (some .int) own D cA ad (inAd ad)) (hd : decode cc pc = .ok (.ireturn, 1)) : Z SH p l e R s m args below meth c D cA ad (inAd ad) 0 0 (MQ below (Qx D cA ad (some (.int v)) u) args s 0 0 (inAd ad)) u pc ls [.int v] := fun H locs hP hS => W.iret (v := v) C.1 C.2.1 C.2.2.1 (fun t ht hW => ⟨rfl, by rw [ht]; exact hP, hS.F ht⟩) hS.2.2 hd C.2.2.2.2.2.2.1
theorem z_zret {v : Int32} (hv : v = 0 ∨ v = 1) (C : Cx SH p s m args meth c cc nL (some .boolean) own D cA ad (inAd ad)) (hd : decode cc pc = .ok (.ireturn, 1)) : Z SH p l e R s m args below meth c D cA ad (inAd ad) 0 0 (MQ below (Qx D cA ad (some (.int v)) u) args s 0 0 (inAd ad)) u pc ls [.int v] := fun H locs hP hS => W.zret (v := v) C.1 C.2.1 C.2.2.1 (nar_z hv).1 (fun t ht hW => ⟨rfl, by rw [ht]; exact hP, hS.F ht⟩) hS.2.2 hd C.2.2.2.2.2.2.1
theorem z_lret {v : Int64} (C : Cx SH p s m args meth c cc nL (some .long) own D cA ad (inAd ad)) (hd : decode cc pc = .ok (.lreturn, 1)) : Z SH p l e R s m args below meth c D cA ad (inAd ad) 0 0 (MQ below (Qx D cA ad (some (.long v)) u) args s 0 0 (inAd ad)) u pc ls [.long v] := fun H locs hP hS => W.lret (v := v) C.1 C.2.1 C.2.2.1 (fun t ht hW => ⟨rfl, by rw [ht]; exact hP, hS.F ht⟩) hS.2.2 hd C.2.2.2.2.2.2.1
theorem z_vret (C : Cx SH p s m args meth c cc nL none own D cA ad (inAd ad)) (hd : decode cc pc = .ok (.return_, 1)) : Z SH p l e R s m args below meth c D cA ad (inAd ad) 0 0 (MQ below (Qx D cA ad none u) args s 0 0 (inAd ad)) u pc ls [] := fun H locs hP hS => W.vret C.1 C.2.1 C.2.2.1 (fun t ht hW => ⟨rfl, by rw [ht]; exact hP, hS.F ht⟩) hS.2.2 hd C.2.2.2.2.2.2.1
theorem z_aret {a : Nat} {cn : String} (C : Cx SH p s m args meth c cc nL (some (.object cn)) own D cA ad (inAd ad)) (hd : decode cc pc = .ok (.areturn, 1)) : Z SH p l e R s m args below meth c D cA ad (inAd ad) 0 0 (MQ below (Qx D cA ad (some (.ref a)) u) args s 0 0 (inAd ad)) u pc ls [.ref a] := fun H locs hP hS => W.aret (v := .ref a) C.1 C.2.1 C.2.2.1 (Or.inl ⟨cn, rfl⟩) (Or.inr ⟨a, rfl⟩) (fun t ht hW => ⟨rfl, by rw [ht]; exact hP, hS.F ht⟩) hS.2.2 hd C.2.2.2.2.2.2.1
end ZENDS
/-- a method's contract out of its body's walk -/
theorem Mt.of {y : MethodName} {cc : ByteArray} {nL : Nat} {ret : Option FieldType} {d : Nat} {ags : (Nat → Nat) → List Value} {u u' : St} {r : (Nat → Nat) → Option Value} (hy : plainName y.cls = true) (hln : ∀ ad, (lg_sl (ags ad)).length ≤ nL)
    (body : ∀ (p : Program) (l : Launch) (e : Env) (s : State) (m : MethodId) (args : Array Value) (below : List Frame) (meth : Method) (c : Code) (D : va_G) (cA : Nat → ClassId) (ad : Nat → Nat) (ls : Array Slot), Cx SH p s m args meth c cc nL ret y.cls D cA ad (inAd ad) → lv_has ls nL (lv_args 0 (ags ad)) → Z SH p l e (rmD d) s m args below meth c D cA ad (inAd ad) 0 0 (MQ below (Qx D cA ad (r ad) u') args s 0 0 (inAd ad)) u 0 ls []) : Mt y cc nL ret d ags u r u' := by
  intro l D cA ad hin
  refine Met.ofW (cc := cc) (maxL := nL) (ret := ret) hy rfl ?_
  intro p e s m args below meth c s₁ B hml hv
  obtain ⟨rfl, hP, hK, hN⟩ := hv
  have hts := atoms_spec (ws := (.code y cc nL ret :: LW)) B.pre
  have hl := lv_entry (ags ad) (n := nL) (hln ad)
  rw [lg_entry_eq]
  refine body p l e s m _ below meth c D cA ad _ ⟨B.exec, B.bytes, B.returns, hml, findClass_of_methodNamed B.named, fun w hw => hts w (List.mem_cons_of_mem _ hw), B.notSynchronized, hK, hN, hin, fun q hq => ⟨q, hq, rfl⟩⟩ hl s.heap [] hP va_S.rf
end
section
theorem sh_0 : SH[0]? = some (0, 11, [5, 7, 8, 15, 20, 22, 25, 26, 31, 37, 3]) := rfl
theorem sh_1 : SH[1]? = some (0, 7, [6, 0]) := rfl
theorem sh_2 : SH[2]? = some (1, 300, []) := rfl
theorem sh_3 : SH[3]? = some (0, 6, [5, 0]) := rfl
theorem sh_4 : SH[4]? = some (0, 0, [9, 10, 3, 0, 0]) := rfl
theorem sh_5 : SH[5]? = some (1, 4096, []) := rfl
theorem sh_6 : SH[6]? = some (1, 12, []) := rfl
theorem sh_7 : SH[7]? = some (0, 1, [12, 13, 14, 0, 0]) := rfl
theorem sh_8 : SH[8]? = some (1, 144, []) := rfl
theorem sh_9 : SH[9]? = some (1, 144, []) := rfl
theorem sh_10 : SH[10]? = some (1, 144, []) := rfl
theorem sh_11 : SH[11]? = some (0, 10, [8, 16, 17, 18, 19, 0, 0, 0]) := rfl
theorem sh_12 : SH[12]? = some (1, 4096, []) := rfl
theorem sh_13 : SH[13]? = some (1, 4096, []) := rfl
theorem sh_14 : SH[14]? = some (1, 4096, []) := rfl
theorem sh_15 : SH[15]? = some (1, 4096, []) := rfl
theorem sh_16 : SH[16]? = some (0, 2, [8, 15, 21, 0, 0]) := rfl
theorem sh_17 : SH[17]? = some (1, 4096, []) := rfl
theorem sh_18 : SH[18]? = some (0, 3, [8, 15, 23, 24, 0, 0, 0]) := rfl
theorem sh_19 : SH[19]? = some (2, 4096, []) := rfl
theorem sh_20 : SH[20]? = some (1, 4096, []) := rfl
theorem sh_21 : SH[21]? = some (1, 12, []) := rfl
theorem sh_22 : SH[22]? = some (0, 4, [27, 28, 29, 30, 0, 0]) := rfl
theorem sh_23 : SH[23]? = some (1, 10, []) := rfl
theorem sh_24 : SH[24]? = some (1, 20, []) := rfl
theorem sh_25 : SH[25]? = some (1, 20, []) := rfl
theorem sh_26 : SH[26]? = some (1, 20, []) := rfl
theorem sh_27 : SH[27]? = some (0, 9, [26, 32, 33, 34, 35, 36, 0, 0, 0, 0, 0]) := rfl
theorem sh_28 : SH[28]? = some (0, 5, [0, 0]) := rfl
theorem sh_29 : SH[29]? = some (0, 5, [0, 0]) := rfl
theorem sh_30 : SH[30]? = some (0, 5, [0, 0]) := rfl
theorem sh_31 : SH[31]? = some (1, 10, []) := rfl
theorem sh_32 : SH[32]? = some (1, 10, []) := rfl
theorem sh_33 : SH[33]? = some (0, 8, [26, 38, 49, 0, 0, 0]) := rfl
theorem sh_34 : SH[34]? = some (5, 10, [35, 36, 37, 38, 39, 40, 41, 42, 43, 44]) := rfl
theorem sh_35 : SH[35]? = some (1, 201, []) := rfl
theorem sh_36 : SH[36]? = some (1, 201, []) := rfl
theorem sh_37 : SH[37]? = some (1, 201, []) := rfl
theorem sh_38 : SH[38]? = some (1, 201, []) := rfl
theorem sh_39 : SH[39]? = some (1, 201, []) := rfl
theorem sh_40 : SH[40]? = some (1, 201, []) := rfl
theorem sh_41 : SH[41]? = some (1, 201, []) := rfl
theorem sh_42 : SH[42]? = some (1, 201, []) := rfl
theorem sh_43 : SH[43]? = some (1, 201, []) := rfl
theorem sh_44 : SH[44]? = some (1, 201, []) := rfl
theorem sh_45 : SH[45]? = some (1, 20, []) := rfl
theorem sh_46 : SH[46]? = some (0, 1, [51, 52, 53, 0, 0]) := rfl
theorem sh_47 : SH[47]? = some (1, 144, []) := rfl
theorem sh_48 : SH[48]? = some (1, 144, []) := rfl
theorem sh_49 : SH[49]? = some (1, 144, []) := rfl
theorem sh_50 : SH[50]? = some (0, 12, [0, 55, 0, 56, 57, 58, 59, 60, 61, 0, 62, 63, 0, 64, 65, 66, 67, 0, 68, 69, 70, 71, 72, 73, 0, 0, 0, 0, 1, 1, 74, 75]) := rfl
theorem sh_51 : SH[51]? = some (3, 300, []) := rfl
theorem sh_52 : SH[52]? = some (1, 12, []) := rfl
theorem sh_53 : SH[53]? = some (1, 144, []) := rfl
theorem sh_54 : SH[54]? = some (1, 144, []) := rfl
theorem sh_55 : SH[55]? = some (1, 12, []) := rfl
theorem sh_56 : SH[56]? = some (1, 144, []) := rfl
theorem sh_57 : SH[57]? = some (1, 144, []) := rfl
theorem sh_58 : SH[58]? = some (2, 12, []) := rfl
theorem sh_59 : SH[59]? = some (2, 144, []) := rfl
theorem sh_60 : SH[60]? = some (1, 4096, []) := rfl
theorem sh_61 : SH[61]? = some (1, 4096, []) := rfl
theorem sh_62 : SH[62]? = some (1, 4096, []) := rfl
theorem sh_63 : SH[63]? = some (1, 4096, []) := rfl
theorem sh_64 : SH[64]? = some (2, 4096, []) := rfl
theorem sh_65 : SH[65]? = some (1, 12, []) := rfl
theorem sh_66 : SH[66]? = some (1, 10, []) := rfl
theorem sh_67 : SH[67]? = some (1, 20, []) := rfl
theorem sh_68 : SH[68]? = some (1, 20, []) := rfl
theorem sh_69 : SH[69]? = some (1, 20, []) := rfl
theorem sh_70 : SH[70]? = some (1, 2010, []) := rfl
theorem sh_71 : SH[71]? = some (1, 10, []) := rfl
theorem sh_72 : SH[72]? = some (4, 1, []) := rfl
def IsE (q : Nat) : Prop := q = 7 ∨ q = 46
def IsR (q : Nat) : Prop := q = 28 ∨ q = 29 ∨ q = 30
theorem shE {q : Nat} (h : IsE q) : SH[q]? = some (0, 1, [q + 1 + 4, q + 2 + 4, q + 3 + 4, 0, 0]) := by rcases h with rfl | rfl <;> rfl
theorem shE1 {q : Nat} (h : IsE q) : SH[q + 1]? = some (1, 144, []) := by rcases h with rfl | rfl <;> rfl
theorem shE2 {q : Nat} (h : IsE q) : SH[q + 2]? = some (1, 144, []) := by rcases h with rfl | rfl <;> rfl
theorem shE3 {q : Nat} (h : IsE q) : SH[q + 3]? = some (1, 144, []) := by rcases h with rfl | rfl <;> rfl
theorem IsE.lt {q : Nat} (h : IsE q) : q < 2 ^ 31 := by rcases h with rfl | rfl <;> decide
theorem shR {q : Nat} (h : IsR q) : SH[q]? = some (0, 5, [0, 0]) := by rcases h with rfl | rfl | rfl <;> rfl
theorem shB {i : Nat} (h : i < 10) : SH[35 + i]? = some (1, 201, []) := by
  have : ∀ i, i < 10 → SH[35 + i]? = some (1, 201, []) := by decide
  exact this i h
theorem shBo {i : Nat} (h : i < 10) : ([35, 36, 37, 38, 39, 40, 41, 42, 43, 44] : List Nat)[i]? = some (35 + i) := by
  have : ∀ i, i < 10 → ([35, 36, 37, 38, 39, 40, 41, 42, 43, 44] : List Nat)[i]? = some (35 + i) := by decide
  exact this i h
theorem gd {c : Prop} {α : Type} {a : Option α} {r : α} {h9 : Decidable c} (h : (if c then none else a) = some r) : ¬ c ∧ a = some r := by
  by_cases hc : c
  · rw [if_pos hc] at h; cases h
  · rw [if_neg hc] at h; exact ⟨hc, h⟩
theorem gp {c : Prop} {α : Type} {a : Option α} {r : α} {h9 : Decidable c} (h : (if c then a else none) = some r) : c ∧ a = some r := by
  by_cases hc : c
  · rw [if_pos hc] at h; exact ⟨hc, h⟩
  · rw [if_neg hc] at h; cases h
theorem bnd {α β : Type} {x : Option α} {f : α → Option β} {r : β} (h : x.bind f = some r) : ∃ w, x = some w ∧ f w = some r := by
  cases x with
  | none => cases h
  | some w => exact ⟨w, rfl, h⟩
theorem r2 {α β : Type} {a c : α} {b d : β} (h : some (a, b) = some (c, d)) : a = c ∧ b = d := by cases h; exact ⟨rfl, rfl⟩
theorem lay_of {C : String} {T : u_T} {N : Nat} (is : List Nat) (h : ((List.range N).all (fun k => decide (tables_1[is.getD k 0]? = some (u_lay C T k)) && goodWord (u_lay C T k))) = true) : ∀ w ∈ u_ws C T N, w ∈ LW := by
  intro w hw
  obtain ⟨k, hk, rfl⟩ := List.mem_map.mp hw
  have h1 := List.all_eq_true.mp h k hk
  simp only [Bool.and_eq_true, decide_eq_true_eq] at h1
  exact LW_i _ h1.1 h1.2
theorem lay_X0 : ∀ w ∈ u_ws RX0 TX0 5, w ∈ LW := lay_of [92, 94, 96, 98, 100] (by decide +kernel)
theorem lay_X1 : ∀ w ∈ u_ws RX1 TX1 5, w ∈ LW := lay_of [73, 75, 77, 79, 81] (by decide +kernel)
theorem lay_X2 : ∀ w ∈ u_ws RX2 TX2 5, w ∈ LW := lay_of [145, 147, 149, 151, 153] (by decide +kernel)
theorem lay_X3 : ∀ w ∈ u_ws RX3 TX3 7, w ∈ LW := lay_of [169, 171, 173, 175, 177, 179, 181] (by decide +kernel)
theorem lay_X4 : ∀ w ∈ u_ws RX4 TX4 6, w ∈ LW := lay_of [197, 199, 201, 203, 205, 207] (by decide +kernel)
theorem lay_X5 : ∀ w ∈ u_ws RX5 TX5 2, w ∈ LW := lay_of [224, 226] (by decide +kernel)
theorem lay_X6 : ∀ w ∈ u_ws RX6 TX6 2, w ∈ LW := lay_of [51, 53] (by decide +kernel)
theorem lay_X7 : ∀ w ∈ u_ws RX7 TX7 2, w ∈ LW := lay_of [37, 39] (by decide +kernel)
theorem lay_X8 : ∀ w ∈ u_ws RX8 TX8 6, w ∈ LW := lay_of [277, 279, 281, 283, 285, 287] (by decide +kernel)
theorem lay_X9 : ∀ w ∈ u_ws RX9 TX9 11, w ∈ LW := lay_of [240, 242, 244, 246, 248, 250, 252, 254, 256, 258, 260] (by decide +kernel)
theorem lay_X10 : ∀ w ∈ u_ws RX10 TX10 8, w ∈ LW := lay_of [117, 119, 121, 123, 125, 127, 129, 131] (by decide +kernel)
theorem lay_X11 : ∀ w ∈ u_ws RX11 TX11 11, w ∈ LW := lay_of [303, 305, 307, 309, 311, 313, 315, 317, 319, 321, 323] (by decide +kernel)
theorem lay_X12 : ∀ w ∈ u_ws RX12 TX12 32, w ∈ LW := lay_of [1007, 1009, 1011, 1013, 1015, 1017, 1019, 1021, 1023, 1025, 1027, 1029, 1031, 1033, 1035, 1037, 1039, 1041, 1043, 1045, 1047, 1049, 1051, 1053, 1055, 1057, 1059, 1061, 1063, 1065, 1067, 1069] (by decide +kernel)
theorem kw_J6_265 : Cond.constant RJ6 265 (1431655765) ∈ LW := LW_i 557 (by decide +kernel) rfl
theorem kw_J6_266 : Cond.constant RJ6 266 (858993459) ∈ LW := LW_i 558 (by decide +kernel) rfl
theorem kw_J6_267 : Cond.constant RJ6 267 (252645135) ∈ LW := LW_i 559 (by decide +kernel) rfl
theorem ml_L_15 : Cond.methodLink RL 15 yX11_init ∈ LW := LW_i 23 (by decide +kernel) rfl
theorem ml_L_18 : Cond.methodLink RL 18 yX12_init ∈ LW := LW_i 971 (by decide +kernel) rfl
theorem ml_L_128 : Cond.methodLink RL 128 yL_time ∈ LW := LW_i 858 (by decide +kernel) rfl
theorem ml_L_7 : Cond.methodLink RL 7 yX11_time ∈ LW := LW_i 862 (by decide +kernel) rfl
theorem ml_L_19 : Cond.methodLink RL 19 yX11_feed ∈ LW := LW_i 326 (by decide +kernel) rfl
theorem ml_L_23 : Cond.methodLink RL 23 yX12_feed ∈ LW := LW_i 1076 (by decide +kernel) rfl
theorem ml_L_24 : Cond.methodLink RL 24 yX11_end ∈ LW := LW_i 341 (by decide +kernel) rfl
theorem ml_L_28 : Cond.methodLink RL 28 yX12_end ∈ LW := LW_i 1087 (by decide +kernel) rfl
theorem ml_L_29 : Cond.methodLink RL 29 yX11_fault ∈ LW := LW_i 349 (by decide +kernel) rfl
theorem ml_L_33 : Cond.methodLink RL 33 yX12_fault ∈ LW := LW_i 1091 (by decide +kernel) rfl
theorem ml_L_34 : Cond.methodLink RL 34 yX11_circuit ∈ LW := LW_i 418 (by decide +kernel) rfl
theorem ml_L_37 : Cond.methodLink RL 37 yX12_circuit ∈ LW := LW_i 1114 (by decide +kernel) rfl
theorem ml_L_38 : Cond.methodLink RL 38 yX11_arbiter ∈ LW := LW_i 445 (by decide +kernel) rfl
theorem ml_L_42 : Cond.methodLink RL 42 yX12_arbiter ∈ LW := LW_i 1121 (by decide +kernel) rfl
theorem ml_L_43 : Cond.methodLink RL 43 yX11_stuck ∈ LW := LW_i 461 (by decide +kernel) rfl
theorem ml_L_47 : Cond.methodLink RL 47 yX12_stuck ∈ LW := LW_i 1128 (by decide +kernel) rfl
theorem ml_L_48 : Cond.methodLink RL 48 yX11_asked ∈ LW := LW_i 473 (by decide +kernel) rfl
theorem ml_L_52 : Cond.methodLink RL 52 yX12_asked ∈ LW := LW_i 1132 (by decide +kernel) rfl
theorem ml_L_53 : Cond.methodLink RL 53 yX11_states ∈ LW := LW_i 489 (by decide +kernel) rfl
theorem ml_L_56 : Cond.methodLink RL 56 yX12_states ∈ LW := LW_i 1140 (by decide +kernel) rfl
theorem ml_L_57 : Cond.methodLink RL 57 yX11_state ∈ LW := LW_i 516 (by decide +kernel) rfl
theorem ml_L_60 : Cond.methodLink RL 60 yX12_state ∈ LW := LW_i 1148 (by decide +kernel) rfl
theorem ml_L_61 : Cond.methodLink RL 61 yX11_place ∈ LW := LW_i 524 (by decide +kernel) rfl
theorem ml_L_64 : Cond.methodLink RL 64 yX12_place ∈ LW := LW_i 1152 (by decide +kernel) rfl
theorem ml_L_65 : Cond.methodLink RL 65 yX11_hazard ∈ LW := LW_i 533 (by decide +kernel) rfl
theorem ml_L_68 : Cond.methodLink RL 68 yX12_hazard ∈ LW := LW_i 1156 (by decide +kernel) rfl
theorem ml_L_69 : Cond.methodLink RL 69 yX11_stop ∈ LW := LW_i 572 (by decide +kernel) rfl
theorem ml_L_72 : Cond.methodLink RL 72 yX12_stop ∈ LW := LW_i 1164 (by decide +kernel) rfl
theorem ml_L_73 : Cond.methodLink RL 73 yX11_way ∈ LW := LW_i 580 (by decide +kernel) rfl
theorem ml_L_76 : Cond.methodLink RL 76 yX12_way ∈ LW := LW_i 1172 (by decide +kernel) rfl
theorem ml_L_77 : Cond.methodLink RL 77 yX11_change ∈ LW := LW_i 589 (by decide +kernel) rfl
theorem ml_L_80 : Cond.methodLink RL 80 yX12_change ∈ LW := LW_i 1180 (by decide +kernel) rfl
theorem ml_L_81 : Cond.methodLink RL 81 yX11_live ∈ LW := LW_i 598 (by decide +kernel) rfl
theorem ml_L_84 : Cond.methodLink RL 84 yX12_live ∈ LW := LW_i 1184 (by decide +kernel) rfl
theorem ml_L_85 : Cond.methodLink RL 85 yX11_both ∈ LW := LW_i 623 (by decide +kernel) rfl
theorem ml_L_88 : Cond.methodLink RL 88 yX12_both ∈ LW := LW_i 1188 (by decide +kernel) rfl
theorem ml_L_91 : Cond.methodLink RL 91 yX11_run ∈ LW := LW_i 631 (by decide +kernel) rfl
theorem ml_L_95 : Cond.methodLink RL 95 yX12_run ∈ LW := LW_i 1192 (by decide +kernel) rfl
theorem ml_L_96 : Cond.methodLink RL 96 yX11_changed ∈ LW := LW_i 648 (by decide +kernel) rfl
theorem ml_L_100 : Cond.methodLink RL 100 yX12_changed ∈ LW := LW_i 1206 (by decide +kernel) rfl
theorem ml_L_101 : Cond.methodLink RL 101 yX11_node ∈ LW := LW_i 652 (by decide +kernel) rfl
theorem ml_L_104 : Cond.methodLink RL 104 yX12_node ∈ LW := LW_i 1210 (by decide +kernel) rfl
theorem ml_L_105 : Cond.methodLink RL 105 yX11_arc ∈ LW := LW_i 672 (by decide +kernel) rfl
theorem ml_L_109 : Cond.methodLink RL 109 yX12_arc ∈ LW := LW_i 1214 (by decide +kernel) rfl
theorem ml_L_110 : Cond.methodLink RL 110 yX11_tokens ∈ LW := LW_i 687 (by decide +kernel) rfl
theorem ml_L_114 : Cond.methodLink RL 114 yX12_tokens ∈ LW := LW_i 1218 (by decide +kernel) rfl
theorem ml_L_115 : Cond.methodLink RL 115 yX11_clear ∈ LW := LW_i 695 (by decide +kernel) rfl
theorem ml_L_118 : Cond.methodLink RL 118 yX12_clear ∈ LW := LW_i 1222 (by decide +kernel) rfl
theorem ml_L_119 : Cond.methodLink RL 119 yX11_dead ∈ LW := LW_i 703 (by decide +kernel) rfl
theorem ml_L_122 : Cond.methodLink RL 122 yX12_dead ∈ LW := LW_i 1226 (by decide +kernel) rfl
theorem ml_L_123 : Cond.methodLink RL 123 yX11_turn ∈ LW := LW_i 724 (by decide +kernel) rfl
theorem ml_L_127 : Cond.methodLink RL 127 yX12_turn ∈ LW := LW_i 1243 (by decide +kernel) rfl
theorem ml_L_133 : Cond.methodLink RL 133 yX12_time ∈ LW := LW_i 1247 (by decide +kernel) rfl
theorem ml_L_134 : Cond.methodLink RL 134 yX12_thrown ∈ LW := LW_i 1072 (by decide +kernel) rfl
theorem ml_L_137 : Cond.methodLink RL 137 yX11_helps ∈ LW := LW_i 815 (by decide +kernel) rfl
theorem ml_L_140 : Cond.methodLink RL 140 yX12_helps ∈ LW := LW_i 1256 (by decide +kernel) rfl
theorem ml_L_141 : Cond.methodLink RL 141 yX11_count ∈ LW := LW_i 831 (by decide +kernel) rfl
theorem ml_L_144 : Cond.methodLink RL 144 yX12_count ∈ LW := LW_i 1260 (by decide +kernel) rfl
theorem kw_L_89 : Cond.constantLong RL 89 (4294967295) ∈ LW := LW_i 1264 (by decide +kernel) rfl
theorem fw_X0_9 : Fw RX0 9 0 0 := ⟨RX0, TX0, 5, rfl, by decide, lay_X0, LW_i 87 (by decide +kernel) rfl⟩
theorem fw_X0_15 : Fw RX0 15 0 1 := ⟨RX0, TX0, 5, rfl, by decide, lay_X0, LW_i 88 (by decide +kernel) rfl⟩
theorem fw_X0_21 : Fw RX0 21 0 2 := ⟨RX0, TX0, 5, rfl, by decide, lay_X0, LW_i 89 (by decide +kernel) rfl⟩
theorem fw_X0_31 : Fw RX0 31 0 3 := ⟨RX0, TX0, 5, rfl, by decide, lay_X0, LW_i 90 (by decide +kernel) rfl⟩
theorem fw_X0_35 : Fw RX0 35 0 4 := ⟨RX0, TX0, 5, rfl, by decide, lay_X0, LW_i 91 (by decide +kernel) rfl⟩
theorem mn_X0_20 : (RX0, 20, yX1_init, "GateWalk") ∈ NWL := by decide +kernel
theorem ml_X0_25 : Cond.methodLink RX0 25 yJ7_fill_53178 ∈ LW := LW_i 84 (by decide +kernel) rfl
theorem ml_X0_42 : Cond.methodLink RX0 42 yJ6_bitCount_0f7a4 ∈ LW := LW_i 642 (by decide +kernel) rfl
theorem mn_X0_51 : (RX0, 51, yX11_isIn, "GateWalk") ∈ NWL := by decide +kernel
theorem ml_X0_65 : Cond.methodLink RX0 65 yX0_signalInPlace ∈ LW := LW_i 645 (by decide +kernel) rfl
theorem ml_X0_38 : Cond.methodLink RX0 38 yX1_signals ∈ LW := LW_i 485 (by decide +kernel) rfl
theorem ml_X0_48 : Cond.methodLink RX0 48 yX1_terms ∈ LW := LW_i 843 (by decide +kernel) rfl
theorem ml_X0_55 : Cond.methodLink RX0 55 yX1_valuesIn ∈ LW := LW_i 481 (by decide +kernel) rfl
theorem ml_X0_58 : Cond.methodLink RX0 58 yX0_askedIn ∈ LW := LW_i 553 (by decide +kernel) rfl
theorem kw_X0_61 : Cond.constantLong RX0 61 (6364136223846793005) ∈ LW := LW_i 643 (by decide +kernel) rfl
theorem kw_X0_63 : Cond.constantLong RX0 63 (1442695040888963407) ∈ LW := LW_i 644 (by decide +kernel) rfl
theorem pw_X0_21 : Pw RX0 21 0 2 (.object "GateWalk$Equations") := ⟨RX0, TX0, 5, tyX0, rfl, by decide, lay_X0, LW_i 89 (by decide +kernel) rfl, tyX0_ok, nmX0, rfl, rfl⟩
theorem pw_X0_31 : Pw RX0 31 0 3 .int := ⟨RX0, TX0, 5, tyX0, rfl, by decide, lay_X0, LW_i 90 (by decide +kernel) rfl, tyX0_ok, nmX0, rfl, rfl⟩
theorem pw_X0_35 : Pw RX0 35 0 4 .int := ⟨RX0, TX0, 5, tyX0, rfl, by decide, lay_X0, LW_i 91 (by decide +kernel) rfl, tyX0_ok, nmX0, rfl, rfl⟩
theorem fw_X1_9 : Fw RX1 9 1 0 := ⟨RX1, TX1, 5, rfl, by decide, lay_X1, LW_i 68 (by decide +kernel) rfl⟩
theorem fw_X1_15 : Fw RX1 15 1 1 := ⟨RX1, TX1, 5, rfl, by decide, lay_X1, LW_i 69 (by decide +kernel) rfl⟩
theorem fw_X1_18 : Fw RX1 18 1 2 := ⟨RX1, TX1, 5, rfl, by decide, lay_X1, LW_i 70 (by decide +kernel) rfl⟩
theorem fw_X1_21 : Fw RX1 21 1 3 := ⟨RX1, TX1, 5, rfl, by decide, lay_X1, LW_i 71 (by decide +kernel) rfl⟩
theorem fw_X1_25 : Fw RX1 25 1 4 := ⟨RX1, TX1, 5, rfl, by decide, lay_X1, LW_i 72 (by decide +kernel) rfl⟩
theorem mn_X1_28 : (RX1, 28, yX11_isIn, "GateWalk") ∈ NWL := by decide +kernel
theorem ml_X1_32 : Cond.methodLink RX1 32 yX1_addTerm ∈ LW := LW_i 405 (by decide +kernel) rfl
theorem pw_X1_21 : Pw RX1 21 1 3 .int := ⟨RX1, TX1, 5, tyX1, rfl, by decide, lay_X1, LW_i 71 (by decide +kernel) rfl, tyX1_ok, nmX1, rfl, rfl⟩
theorem pw_X1_25 : Pw RX1 25 1 4 .int := ⟨RX1, TX1, 5, tyX1, rfl, by decide, lay_X1, LW_i 72 (by decide +kernel) rfl, tyX1_ok, nmX1, rfl, rfl⟩
theorem fw_X10_9 : Fw RX10 9 10 1 := ⟨RX10, TX10, 8, rfl, by decide, lay_X10, LW_i 110 (by decide +kernel) rfl⟩
theorem fw_X10_15 : Fw RX10 15 10 2 := ⟨RX10, TX10, 8, rfl, by decide, lay_X10, LW_i 111 (by decide +kernel) rfl⟩
theorem fw_X10_18 : Fw RX10 18 10 3 := ⟨RX10, TX10, 8, rfl, by decide, lay_X10, LW_i 112 (by decide +kernel) rfl⟩
theorem fw_X10_21 : Fw RX10 21 10 4 := ⟨RX10, TX10, 8, rfl, by decide, lay_X10, LW_i 113 (by decide +kernel) rfl⟩
theorem fw_X10_24 : Fw RX10 24 10 0 := ⟨RX10, TX10, 8, rfl, by decide, lay_X10, LW_i 109 (by decide +kernel) rfl⟩
theorem fw_X10_28 : Fw RX10 28 10 7 := ⟨RX10, TX10, 8, rfl, by decide, lay_X10, LW_i 116 (by decide +kernel) rfl⟩
theorem fw_X10_38 : Fw RX10 38 10 5 := ⟨RX10, TX10, 8, rfl, by decide, lay_X10, LW_i 114 (by decide +kernel) rfl⟩
theorem fw_X10_42 : Fw RX10 42 10 6 := ⟨RX10, TX10, 8, rfl, by decide, lay_X10, LW_i 115 (by decide +kernel) rfl⟩
theorem ml_X10_32 : Cond.methodLink RX10 32 yJ7_fill_53178 ∈ LW := LW_i 497 (by decide +kernel) rfl
theorem mn_X10_63 : (RX10, 63, yX11_isIn, "GateWalk") ∈ NWL := by decide +kernel
theorem mn_X10_67 : (RX10, 67, yX11_isState, "GateWalk") ∈ NWL := by decide +kernel
theorem ml_X10_45 : Cond.methodLink RX10 45 yX0_resetState ∈ LW := LW_i 498 (by decide +kernel) rfl
theorem ml_X10_51 : Cond.methodLink RX10 51 yX10_enter ∈ LW := LW_i 502 (by decide +kernel) rfl
theorem ml_X10_55 : Cond.methodLink RX10 55 yX10_goOnFrom ∈ LW := LW_i 506 (by decide +kernel) rfl
theorem ml_X10_59 : Cond.methodLink RX10 59 yX0_askedIn ∈ LW := LW_i 510 (by decide +kernel) rfl
theorem ml_X10_71 : Cond.methodLink RX10 71 yX10_placeOf ∈ LW := LW_i 588 (by decide +kernel) rfl
theorem ml_X10_74 : Cond.methodLink RX10 74 yX10_wayLength ∈ LW := LW_i 597 (by decide +kernel) rfl
theorem pw_X10_28 : Pw RX10 28 10 7 .boolean := ⟨RX10, TX10, 8, tyX10, rfl, by decide, lay_X10, LW_i 116 (by decide +kernel) rfl, tyX10_ok, nmX10, rfl, rfl⟩
theorem pw_X10_38 : Pw RX10 38 10 5 .int := ⟨RX10, TX10, 8, tyX10, rfl, by decide, lay_X10, LW_i 114 (by decide +kernel) rfl, tyX10_ok, nmX10, rfl, rfl⟩
theorem pw_X10_42 : Pw RX10 42 10 6 .int := ⟨RX10, TX10, 8, tyX10, rfl, by decide, lay_X10, LW_i 115 (by decide +kernel) rfl, tyX10_ok, nmX10, rfl, rfl⟩
theorem fw_X11_12 : Fw RX11 12 11 0 := ⟨RX11, TX11, 11, rfl, by decide, lay_X11, LW_i 292 (by decide +kernel) rfl⟩
theorem fw_X11_21 : Fw RX11 21 11 1 := ⟨RX11, TX11, 11, rfl, by decide, lay_X11, LW_i 293 (by decide +kernel) rfl⟩
theorem fw_X11_28 : Fw RX11 28 11 2 := ⟨RX11, TX11, 11, rfl, by decide, lay_X11, LW_i 294 (by decide +kernel) rfl⟩
theorem fw_X11_37 : Fw RX11 37 11 3 := ⟨RX11, TX11, 11, rfl, by decide, lay_X11, LW_i 295 (by decide +kernel) rfl⟩
theorem fw_X11_46 : Fw RX11 46 11 4 := ⟨RX11, TX11, 11, rfl, by decide, lay_X11, LW_i 296 (by decide +kernel) rfl⟩
theorem fw_X11_53 : Fw RX11 53 11 5 := ⟨RX11, TX11, 11, rfl, by decide, lay_X11, LW_i 297 (by decide +kernel) rfl⟩
theorem fw_X11_57 : Fw RX11 57 11 6 := ⟨RX11, TX11, 11, rfl, by decide, lay_X11, LW_i 298 (by decide +kernel) rfl⟩
theorem fw_X11_64 : Fw RX11 64 11 7 := ⟨RX11, TX11, 11, rfl, by decide, lay_X11, LW_i 299 (by decide +kernel) rfl⟩
theorem fw_X11_73 : Fw RX11 73 11 8 := ⟨RX11, TX11, 11, rfl, by decide, lay_X11, LW_i 300 (by decide +kernel) rfl⟩
theorem fw_X11_80 : Fw RX11 80 11 9 := ⟨RX11, TX11, 11, rfl, by decide, lay_X11, LW_i 301 (by decide +kernel) rfl⟩
theorem fw_X11_87 : Fw RX11 87 11 10 := ⟨RX11, TX11, 11, rfl, by decide, lay_X11, LW_i 302 (by decide +kernel) rfl⟩
theorem mn_X11_11 : (RX11, 11, yX7_init, "GateWalk") ∈ NWL := by decide +kernel
theorem ml_X11_18 : Cond.methodLink RX11 18 yX6_init ∈ LW := LW_i 45 (by decide +kernel) rfl
theorem ml_X11_27 : Cond.methodLink RX11 27 yX0_init ∈ LW := LW_i 58 (by decide +kernel) rfl
theorem ml_X11_34 : Cond.methodLink RX11 34 yX10_init ∈ LW := LW_i 105 (by decide +kernel) rfl
theorem ml_X11_43 : Cond.methodLink RX11 43 yX2_init ∈ LW := LW_i 136 (by decide +kernel) rfl
theorem ml_X11_52 : Cond.methodLink RX11 52 yX3_init ∈ LW := LW_i 158 (by decide +kernel) rfl
theorem mn_X11_63 : (RX11, 63, yX4_init, "GateWalk") ∈ NWL := by decide +kernel
theorem ml_X11_70 : Cond.methodLink RX11 70 yX9_init ∈ LW := LW_i 212 (by decide +kernel) rfl
theorem ml_X11_79 : Cond.methodLink RX11 79 yX8_init ∈ LW := LW_i 265 (by decide +kernel) rfl
theorem mn_X11_86 : (RX11, 86, yX1_init, "GateWalk") ∈ NWL := by decide +kernel
theorem ml_X11_91 : Cond.methodLink RX11 91 yX7_bytesIn ∈ LW := LW_i 330 (by decide +kernel) rfl
theorem ml_X11_110 : Cond.methodLink RX11 110 yX11_isState ∈ LW := LW_i 422 (by decide +kernel) rfl
theorem ml_X11_121 : Cond.methodLink RX11 121 yX11_isSignal ∈ LW := LW_i 449 (by decide +kernel) rfl
theorem ml_X11_174 : Cond.methodLink RX11 174 yX11_isRunLength ∈ LW := LW_i 635 (by decide +kernel) rfl
theorem ml_X11_95 : Cond.methodLink RX11 95 yX7_size ∈ LW := LW_i 333 (by decide +kernel) rfl
theorem ml_X11_99 : Cond.methodLink RX11 99 yX7_append ∈ LW := LW_i 337 (by decide +kernel) rfl
theorem ml_X11_103 : Cond.methodLink RX11 103 yX7_cut ∈ LW := LW_i 345 (by decide +kernel) rfl
theorem ml_X11_106 : Cond.methodLink RX11 106 yX6_read ∈ LW := LW_i 353 (by decide +kernel) rfl
theorem ml_X11_114 : Cond.methodLink RX11 114 yX0_begin ∈ LW := LW_i 425 (by decide +kernel) rfl
theorem ml_X11_118 : Cond.methodLink RX11 118 yX11_forgetWalk ∈ LW := LW_i 429 (by decide +kernel) rfl
theorem ml_X11_124 : Cond.methodLink RX11 124 yX0_isPair ∈ LW := LW_i 452 (by decide +kernel) rfl
theorem ml_X11_128 : Cond.methodLink RX11 128 yX0_turnPair ∈ LW := LW_i 457 (by decide +kernel) rfl
theorem ml_X11_132 : Cond.methodLink RX11 132 yX2_forget ∈ LW := LW_i 437 (by decide +kernel) rfl
theorem ml_X11_135 : Cond.methodLink RX11 135 yX0_isStuck ∈ LW := LW_i 465 (by decide +kernel) rfl
theorem ml_X11_138 : Cond.methodLink RX11 138 yX0_turnStuck ∈ LW := LW_i 469 (by decide +kernel) rfl
theorem ml_X11_141 : Cond.methodLink RX11 141 yX0_askedIn ∈ LW := LW_i 477 (by decide +kernel) rfl
theorem ml_X11_144 : Cond.methodLink RX11 144 yX10_renew ∈ LW := LW_i 493 (by decide +kernel) rfl
theorem ml_X11_147 : Cond.methodLink RX11 147 yX10_size ∈ LW := LW_i 512 (by decide +kernel) rfl
theorem ml_X11_148 : Cond.methodLink RX11 148 yX10_stateAt ∈ LW := LW_i 520 (by decide +kernel) rfl
theorem ml_X11_151 : Cond.methodLink RX11 151 yX10_placeOf ∈ LW := LW_i 528 (by decide +kernel) rfl
theorem ml_X11_154 : Cond.methodLink RX11 154 yX2_renew ∈ LW := LW_i 537 (by decide +kernel) rfl
theorem ml_X11_155 : Cond.methodLink RX11 155 yX2_partOf ∈ LW := LW_i 560 (by decide +kernel) rfl
theorem ml_X11_159 : Cond.methodLink RX11 159 yX10_stopAt ∈ LW := LW_i 576 (by decide +kernel) rfl
theorem ml_X11_162 : Cond.methodLink RX11 162 yX10_wayLength ∈ LW := LW_i 584 (by decide +kernel) rfl
theorem ml_X11_165 : Cond.methodLink RX11 165 yX10_wayStep ∈ LW := LW_i 593 (by decide +kernel) rfl
theorem ml_X11_168 : Cond.methodLink RX11 168 yX3_isLive ∈ LW := LW_i 602 (by decide +kernel) rfl
theorem ml_X11_171 : Cond.methodLink RX11 171 yX10_firstWithAll ∈ LW := LW_i 627 (by decide +kernel) rfl
theorem ml_X11_177 : Cond.methodLink RX11 177 yX0_runByLots ∈ LW := LW_i 638 (by decide +kernel) rfl
theorem ml_X11_181 : Cond.methodLink RX11 181 yX4_addNode ∈ LW := LW_i 656 (by decide +kernel) rfl
theorem ml_X11_184 : Cond.methodLink RX11 184 yX11_forgetRings ∈ LW := LW_i 660 (by decide +kernel) rfl
theorem ml_X11_187 : Cond.methodLink RX11 187 yX4_addArc ∈ LW := LW_i 676 (by decide +kernel) rfl
theorem ml_X11_191 : Cond.methodLink RX11 191 yX4_putTokens ∈ LW := LW_i 691 (by decide +kernel) rfl
theorem ml_X11_194 : Cond.methodLink RX11 194 yX4_removeAll ∈ LW := LW_i 699 (by decide +kernel) rfl
theorem ml_X11_197 : Cond.methodLink RX11 197 yX4_hasDeadRing ∈ LW := LW_i 707 (by decide +kernel) rfl
theorem ml_X11_203 : Cond.methodLink RX11 203 yX9_renew ∈ LW := LW_i 729 (by decide +kernel) rfl
theorem ml_X11_204 : Cond.methodLink RX11 204 yX9_numerator ∈ LW := LW_i 807 (by decide +kernel) rfl
theorem ml_X11_207 : Cond.methodLink RX11 207 yX9_denominator ∈ LW := LW_i 811 (by decide +kernel) rfl
theorem ml_X11_210 : Cond.methodLink RX11 210 yX4_isNode ∈ LW := LW_i 866 (by decide +kernel) rfl
theorem ml_X11_220 : Cond.methodLink RX11 220 yX8_fillTo ∈ LW := LW_i 933 (by decide +kernel) rfl
theorem ml_X11_223 : Cond.methodLink RX11 223 yX8_doneAt ∈ LW := LW_i 967 (by decide +kernel) rfl
theorem ml_X11_228 : Cond.methodLink RX11 228 yX9_helper ∈ LW := LW_i 819 (by decide +kernel) rfl
theorem ml_X11_231 : Cond.methodLink RX11 231 yX0_equations ∈ LW := LW_i 835 (by decide +kernel) rfl
theorem ml_X11_234 : Cond.methodLink RX11 234 yX0_terms ∈ LW := LW_i 839 (by decide +kernel) rfl
theorem ml_X11_237 : Cond.methodLink RX11 237 yX2_size ∈ LW := LW_i 847 (by decide +kernel) rfl
theorem ml_X11_238 : Cond.methodLink RX11 238 yX10_stops ∈ LW := LW_i 851 (by decide +kernel) rfl
theorem ml_X11_241 : Cond.methodLink RX11 241 yX4_nodes ∈ LW := LW_i 855 (by decide +kernel) rfl
theorem ml_X11_244 : Cond.methodLink RX11 244 yX4_arcs ∈ LW := LW_i 856 (by decide +kernel) rfl
theorem ml_X11_247 : Cond.methodLink RX11 247 yX0_resetState ∈ LW := LW_i 857 (by decide +kernel) rfl
theorem ml_X11_250 : Cond.methodLink RX11 250 yX10_forget ∈ LW := LW_i 433 (by decide +kernel) rfl
theorem ml_X11_251 : Cond.methodLink RX11 251 yX3_forget ∈ LW := LW_i 441 (by decide +kernel) rfl
theorem ml_X11_252 : Cond.methodLink RX11 252 yX9_forget ∈ LW := LW_i 664 (by decide +kernel) rfl
theorem ml_X11_253 : Cond.methodLink RX11 253 yX8_forget ∈ LW := LW_i 668 (by decide +kernel) rfl
theorem kw_X11_201 : Cond.constantLong RX11 201 (-1) ∈ LW := LW_i 728 (by decide +kernel) rfl
theorem pw_X11_87 : Pw RX11 87 11 10 (.object "GateWalk$Equations") := ⟨RX11, TX11, 11, tyX11, rfl, by decide, lay_X11, LW_i 302 (by decide +kernel) rfl, tyX11_ok, nmX11, rfl, rfl⟩
theorem fw_X12_9 : Fw RX12 9 12 1 := ⟨RX12, TX12, 32, rfl, by decide, lay_X12, LW_i 976 (by decide +kernel) rfl⟩
theorem fw_X12_13 : Fw RX12 13 12 3 := ⟨RX12, TX12, 32, rfl, by decide, lay_X12, LW_i 978 (by decide +kernel) rfl⟩
theorem fw_X12_17 : Fw RX12 17 12 4 := ⟨RX12, TX12, 32, rfl, by decide, lay_X12, LW_i 979 (by decide +kernel) rfl⟩
theorem fw_X12_20 : Fw RX12 20 12 5 := ⟨RX12, TX12, 32, rfl, by decide, lay_X12, LW_i 980 (by decide +kernel) rfl⟩
theorem fw_X12_23 : Fw RX12 23 12 6 := ⟨RX12, TX12, 32, rfl, by decide, lay_X12, LW_i 981 (by decide +kernel) rfl⟩
theorem fw_X12_26 : Fw RX12 26 12 7 := ⟨RX12, TX12, 32, rfl, by decide, lay_X12, LW_i 982 (by decide +kernel) rfl⟩
theorem fw_X12_29 : Fw RX12 29 12 8 := ⟨RX12, TX12, 32, rfl, by decide, lay_X12, LW_i 983 (by decide +kernel) rfl⟩
theorem fw_X12_32 : Fw RX12 32 12 10 := ⟨RX12, TX12, 32, rfl, by decide, lay_X12, LW_i 985 (by decide +kernel) rfl⟩
theorem fw_X12_36 : Fw RX12 36 12 11 := ⟨RX12, TX12, 32, rfl, by decide, lay_X12, LW_i 986 (by decide +kernel) rfl⟩
theorem fw_X12_39 : Fw RX12 39 12 13 := ⟨RX12, TX12, 32, rfl, by decide, lay_X12, LW_i 988 (by decide +kernel) rfl⟩
theorem fw_X12_42 : Fw RX12 42 12 14 := ⟨RX12, TX12, 32, rfl, by decide, lay_X12, LW_i 989 (by decide +kernel) rfl⟩
theorem fw_X12_45 : Fw RX12 45 12 15 := ⟨RX12, TX12, 32, rfl, by decide, lay_X12, LW_i 990 (by decide +kernel) rfl⟩
theorem fw_X12_48 : Fw RX12 48 12 16 := ⟨RX12, TX12, 32, rfl, by decide, lay_X12, LW_i 991 (by decide +kernel) rfl⟩
theorem fw_X12_51 : Fw RX12 51 12 18 := ⟨RX12, TX12, 32, rfl, by decide, lay_X12, LW_i 993 (by decide +kernel) rfl⟩
theorem fw_X12_54 : Fw RX12 54 12 19 := ⟨RX12, TX12, 32, rfl, by decide, lay_X12, LW_i 994 (by decide +kernel) rfl⟩
theorem fw_X12_57 : Fw RX12 57 12 20 := ⟨RX12, TX12, 32, rfl, by decide, lay_X12, LW_i 995 (by decide +kernel) rfl⟩
theorem fw_X12_60 : Fw RX12 60 12 21 := ⟨RX12, TX12, 32, rfl, by decide, lay_X12, LW_i 996 (by decide +kernel) rfl⟩
theorem fw_X12_63 : Fw RX12 63 12 22 := ⟨RX12, TX12, 32, rfl, by decide, lay_X12, LW_i 997 (by decide +kernel) rfl⟩
theorem fw_X12_66 : Fw RX12 66 12 23 := ⟨RX12, TX12, 32, rfl, by decide, lay_X12, LW_i 998 (by decide +kernel) rfl⟩
theorem fw_X12_69 : Fw RX12 69 12 30 := ⟨RX12, TX12, 32, rfl, by decide, lay_X12, LW_i 1005 (by decide +kernel) rfl⟩
theorem fw_X12_72 : Fw RX12 72 12 31 := ⟨RX12, TX12, 32, rfl, by decide, lay_X12, LW_i 1006 (by decide +kernel) rfl⟩
theorem fw_X12_75 : Fw RX12 75 12 0 := ⟨RX12, TX12, 32, rfl, by decide, lay_X12, LW_i 975 (by decide +kernel) rfl⟩
theorem fw_X12_79 : Fw RX12 79 12 2 := ⟨RX12, TX12, 32, rfl, by decide, lay_X12, LW_i 977 (by decide +kernel) rfl⟩
theorem fw_X12_90 : Fw RX12 90 12 12 := ⟨RX12, TX12, 32, rfl, by decide, lay_X12, LW_i 987 (by decide +kernel) rfl⟩
theorem fw_X12_114 : Fw RX12 114 12 9 := ⟨RX12, TX12, 32, rfl, by decide, lay_X12, LW_i 984 (by decide +kernel) rfl⟩
theorem fw_X12_123 : Fw RX12 123 12 17 := ⟨RX12, TX12, 32, rfl, by decide, lay_X12, LW_i 992 (by decide +kernel) rfl⟩
theorem fw_X12_156 : Fw RX12 156 12 24 := ⟨RX12, TX12, 32, rfl, by decide, lay_X12, LW_i 999 (by decide +kernel) rfl⟩
theorem fw_X12_159 : Fw RX12 159 12 25 := ⟨RX12, TX12, 32, rfl, by decide, lay_X12, LW_i 1000 (by decide +kernel) rfl⟩
theorem fw_X12_170 : Fw RX12 170 12 27 := ⟨RX12, TX12, 32, rfl, by decide, lay_X12, LW_i 1002 (by decide +kernel) rfl⟩
theorem fw_X12_173 : Fw RX12 173 12 26 := ⟨RX12, TX12, 32, rfl, by decide, lay_X12, LW_i 1001 (by decide +kernel) rfl⟩
theorem fw_X12_177 : Fw RX12 177 12 29 := ⟨RX12, TX12, 32, rfl, by decide, lay_X12, LW_i 1004 (by decide +kernel) rfl⟩
theorem fw_X12_181 : Fw RX12 181 12 28 := ⟨RX12, TX12, 32, rfl, by decide, lay_X12, LW_i 1003 (by decide +kernel) rfl⟩
theorem ml_X12_82 : Cond.methodLink RX12 82 yX12_bytesIn ∈ LW := LW_i 1080 (by decide +kernel) rfl
theorem ml_X12_101 : Cond.methodLink RX12 101 yX12_isLetter ∈ LW := LW_i 1107 (by decide +kernel) rfl
theorem ml_X12_111 : Cond.methodLink RX12 111 yX12_isState ∈ LW := LW_i 1118 (by decide +kernel) rfl
theorem ml_X12_117 : Cond.methodLink RX12 117 yX12_isSignal ∈ LW := LW_i 1125 (by decide +kernel) rfl
theorem ml_X12_143 : Cond.methodLink RX12 143 yJ6_bitCount_0f7a4 ∈ LW := LW_i 1205 (by decide +kernel) rfl
theorem ml_X12_148 : Cond.methodLink RX12 148 yX12_isIn ∈ LW := LW_i 1196 (by decide +kernel) rfl
theorem ml_X12_189 : Cond.methodLink RX12 189 yJ9_max_7cf53 ∈ LW := LW_i 1255 (by decide +kernel) rfl
theorem ml_X12_86 : Cond.methodLink RX12 86 yX12_put ∈ LW := LW_i 1083 (by decide +kernel) rfl
theorem ml_X12_93 : Cond.methodLink RX12 93 yX12_look ∈ LW := LW_i 1099 (by decide +kernel) rfl
theorem ml_X12_97 : Cond.methodLink RX12 97 yX12_equation ∈ LW := LW_i 1103 (by decide +kernel) rfl
theorem ml_X12_105 : Cond.methodLink RX12 105 yX12_term ∈ LW := LW_i 1110 (by decide +kernel) rfl
theorem ml_X12_108 : Cond.methodLink RX12 108 yX12_read ∈ LW := LW_i 1095 (by decide +kernel) rfl
theorem ml_X12_120 : Cond.methodLink RX12 120 yX12_askedIn ∈ LW := LW_i 1136 (by decide +kernel) rfl
theorem ml_X12_126 : Cond.methodLink RX12 126 yX12_walks ∈ LW := LW_i 1144 (by decide +kernel) rfl
theorem ml_X12_129 : Cond.methodLink RX12 129 yX12_hazardOf ∈ LW := LW_i 1160 (by decide +kernel) rfl
theorem ml_X12_133 : Cond.methodLink RX12 133 yX12_stopOf ∈ LW := LW_i 1168 (by decide +kernel) rfl
theorem ml_X12_136 : Cond.methodLink RX12 136 yX12_wayLong ∈ LW := LW_i 1176 (by decide +kernel) rfl
theorem ml_X12_152 : Cond.methodLink RX12 152 yX12_runs ∈ LW := LW_i 1199 (by decide +kernel) rfl
theorem ml_X12_162 : Cond.methodLink RX12 162 yX12_ring ∈ LW := LW_i 1239 (by decide +kernel) rfl
theorem ml_X12_166 : Cond.methodLink RX12 166 yX12_round ∈ LW := LW_i 1235 (by decide +kernel) rfl
theorem ml_X12_186 : Cond.methodLink RX12 186 yX12_goRound ∈ LW := LW_i 1230 (by decide +kernel) rfl
theorem ml_X12_194 : Cond.methodLink RX12 194 yX12_times ∈ LW := LW_i 1251 (by decide +kernel) rfl
theorem kw_X12_139 : Cond.constantLong RX12 139 (6364136223846793005) ∈ LW := LW_i 1203 (by decide +kernel) rfl
theorem kw_X12_141 : Cond.constantLong RX12 141 (1442695040888963407) ∈ LW := LW_i 1204 (by decide +kernel) rfl
theorem kw_X12_184 : Cond.constantLong RX12 184 (-1) ∈ LW := LW_i 1234 (by decide +kernel) rfl
theorem pw_X12_75 : Pw RX12 75 12 0 .int := ⟨RX12, TX12, 32, tyX12, rfl, by decide, lay_X12, LW_i 975 (by decide +kernel) rfl, tyX12_ok, nmX12, rfl, rfl⟩
theorem pw_X12_79 : Pw RX12 79 12 2 .int := ⟨RX12, TX12, 32, tyX12, rfl, by decide, lay_X12, LW_i 977 (by decide +kernel) rfl, tyX12_ok, nmX12, rfl, rfl⟩
theorem pw_X12_90 : Pw RX12 90 12 12 .int := ⟨RX12, TX12, 32, tyX12, rfl, by decide, lay_X12, LW_i 987 (by decide +kernel) rfl, tyX12_ok, nmX12, rfl, rfl⟩
theorem pw_X12_114 : Pw RX12 114 12 9 .int := ⟨RX12, TX12, 32, tyX12, rfl, by decide, lay_X12, LW_i 984 (by decide +kernel) rfl, tyX12_ok, nmX12, rfl, rfl⟩
theorem pw_X12_123 : Pw RX12 123 12 17 .int := ⟨RX12, TX12, 32, tyX12, rfl, by decide, lay_X12, LW_i 992 (by decide +kernel) rfl, tyX12_ok, nmX12, rfl, rfl⟩
theorem pw_X12_156 : Pw RX12 156 12 24 .int := ⟨RX12, TX12, 32, tyX12, rfl, by decide, lay_X12, LW_i 999 (by decide +kernel) rfl, tyX12_ok, nmX12, rfl, rfl⟩
theorem pw_X12_159 : Pw RX12 159 12 25 .int := ⟨RX12, TX12, 32, tyX12, rfl, by decide, lay_X12, LW_i 1000 (by decide +kernel) rfl, tyX12_ok, nmX12, rfl, rfl⟩
theorem pw_X12_170 : Pw RX12 170 12 27 .int := ⟨RX12, TX12, 32, tyX12, rfl, by decide, lay_X12, LW_i 1002 (by decide +kernel) rfl, tyX12_ok, nmX12, rfl, rfl⟩
theorem pw_X12_173 : Pw RX12 173 12 26 .boolean := ⟨RX12, TX12, 32, tyX12, rfl, by decide, lay_X12, LW_i 1001 (by decide +kernel) rfl, tyX12_ok, nmX12, rfl, rfl⟩
theorem pw_X12_177 : Pw RX12 177 12 29 .long := ⟨RX12, TX12, 32, tyX12, rfl, by decide, lay_X12, LW_i 1004 (by decide +kernel) rfl, tyX12_ok, nmX12, rfl, rfl⟩
theorem pw_X12_181 : Pw RX12 181 12 28 .long := ⟨RX12, TX12, 32, tyX12, rfl, by decide, lay_X12, LW_i 1003 (by decide +kernel) rfl, tyX12_ok, nmX12, rfl, rfl⟩
theorem fw_X2_9 : Fw RX2 9 2 2 := ⟨RX2, TX2, 5, rfl, by decide, lay_X2, LW_i 142 (by decide +kernel) rfl⟩
theorem fw_X2_15 : Fw RX2 15 2 0 := ⟨RX2, TX2, 5, rfl, by decide, lay_X2, LW_i 140 (by decide +kernel) rfl⟩
theorem fw_X2_19 : Fw RX2 19 2 1 := ⟨RX2, TX2, 5, rfl, by decide, lay_X2, LW_i 141 (by decide +kernel) rfl⟩
theorem fw_X2_23 : Fw RX2 23 2 4 := ⟨RX2, TX2, 5, rfl, by decide, lay_X2, LW_i 144 (by decide +kernel) rfl⟩
theorem fw_X2_27 : Fw RX2 27 2 3 := ⟨RX2, TX2, 5, rfl, by decide, lay_X2, LW_i 143 (by decide +kernel) rfl⟩
theorem mn_X2_48 : (RX2, 48, yX11_isIn, "GateWalk") ∈ NWL := by decide +kernel
theorem ml_X2_56 : Cond.methodLink RX2 56 yJ6_bitCount_0f7a4 ∈ LW := LW_i 554 (by decide +kernel) rfl
theorem ml_X2_31 : Cond.methodLink RX2 31 yX10_size ∈ LW := LW_i 541 (by decide +kernel) rfl
theorem ml_X2_36 : Cond.methodLink RX2 36 yX10_stateAt ∈ LW := LW_i 542 (by decide +kernel) rfl
theorem ml_X2_40 : Cond.methodLink RX2 40 yX2_hazardsIn ∈ LW := LW_i 543 (by decide +kernel) rfl
theorem ml_X2_43 : Cond.methodLink RX2 43 yX0_askedIn ∈ LW := LW_i 547 (by decide +kernel) rfl
theorem ml_X2_52 : Cond.methodLink RX2 52 yX0_takenBackBy ∈ LW := LW_i 549 (by decide +kernel) rfl
theorem ml_X2_61 : Cond.methodLink RX2 61 yX2_placeWith ∈ LW := LW_i 564 (by decide +kernel) rfl
theorem ml_X2_64 : Cond.methodLink RX2 64 yX2_signalOf ∈ LW := LW_i 568 (by decide +kernel) rfl
theorem pw_X2_23 : Pw RX2 23 2 4 .boolean := ⟨RX2, TX2, 5, tyX2, rfl, by decide, lay_X2, LW_i 144 (by decide +kernel) rfl, tyX2_ok, nmX2, rfl, rfl⟩
theorem pw_X2_27 : Pw RX2 27 2 3 .int := ⟨RX2, TX2, 5, tyX2, rfl, by decide, lay_X2, LW_i 143 (by decide +kernel) rfl, tyX2_ok, nmX2, rfl, rfl⟩
theorem fw_X3_9 : Fw RX3 9 3 2 := ⟨RX3, TX3, 7, rfl, by decide, lay_X3, LW_i 164 (by decide +kernel) rfl⟩
theorem fw_X3_15 : Fw RX3 15 3 3 := ⟨RX3, TX3, 7, rfl, by decide, lay_X3, LW_i 165 (by decide +kernel) rfl⟩
theorem fw_X3_19 : Fw RX3 19 3 0 := ⟨RX3, TX3, 7, rfl, by decide, lay_X3, LW_i 162 (by decide +kernel) rfl⟩
theorem fw_X3_23 : Fw RX3 23 3 1 := ⟨RX3, TX3, 7, rfl, by decide, lay_X3, LW_i 163 (by decide +kernel) rfl⟩
theorem fw_X3_27 : Fw RX3 27 3 5 := ⟨RX3, TX3, 7, rfl, by decide, lay_X3, LW_i 167 (by decide +kernel) rfl⟩
theorem fw_X3_31 : Fw RX3 31 3 6 := ⟨RX3, TX3, 7, rfl, by decide, lay_X3, LW_i 168 (by decide +kernel) rfl⟩
theorem fw_X3_42 : Fw RX3 42 3 4 := ⟨RX3, TX3, 7, rfl, by decide, lay_X3, LW_i 166 (by decide +kernel) rfl⟩
theorem mn_X3_34 : (RX3, 34, yX11_isIn, "GateWalk") ∈ NWL := by decide +kernel
theorem ml_X3_38 : Cond.methodLink RX3 38 yX3_leadsThereFromAll ∈ LW := LW_i 607 (by decide +kernel) rfl
theorem ml_X3_45 : Cond.methodLink RX3 45 yX10_size ∈ LW := LW_i 611 (by decide +kernel) rfl
theorem ml_X3_51 : Cond.methodLink RX3 51 yX10_stateAt ∈ LW := LW_i 612 (by decide +kernel) rfl
theorem ml_X3_55 : Cond.methodLink RX3 55 yX0_askedIn ∈ LW := LW_i 613 (by decide +kernel) rfl
theorem ml_X3_60 : Cond.methodLink RX3 60 yX3_find ∈ LW := LW_i 614 (by decide +kernel) rfl
theorem ml_X3_64 : Cond.methodLink RX3 64 yX3_goBackFrom ∈ LW := LW_i 618 (by decide +kernel) rfl
theorem ml_X3_67 : Cond.methodLink RX3 67 yX10_placeOf ∈ LW := LW_i 622 (by decide +kernel) rfl
theorem pw_X3_27 : Pw RX3 27 3 5 .int := ⟨RX3, TX3, 7, tyX3, rfl, by decide, lay_X3, LW_i 167 (by decide +kernel) rfl, tyX3_ok, nmX3, rfl, rfl⟩
theorem pw_X3_31 : Pw RX3 31 3 6 .int := ⟨RX3, TX3, 7, tyX3, rfl, by decide, lay_X3, LW_i 168 (by decide +kernel) rfl, tyX3_ok, nmX3, rfl, rfl⟩
theorem pw_X3_42 : Pw RX3 42 3 4 .int := ⟨RX3, TX3, 7, tyX3, rfl, by decide, lay_X3, LW_i 166 (by decide +kernel) rfl, tyX3_ok, nmX3, rfl, rfl⟩
theorem fw_X4_9 : Fw RX4 9 4 0 := ⟨RX4, TX4, 6, rfl, by decide, lay_X4, LW_i 191 (by decide +kernel) rfl⟩
theorem fw_X4_15 : Fw RX4 15 4 1 := ⟨RX4, TX4, 6, rfl, by decide, lay_X4, LW_i 192 (by decide +kernel) rfl⟩
theorem fw_X4_18 : Fw RX4 18 4 2 := ⟨RX4, TX4, 6, rfl, by decide, lay_X4, LW_i 193 (by decide +kernel) rfl⟩
theorem fw_X4_21 : Fw RX4 21 4 3 := ⟨RX4, TX4, 6, rfl, by decide, lay_X4, LW_i 194 (by decide +kernel) rfl⟩
theorem fw_X4_24 : Fw RX4 24 4 4 := ⟨RX4, TX4, 6, rfl, by decide, lay_X4, LW_i 195 (by decide +kernel) rfl⟩
theorem fw_X4_28 : Fw RX4 28 4 5 := ⟨RX4, TX4, 6, rfl, by decide, lay_X4, LW_i 196 (by decide +kernel) rfl⟩
theorem ml_X4_35 : Cond.methodLink RX4 35 yX4_isTokens ∈ LW := LW_i 684 (by decide +kernel) rfl
theorem mn_X4_50 : (RX4, 50, yX11_isIn, "GateWalk") ∈ NWL := by decide +kernel
theorem ml_X4_31 : Cond.methodLink RX4 31 yX4_isNode ∈ LW := LW_i 680 (by decide +kernel) rfl
theorem ml_X4_38 : Cond.methodLink RX4 38 yX4_nodesBehindRings ∈ LW := LW_i 711 (by decide +kernel) rfl
theorem ml_X4_42 : Cond.methodLink RX4 42 yX4_freedBy ∈ LW := LW_i 715 (by decide +kernel) rfl
theorem ml_X4_46 : Cond.methodLink RX4 46 yX4_allNodes ∈ LW := LW_i 720 (by decide +kernel) rfl
theorem pw_X4_24 : Pw RX4 24 4 4 .int := ⟨RX4, TX4, 6, tyX4, rfl, by decide, lay_X4, LW_i 195 (by decide +kernel) rfl, tyX4_ok, nmX4, rfl, rfl⟩
theorem pw_X4_28 : Pw RX4 28 4 5 .int := ⟨RX4, TX4, 6, tyX4, rfl, by decide, lay_X4, LW_i 196 (by decide +kernel) rfl, tyX4_ok, nmX4, rfl, rfl⟩
theorem fw_X5_9 : Fw RX5 9 5 1 := ⟨RX5, TX5, 2, rfl, by decide, lay_X5, LW_i 223 (by decide +kernel) rfl⟩
theorem fw_X5_15 : Fw RX5 15 5 0 := ⟨RX5, TX5, 2, rfl, by decide, lay_X5, LW_i 222 (by decide +kernel) rfl⟩
theorem ml_X5_18 : Cond.methodLink RX5 18 yX5_commonDivisor ∈ LW := LW_i 804 (by decide +kernel) rfl
theorem pw_X5_9 : Pw RX5 9 5 1 .int := ⟨RX5, TX5, 2, tyX5, rfl, by decide, lay_X5, LW_i 223 (by decide +kernel) rfl, tyX5_ok, nmX5, rfl, rfl⟩
theorem pw_X5_15 : Pw RX5 15 5 0 .int := ⟨RX5, TX5, 2, tyX5, rfl, by decide, lay_X5, LW_i 222 (by decide +kernel) rfl, tyX5_ok, nmX5, rfl, rfl⟩
theorem fw_X6_9 : Fw RX6 9 6 0 := ⟨RX6, TX6, 2, rfl, by decide, lay_X6, LW_i 49 (by decide +kernel) rfl⟩
theorem fw_X6_26 : Fw RX6 26 6 1 := ⟨RX6, TX6, 2, rfl, by decide, lay_X6, LW_i 50 (by decide +kernel) rfl⟩
theorem ml_X6_15 : Cond.methodLink RX6 15 yX1_removeAll ∈ LW := LW_i 357 (by decide +kernel) rfl
theorem ml_X6_20 : Cond.methodLink RX6 20 yX7_pastBlanks ∈ LW := LW_i 361 (by decide +kernel) rfl
theorem ml_X6_30 : Cond.methodLink RX6 30 yX6_isAtEnd ∈ LW := LW_i 365 (by decide +kernel) rfl
theorem ml_X6_34 : Cond.methodLink RX6 34 yX6_readEquation ∈ LW := LW_i 370 (by decide +kernel) rfl
theorem ml_X6_38 : Cond.methodLink RX6 38 yX6_isOn ∈ LW := LW_i 393 (by decide +kernel) rfl
theorem ml_X6_42 : Cond.methodLink RX6 42 yX6_step ∈ LW := LW_i 389 (by decide +kernel) rfl
theorem ml_X6_45 : Cond.methodLink RX6 45 yX6_signalHere ∈ LW := LW_i 374 (by decide +kernel) rfl
theorem ml_X6_49 : Cond.methodLink RX6 49 yX1_has ∈ LW := LW_i 382 (by decide +kernel) rfl
theorem ml_X6_53 : Cond.methodLink RX6 53 yX1_addEquation ∈ LW := LW_i 397 (by decide +kernel) rfl
theorem ml_X6_57 : Cond.methodLink RX6 57 yX1_addConstant ∈ LW := LW_i 401 (by decide +kernel) rfl
theorem ml_X6_61 : Cond.methodLink RX6 61 yX6_readTerms ∈ LW := LW_i 409 (by decide +kernel) rfl
theorem ml_X6_65 : Cond.methodLink RX6 65 yX6_readTerm ∈ LW := LW_i 413 (by decide +kernel) rfl
theorem ml_X6_68 : Cond.methodLink RX6 68 yX1_addTerm ∈ LW := LW_i 417 (by decide +kernel) rfl
theorem ml_X6_72 : Cond.methodLink RX6 72 yX7_byteAt ∈ LW := LW_i 378 (by decide +kernel) rfl
theorem ml_X6_75 : Cond.methodLink RX6 75 yX7_size ∈ LW := LW_i 369 (by decide +kernel) rfl
theorem pw_X6_26 : Pw RX6 26 6 1 .int := ⟨RX6, TX6, 2, tyX6, rfl, by decide, lay_X6, LW_i 50 (by decide +kernel) rfl, tyX6_ok, nmX6, rfl, rfl⟩
theorem fw_X7_9 : Fw RX7 9 7 0 := ⟨RX7, TX7, 2, rfl, by decide, lay_X7, LW_i 35 (by decide +kernel) rfl⟩
theorem fw_X7_15 : Fw RX7 15 7 1 := ⟨RX7, TX7, 2, rfl, by decide, lay_X7, LW_i 36 (by decide +kernel) rfl⟩
theorem pw_X7_15 : Pw RX7 15 7 1 .int := ⟨RX7, TX7, 2, tyX7, rfl, by decide, lay_X7, LW_i 36 (by decide +kernel) rfl, tyX7_ok, nmX7, rfl, rfl⟩
theorem fw_X8_11 : Fw RX8 11 8 1 := ⟨RX8, TX8, 6, rfl, by decide, lay_X8, LW_i 272 (by decide +kernel) rfl⟩
theorem fw_X8_16 : Fw RX8 16 8 2 := ⟨RX8, TX8, 6, rfl, by decide, lay_X8, LW_i 273 (by decide +kernel) rfl⟩
theorem fw_X8_20 : Fw RX8 20 8 0 := ⟨RX8, TX8, 6, rfl, by decide, lay_X8, LW_i 271 (by decide +kernel) rfl⟩
theorem fw_X8_24 : Fw RX8 24 8 5 := ⟨RX8, TX8, 6, rfl, by decide, lay_X8, LW_i 276 (by decide +kernel) rfl⟩
theorem fw_X8_41 : Fw RX8 41 8 3 := ⟨RX8, TX8, 6, rfl, by decide, lay_X8, LW_i 274 (by decide +kernel) rfl⟩
theorem fw_X8_44 : Fw RX8 44 8 4 := ⟨RX8, TX8, 6, rfl, by decide, lay_X8, LW_i 275 (by decide +kernel) rfl⟩
theorem mn_X8_64 : (RX8, 64, yX11_isIn, "GateWalk") ∈ NWL := by decide +kernel
theorem ml_X8_77 : Cond.methodLink RX8 77 yX8_later ∈ LW := LW_i 961 (by decide +kernel) rfl
theorem ml_X8_80 : Cond.methodLink RX8 80 yJ9_max_7cf53 ∈ LW := LW_i 964 (by decide +kernel) rfl
theorem ml_X8_28 : Cond.methodLink RX8 28 yX8_orderArcs ∈ LW := LW_i 937 (by decide +kernel) rfl
theorem ml_X8_31 : Cond.methodLink RX8 31 yX8_fill ∈ LW := LW_i 950 (by decide +kernel) rfl
theorem ml_X8_35 : Cond.methodLink RX8 35 yX4_delayOf ∈ LW := LW_i 960 (by decide +kernel) rfl
theorem ml_X8_47 : Cond.methodLink RX8 47 yX4_nodes ∈ LW := LW_i 941 (by decide +kernel) rfl
theorem ml_X8_51 : Cond.methodLink RX8 51 yX4_freedBy ∈ LW := LW_i 942 (by decide +kernel) rfl
theorem ml_X8_55 : Cond.methodLink RX8 55 yX8_appendArcsTo ∈ LW := LW_i 943 (by decide +kernel) rfl
theorem ml_X8_58 : Cond.methodLink RX8 58 yX4_arcs ∈ LW := LW_i 947 (by decide +kernel) rfl
theorem ml_X8_61 : Cond.methodLink RX8 61 yX4_targetOf ∈ LW := LW_i 948 (by decide +kernel) rfl
theorem ml_X8_68 : Cond.methodLink RX8 68 yX4_sourceOf ∈ LW := LW_i 954 (by decide +kernel) rfl
theorem ml_X8_71 : Cond.methodLink RX8 71 yX4_tokensOf ∈ LW := LW_i 955 (by decide +kernel) rfl
theorem ml_X8_74 : Cond.methodLink RX8 74 yX8_doneAt ∈ LW := LW_i 956 (by decide +kernel) rfl
theorem pw_X8_24 : Pw RX8 24 8 5 .int := ⟨RX8, TX8, 6, tyX8, rfl, by decide, lay_X8, LW_i 276 (by decide +kernel) rfl, tyX8_ok, nmX8, rfl, rfl⟩
theorem pw_X8_41 : Pw RX8 41 8 3 .int := ⟨RX8, TX8, 6, tyX8, rfl, by decide, lay_X8, LW_i 274 (by decide +kernel) rfl, tyX8_ok, nmX8, rfl, rfl⟩
theorem pw_X8_44 : Pw RX8 44 8 4 .int := ⟨RX8, TX8, 6, tyX8, rfl, by decide, lay_X8, LW_i 275 (by decide +kernel) rfl, tyX8_ok, nmX8, rfl, rfl⟩
theorem fw_X9_12 : Fw RX9 12 9 1 := ⟨RX9, TX9, 11, rfl, by decide, lay_X9, LW_i 230 (by decide +kernel) rfl⟩
theorem fw_X9_18 : Fw RX9 18 9 2 := ⟨RX9, TX9, 11, rfl, by decide, lay_X9, LW_i 231 (by decide +kernel) rfl⟩
theorem fw_X9_21 : Fw RX9 21 9 3 := ⟨RX9, TX9, 11, rfl, by decide, lay_X9, LW_i 232 (by decide +kernel) rfl⟩
theorem fw_X9_24 : Fw RX9 24 9 4 := ⟨RX9, TX9, 11, rfl, by decide, lay_X9, LW_i 233 (by decide +kernel) rfl⟩
theorem fw_X9_28 : Fw RX9 28 9 5 := ⟨RX9, TX9, 11, rfl, by decide, lay_X9, LW_i 234 (by decide +kernel) rfl⟩
theorem fw_X9_31 : Fw RX9 31 9 10 := ⟨RX9, TX9, 11, rfl, by decide, lay_X9, LW_i 239 (by decide +kernel) rfl⟩
theorem fw_X9_35 : Fw RX9 35 9 0 := ⟨RX9, TX9, 11, rfl, by decide, lay_X9, LW_i 229 (by decide +kernel) rfl⟩
theorem fw_X9_39 : Fw RX9 39 9 6 := ⟨RX9, TX9, 11, rfl, by decide, lay_X9, LW_i 235 (by decide +kernel) rfl⟩
theorem fw_X9_43 : Fw RX9 43 9 8 := ⟨RX9, TX9, 11, rfl, by decide, lay_X9, LW_i 237 (by decide +kernel) rfl⟩
theorem fw_X9_55 : Fw RX9 55 9 7 := ⟨RX9, TX9, 11, rfl, by decide, lay_X9, LW_i 236 (by decide +kernel) rfl⟩
theorem fw_X9_69 : Fw RX9 69 9 9 := ⟨RX9, TX9, 11, rfl, by decide, lay_X9, LW_i 238 (by decide +kernel) rfl⟩
theorem mn_X9_11 : (RX9, 11, yX5_init, "GateWalk") ∈ NWL := by decide +kernel
theorem ml_X9_98 : Cond.methodLink RX9 98 yJ7_fill_53178 ∈ LW := LW_i 751 (by decide +kernel) rfl
theorem ml_X9_46 : Cond.methodLink RX9 46 yX4_hasRing ∈ LW := LW_i 733 (by decide +kernel) rfl
theorem ml_X9_52 : Cond.methodLink RX9 52 yX4_hasDeadRing ∈ LW := LW_i 737 (by decide +kernel) rfl
theorem ml_X9_58 : Cond.methodLink RX9 58 yX9_findGreatest ∈ LW := LW_i 738 (by decide +kernel) rfl
theorem ml_X9_62 : Cond.methodLink RX9 62 yX5_top ∈ LW := LW_i 776 (by decide +kernel) rfl
theorem ml_X9_66 : Cond.methodLink RX9 66 yX5_bottom ∈ LW := LW_i 768 (by decide +kernel) rfl
theorem ml_X9_72 : Cond.methodLink RX9 72 yX5_putAs ∈ LW := LW_i 823 (by decide +kernel) rfl
theorem ml_X9_75 : Cond.methodLink RX9 75 yX4_arcs ∈ LW := LW_i 760 (by decide +kernel) rfl
theorem ml_X9_78 : Cond.methodLink RX9 78 yX5_isLess ∈ LW := LW_i 827 (by decide +kernel) rfl
theorem ml_X9_82 : Cond.methodLink RX9 82 yX5_putBelowAll ∈ LW := LW_i 742 (by decide +kernel) rfl
theorem ml_X9_86 : Cond.methodLink RX9 86 yX9_nodeBehindGreaterRing ∈ LW := LW_i 747 (by decide +kernel) rfl
theorem ml_X9_90 : Cond.methodLink RX9 90 yX9_nodeOnRing ∈ LW := LW_i 792 (by decide +kernel) rfl
theorem ml_X9_94 : Cond.methodLink RX9 94 yX9_putRing ∈ LW := LW_i 796 (by decide +kernel) rfl
theorem ml_X9_104 : Cond.methodLink RX9 104 yX4_nodes ∈ LW := LW_i 752 (by decide +kernel) rfl
theorem ml_X9_107 : Cond.methodLink RX9 107 yX9_growPaths ∈ LW := LW_i 756 (by decide +kernel) rfl
theorem ml_X9_110 : Cond.methodLink RX9 110 yX4_targetOf ∈ LW := LW_i 764 (by decide +kernel) rfl
theorem ml_X9_113 : Cond.methodLink RX9 113 yX4_delayOf ∈ LW := LW_i 772 (by decide +kernel) rfl
theorem ml_X9_116 : Cond.methodLink RX9 116 yX9_tokensOn ∈ LW := LW_i 780 (by decide +kernel) rfl
theorem ml_X9_119 : Cond.methodLink RX9 119 yX4_sourceOf ∈ LW := LW_i 788 (by decide +kernel) rfl
theorem ml_X9_122 : Cond.methodLink RX9 122 yX4_tokensOf ∈ LW := LW_i 784 (by decide +kernel) rfl
theorem ml_X9_125 : Cond.methodLink RX9 125 yX5_put ∈ LW := LW_i 800 (by decide +kernel) rfl
theorem kw_X9_85 : Cond.constant RX9 85 (1000000) ∈ LW := LW_i 746 (by decide +kernel) rfl
theorem pw_X9_31 : Pw RX9 31 9 10 .int := ⟨RX9, TX9, 11, tyX9, rfl, by decide, lay_X9, LW_i 239 (by decide +kernel) rfl, tyX9_ok, nmX9, rfl, rfl⟩
theorem pw_X9_39 : Pw RX9 39 9 6 .boolean := ⟨RX9, TX9, 11, tyX9, rfl, by decide, lay_X9, LW_i 235 (by decide +kernel) rfl, tyX9_ok, nmX9, rfl, rfl⟩
theorem pw_X9_43 : Pw RX9 43 9 8 .boolean := ⟨RX9, TX9, 11, tyX9, rfl, by decide, lay_X9, LW_i 237 (by decide +kernel) rfl, tyX9_ok, nmX9, rfl, rfl⟩
theorem pw_X9_55 : Pw RX9 55 9 7 .boolean := ⟨RX9, TX9, 11, tyX9, rfl, by decide, lay_X9, LW_i 236 (by decide +kernel) rfl, tyX9_ok, nmX9, rfl, rfl⟩
theorem pw_X9_69 : Pw RX9 69 9 9 .int := ⟨RX9, TX9, 11, tyX9, rfl, by decide, lay_X9, LW_i 238 (by decide +kernel) rfl, tyX9_ok, nmX9, rfl, rfl⟩
theorem cw_X0_init : Cw yX0_init cX0_init 1 none 0 := ⟨LW_i 4 (by decide +kernel) rfl, LW_i 60 (by decide +kernel) rfl, by decide +kernel⟩
theorem cw_X0_begin : Cw yX0_begin cX0_begin 4 (some (.object "GateWalk$Equations")) 2 := ⟨LW_i 4 (by decide +kernel) rfl, LW_i 428 (by decide +kernel) rfl, by decide +kernel⟩
theorem vw_X0_begin : Vw yX0_begin := ⟨LW_i 426 (by decide +kernel) rfl, LW_i 427 (by decide +kernel) rfl⟩
theorem cw_X0_equations : Cw yX0_equations cX0_equations 1 (some .int) 0 := ⟨LW_i 4 (by decide +kernel) rfl, LW_i 838 (by decide +kernel) rfl, by decide +kernel⟩
theorem vw_X0_equations : Vw yX0_equations := ⟨LW_i 836 (by decide +kernel) rfl, LW_i 837 (by decide +kernel) rfl⟩
theorem cw_X0_terms : Cw yX0_terms cX0_terms 1 (some .int) 0 := ⟨LW_i 4 (by decide +kernel) rfl, LW_i 842 (by decide +kernel) rfl, by decide +kernel⟩
theorem vw_X0_terms : Vw yX0_terms := ⟨LW_i 840 (by decide +kernel) rfl, LW_i 841 (by decide +kernel) rfl⟩
theorem cw_X0_resetState : Cw yX0_resetState cX0_resetState 1 (some .int) 0 := ⟨LW_i 4 (by decide +kernel) rfl, LW_i 501 (by decide +kernel) rfl, by decide +kernel⟩
theorem vw_X0_resetState : Vw yX0_resetState := ⟨LW_i 499 (by decide +kernel) rfl, LW_i 500 (by decide +kernel) rfl⟩
theorem cw_X0_isPair : Cw yX0_isPair cX0_isPair 3 (some .boolean) 2 := ⟨LW_i 4 (by decide +kernel) rfl, LW_i 455 (by decide +kernel) rfl, by decide +kernel⟩
theorem vw_X0_isPair : Vw yX0_isPair := ⟨LW_i 453 (by decide +kernel) rfl, LW_i 454 (by decide +kernel) rfl⟩
theorem cw_X0_turnPair : Cw yX0_turnPair cX0_turnPair 3 none 2 := ⟨LW_i 4 (by decide +kernel) rfl, LW_i 460 (by decide +kernel) rfl, by decide +kernel⟩
theorem vw_X0_turnPair : Vw yX0_turnPair := ⟨LW_i 458 (by decide +kernel) rfl, LW_i 459 (by decide +kernel) rfl⟩
theorem cw_X0_isStuck : Cw yX0_isStuck cX0_isStuck 2 (some .boolean) 1 := ⟨LW_i 4 (by decide +kernel) rfl, LW_i 468 (by decide +kernel) rfl, by decide +kernel⟩
theorem vw_X0_isStuck : Vw yX0_isStuck := ⟨LW_i 466 (by decide +kernel) rfl, LW_i 467 (by decide +kernel) rfl⟩
theorem cw_X0_turnStuck : Cw yX0_turnStuck cX0_turnStuck 2 none 1 := ⟨LW_i 4 (by decide +kernel) rfl, LW_i 472 (by decide +kernel) rfl, by decide +kernel⟩
theorem vw_X0_turnStuck : Vw yX0_turnStuck := ⟨LW_i 470 (by decide +kernel) rfl, LW_i 471 (by decide +kernel) rfl⟩
theorem cw_X0_askedIn : Cw yX0_askedIn cX0_askedIn 2 (some .int) 1 := ⟨LW_i 4 (by decide +kernel) rfl, LW_i 480 (by decide +kernel) rfl, by decide +kernel⟩
theorem vw_X0_askedIn : Vw yX0_askedIn := ⟨LW_i 478 (by decide +kernel) rfl, LW_i 479 (by decide +kernel) rfl⟩
theorem cw_X0_takenBackBy : Cw yX0_takenBackBy cX0_takenBackBy 4 (some .int) 2 := ⟨LW_i 4 (by decide +kernel) rfl, LW_i 552 (by decide +kernel) rfl, by decide +kernel⟩
theorem vw_X0_takenBackBy : Vw yX0_takenBackBy := ⟨LW_i 550 (by decide +kernel) rfl, LW_i 551 (by decide +kernel) rfl⟩
theorem cw_X0_runByLots : Cw yX0_runByLots cX0_runByLots 12 (some .int) 3 := ⟨LW_i 4 (by decide +kernel) rfl, LW_i 641 (by decide +kernel) rfl, by decide +kernel⟩
theorem vw_X0_runByLots : Vw yX0_runByLots := ⟨LW_i 639 (by decide +kernel) rfl, LW_i 640 (by decide +kernel) rfl⟩
theorem cw_X0_signalInPlace : Cw yX0_signalInPlace cX0_signalInPlace 4 (some .int) 2 := ⟨LW_i 4 (by decide +kernel) rfl, LW_i 647 (by decide +kernel) rfl, by decide +kernel⟩
theorem sw_X0_signalInPlace : Cond.static yX0_signalInPlace ∈ LW := LW_i 646 (by decide +kernel) rfl
theorem cw_X1_init : Cw yX1_init cX1_init 1 none 0 := ⟨LW_i 5 (by decide +kernel) rfl, LW_i 66 (by decide +kernel) rfl, by decide +kernel⟩
theorem cw_X1_removeAll : Cw yX1_removeAll cX1_removeAll 1 none 0 := ⟨LW_i 5 (by decide +kernel) rfl, LW_i 360 (by decide +kernel) rfl, by decide +kernel⟩
theorem vw_X1_removeAll : Vw yX1_removeAll := ⟨LW_i 358 (by decide +kernel) rfl, LW_i 359 (by decide +kernel) rfl⟩
theorem cw_X1_has : Cw yX1_has cX1_has 2 (some .boolean) 1 := ⟨LW_i 5 (by decide +kernel) rfl, LW_i 385 (by decide +kernel) rfl, by decide +kernel⟩
theorem vw_X1_has : Vw yX1_has := ⟨LW_i 383 (by decide +kernel) rfl, LW_i 384 (by decide +kernel) rfl⟩
theorem cw_X1_addEquation : Cw yX1_addEquation cX1_addEquation 2 none 1 := ⟨LW_i 5 (by decide +kernel) rfl, LW_i 400 (by decide +kernel) rfl, by decide +kernel⟩
theorem vw_X1_addEquation : Vw yX1_addEquation := ⟨LW_i 398 (by decide +kernel) rfl, LW_i 399 (by decide +kernel) rfl⟩
theorem cw_X1_addConstant : Cw yX1_addConstant cX1_addConstant 4 none 2 := ⟨LW_i 5 (by decide +kernel) rfl, LW_i 404 (by decide +kernel) rfl, by decide +kernel⟩
theorem vw_X1_addConstant : Vw yX1_addConstant := ⟨LW_i 402 (by decide +kernel) rfl, LW_i 403 (by decide +kernel) rfl⟩
theorem cw_X1_addTerm : Cw yX1_addTerm cX1_addTerm 4 none 3 := ⟨LW_i 5 (by decide +kernel) rfl, LW_i 408 (by decide +kernel) rfl, by decide +kernel⟩
theorem vw_X1_addTerm : Vw yX1_addTerm := ⟨LW_i 406 (by decide +kernel) rfl, LW_i 407 (by decide +kernel) rfl⟩
theorem cw_X1_terms : Cw yX1_terms cX1_terms 1 (some .int) 0 := ⟨LW_i 5 (by decide +kernel) rfl, LW_i 846 (by decide +kernel) rfl, by decide +kernel⟩
theorem vw_X1_terms : Vw yX1_terms := ⟨LW_i 844 (by decide +kernel) rfl, LW_i 845 (by decide +kernel) rfl⟩
theorem cw_X1_signals : Cw yX1_signals cX1_signals 1 (some .int) 0 := ⟨LW_i 5 (by decide +kernel) rfl, LW_i 488 (by decide +kernel) rfl, by decide +kernel⟩
theorem vw_X1_signals : Vw yX1_signals := ⟨LW_i 486 (by decide +kernel) rfl, LW_i 487 (by decide +kernel) rfl⟩
theorem cw_X1_valuesIn : Cw yX1_valuesIn cX1_valuesIn 4 (some .int) 1 := ⟨LW_i 5 (by decide +kernel) rfl, LW_i 484 (by decide +kernel) rfl, by decide +kernel⟩
theorem vw_X1_valuesIn : Vw yX1_valuesIn := ⟨LW_i 482 (by decide +kernel) rfl, LW_i 483 (by decide +kernel) rfl⟩
theorem cw_X2_init : Cw yX2_init cX2_init 3 none 2 := ⟨LW_i 8 (by decide +kernel) rfl, LW_i 138 (by decide +kernel) rfl, by decide +kernel⟩
theorem cw_X2_forget : Cw yX2_forget cX2_forget 1 none 0 := ⟨LW_i 8 (by decide +kernel) rfl, LW_i 440 (by decide +kernel) rfl, by decide +kernel⟩
theorem vw_X2_forget : Vw yX2_forget := ⟨LW_i 438 (by decide +kernel) rfl, LW_i 439 (by decide +kernel) rfl⟩
theorem cw_X2_renew : Cw yX2_renew cX2_renew 2 none 0 := ⟨LW_i 8 (by decide +kernel) rfl, LW_i 540 (by decide +kernel) rfl, by decide +kernel⟩
theorem vw_X2_renew : Vw yX2_renew := ⟨LW_i 538 (by decide +kernel) rfl, LW_i 539 (by decide +kernel) rfl⟩
theorem cw_X2_hazardsIn : Cw yX2_hazardsIn cX2_hazardsIn 5 (some .int) 1 := ⟨LW_i 8 (by decide +kernel) rfl, LW_i 546 (by decide +kernel) rfl, by decide +kernel⟩
theorem vw_X2_hazardsIn : Vw yX2_hazardsIn := ⟨LW_i 545 (by decide +kernel) rfl, LW_s (List.mem_of_getElem? (i := 10) (by decide +kernel)) rfl⟩
theorem cw_X2_size : Cw yX2_size cX2_size 1 (some .int) 0 := ⟨LW_i 8 (by decide +kernel) rfl, LW_i 850 (by decide +kernel) rfl, by decide +kernel⟩
theorem vw_X2_size : Vw yX2_size := ⟨LW_i 848 (by decide +kernel) rfl, LW_i 849 (by decide +kernel) rfl⟩
theorem cw_X2_partOf : Cw yX2_partOf cX2_partOf 5 (some .int) 2 := ⟨LW_i 8 (by decide +kernel) rfl, LW_i 563 (by decide +kernel) rfl, by decide +kernel⟩
theorem vw_X2_partOf : Vw yX2_partOf := ⟨LW_i 561 (by decide +kernel) rfl, LW_i 562 (by decide +kernel) rfl⟩
theorem cw_X2_placeWith : Cw yX2_placeWith cX2_placeWith 6 (some .int) 1 := ⟨LW_i 8 (by decide +kernel) rfl, LW_i 567 (by decide +kernel) rfl, by decide +kernel⟩
theorem vw_X2_placeWith : Vw yX2_placeWith := ⟨LW_i 566 (by decide +kernel) rfl, LW_s (List.mem_of_getElem? (i := 11) (by decide +kernel)) rfl⟩
theorem cw_X2_signalOf : Cw yX2_signalOf cX2_signalOf 8 (some .int) 3 := ⟨LW_i 8 (by decide +kernel) rfl, LW_i 571 (by decide +kernel) rfl, by decide +kernel⟩
theorem vw_X2_signalOf : Vw yX2_signalOf := ⟨LW_i 570 (by decide +kernel) rfl, LW_s (List.mem_of_getElem? (i := 12) (by decide +kernel)) rfl⟩
theorem cw_X3_init : Cw yX3_init cX3_init 3 none 2 := ⟨LW_i 9 (by decide +kernel) rfl, LW_i 160 (by decide +kernel) rfl, by decide +kernel⟩
theorem cw_X3_forget : Cw yX3_forget cX3_forget 1 none 0 := ⟨LW_i 9 (by decide +kernel) rfl, LW_i 444 (by decide +kernel) rfl, by decide +kernel⟩
theorem vw_X3_forget : Vw yX3_forget := ⟨LW_i 442 (by decide +kernel) rfl, LW_i 443 (by decide +kernel) rfl⟩
theorem cw_X3_isLive : Cw yX3_isLive cX3_isLive 2 (some .boolean) 1 := ⟨LW_i 9 (by decide +kernel) rfl, LW_i 605 (by decide +kernel) rfl, by decide +kernel⟩
theorem vw_X3_isLive : Vw yX3_isLive := ⟨LW_i 603 (by decide +kernel) rfl, LW_i 604 (by decide +kernel) rfl⟩
theorem cw_X3_leadsThereFromAll : Cw yX3_leadsThereFromAll cX3_leadsThereFromAll 4 (some .boolean) 1 := ⟨LW_i 9 (by decide +kernel) rfl, LW_i 610 (by decide +kernel) rfl, by decide +kernel⟩
theorem vw_X3_leadsThereFromAll : Vw yX3_leadsThereFromAll := ⟨LW_i 609 (by decide +kernel) rfl, LW_s (List.mem_of_getElem? (i := 13) (by decide +kernel)) rfl⟩
theorem cw_X3_goBackFrom : Cw yX3_goBackFrom cX3_goBackFrom 4 none 1 := ⟨LW_i 9 (by decide +kernel) rfl, LW_i 621 (by decide +kernel) rfl, by decide +kernel⟩
theorem vw_X3_goBackFrom : Vw yX3_goBackFrom := ⟨LW_i 620 (by decide +kernel) rfl, LW_s (List.mem_of_getElem? (i := 15) (by decide +kernel)) rfl⟩
theorem cw_X3_find : Cw yX3_find cX3_find 2 none 1 := ⟨LW_i 9 (by decide +kernel) rfl, LW_i 617 (by decide +kernel) rfl, by decide +kernel⟩
theorem vw_X3_find : Vw yX3_find := ⟨LW_i 616 (by decide +kernel) rfl, LW_s (List.mem_of_getElem? (i := 14) (by decide +kernel)) rfl⟩
theorem cw_X4_init : Cw yX4_init cX4_init 1 none 0 := ⟨LW_i 10 (by decide +kernel) rfl, LW_i 189 (by decide +kernel) rfl, by decide +kernel⟩
theorem cw_X4_removeAll : Cw yX4_removeAll cX4_removeAll 1 none 0 := ⟨LW_i 10 (by decide +kernel) rfl, LW_i 702 (by decide +kernel) rfl, by decide +kernel⟩
theorem vw_X4_removeAll : Vw yX4_removeAll := ⟨LW_i 700 (by decide +kernel) rfl, LW_i 701 (by decide +kernel) rfl⟩
theorem cw_X4_addNode : Cw yX4_addNode cX4_addNode 2 (some .int) 1 := ⟨LW_i 10 (by decide +kernel) rfl, LW_i 659 (by decide +kernel) rfl, by decide +kernel⟩
theorem vw_X4_addNode : Vw yX4_addNode := ⟨LW_i 657 (by decide +kernel) rfl, LW_i 658 (by decide +kernel) rfl⟩
theorem cw_X4_addArc : Cw yX4_addArc cX4_addArc 4 (some .int) 3 := ⟨LW_i 10 (by decide +kernel) rfl, LW_i 679 (by decide +kernel) rfl, by decide +kernel⟩
theorem vw_X4_addArc : Vw yX4_addArc := ⟨LW_i 677 (by decide +kernel) rfl, LW_i 678 (by decide +kernel) rfl⟩
theorem cw_X4_putTokens : Cw yX4_putTokens cX4_putTokens 3 (some .boolean) 2 := ⟨LW_i 10 (by decide +kernel) rfl, LW_i 694 (by decide +kernel) rfl, by decide +kernel⟩
theorem vw_X4_putTokens : Vw yX4_putTokens := ⟨LW_i 692 (by decide +kernel) rfl, LW_i 693 (by decide +kernel) rfl⟩
theorem cw_X4_isTokens : Cw yX4_isTokens cX4_isTokens 1 (some .boolean) 1 := ⟨LW_i 10 (by decide +kernel) rfl, LW_i 686 (by decide +kernel) rfl, by decide +kernel⟩
theorem sw_X4_isTokens : Cond.static yX4_isTokens ∈ LW := LW_i 685 (by decide +kernel) rfl
theorem cw_X4_isNode : Cw yX4_isNode cX4_isNode 2 (some .boolean) 1 := ⟨LW_i 10 (by decide +kernel) rfl, LW_i 683 (by decide +kernel) rfl, by decide +kernel⟩
theorem vw_X4_isNode : Vw yX4_isNode := ⟨LW_i 681 (by decide +kernel) rfl, LW_i 682 (by decide +kernel) rfl⟩
theorem cw_X4_nodes : Cw yX4_nodes cX4_nodes 1 (some .int) 0 := ⟨LW_i 10 (by decide +kernel) rfl, LW_i 755 (by decide +kernel) rfl, by decide +kernel⟩
theorem vw_X4_nodes : Vw yX4_nodes := ⟨LW_i 753 (by decide +kernel) rfl, LW_i 754 (by decide +kernel) rfl⟩
theorem cw_X4_arcs : Cw yX4_arcs cX4_arcs 1 (some .int) 0 := ⟨LW_i 10 (by decide +kernel) rfl, LW_i 763 (by decide +kernel) rfl, by decide +kernel⟩
theorem vw_X4_arcs : Vw yX4_arcs := ⟨LW_i 761 (by decide +kernel) rfl, LW_i 762 (by decide +kernel) rfl⟩
theorem cw_X4_delayOf : Cw yX4_delayOf cX4_delayOf 2 (some .int) 1 := ⟨LW_i 10 (by decide +kernel) rfl, LW_i 775 (by decide +kernel) rfl, by decide +kernel⟩
theorem vw_X4_delayOf : Vw yX4_delayOf := ⟨LW_i 773 (by decide +kernel) rfl, LW_i 774 (by decide +kernel) rfl⟩
theorem cw_X4_sourceOf : Cw yX4_sourceOf cX4_sourceOf 2 (some .int) 1 := ⟨LW_i 10 (by decide +kernel) rfl, LW_i 791 (by decide +kernel) rfl, by decide +kernel⟩
theorem vw_X4_sourceOf : Vw yX4_sourceOf := ⟨LW_i 789 (by decide +kernel) rfl, LW_i 790 (by decide +kernel) rfl⟩
theorem cw_X4_targetOf : Cw yX4_targetOf cX4_targetOf 2 (some .int) 1 := ⟨LW_i 10 (by decide +kernel) rfl, LW_i 767 (by decide +kernel) rfl, by decide +kernel⟩
theorem vw_X4_targetOf : Vw yX4_targetOf := ⟨LW_i 765 (by decide +kernel) rfl, LW_i 766 (by decide +kernel) rfl⟩
theorem cw_X4_tokensOf : Cw yX4_tokensOf cX4_tokensOf 2 (some .int) 1 := ⟨LW_i 10 (by decide +kernel) rfl, LW_i 787 (by decide +kernel) rfl, by decide +kernel⟩
theorem vw_X4_tokensOf : Vw yX4_tokensOf := ⟨LW_i 785 (by decide +kernel) rfl, LW_i 786 (by decide +kernel) rfl⟩
theorem cw_X4_allNodes : Cw yX4_allNodes cX4_allNodes 1 (some .int) 0 := ⟨LW_i 10 (by decide +kernel) rfl, LW_i 723 (by decide +kernel) rfl, by decide +kernel⟩
theorem vw_X4_allNodes : Vw yX4_allNodes := ⟨LW_i 721 (by decide +kernel) rfl, LW_i 722 (by decide +kernel) rfl⟩
theorem cw_X4_hasDeadRing : Cw yX4_hasDeadRing cX4_hasDeadRing 1 (some .boolean) 0 := ⟨LW_i 10 (by decide +kernel) rfl, LW_i 710 (by decide +kernel) rfl, by decide +kernel⟩
theorem vw_X4_hasDeadRing : Vw yX4_hasDeadRing := ⟨LW_i 708 (by decide +kernel) rfl, LW_i 709 (by decide +kernel) rfl⟩
theorem cw_X4_hasRing : Cw yX4_hasRing cX4_hasRing 1 (some .boolean) 0 := ⟨LW_i 10 (by decide +kernel) rfl, LW_i 736 (by decide +kernel) rfl, by decide +kernel⟩
theorem vw_X4_hasRing : Vw yX4_hasRing := ⟨LW_i 734 (by decide +kernel) rfl, LW_i 735 (by decide +kernel) rfl⟩
theorem cw_X4_nodesBehindRings : Cw yX4_nodesBehindRings cX4_nodesBehindRings 4 (some .int) 1 := ⟨LW_i 10 (by decide +kernel) rfl, LW_i 714 (by decide +kernel) rfl, by decide +kernel⟩
theorem vw_X4_nodesBehindRings : Vw yX4_nodesBehindRings := ⟨LW_i 713 (by decide +kernel) rfl, LW_s (List.mem_of_getElem? (i := 17) (by decide +kernel)) rfl⟩
theorem cw_X4_freedBy : Cw yX4_freedBy cX4_freedBy 5 (some .int) 2 := ⟨LW_i 10 (by decide +kernel) rfl, LW_i 718 (by decide +kernel) rfl, by decide +kernel⟩
theorem vw_X4_freedBy : Vw yX4_freedBy := ⟨LW_i 716 (by decide +kernel) rfl, LW_i 717 (by decide +kernel) rfl⟩
theorem cw_X5_init : Cw yX5_init cX5_init 1 none 0 := ⟨LW_i 12 (by decide +kernel) rfl, LW_i 220 (by decide +kernel) rfl, by decide +kernel⟩
theorem cw_X5_putBelowAll : Cw yX5_putBelowAll cX5_putBelowAll 1 none 0 := ⟨LW_i 12 (by decide +kernel) rfl, LW_i 745 (by decide +kernel) rfl, by decide +kernel⟩
theorem vw_X5_putBelowAll : Vw yX5_putBelowAll := ⟨LW_i 743 (by decide +kernel) rfl, LW_i 744 (by decide +kernel) rfl⟩
theorem cw_X5_put : Cw yX5_put cX5_put 4 none 2 := ⟨LW_i 12 (by decide +kernel) rfl, LW_i 803 (by decide +kernel) rfl, by decide +kernel⟩
theorem vw_X5_put : Vw yX5_put := ⟨LW_i 801 (by decide +kernel) rfl, LW_i 802 (by decide +kernel) rfl⟩
theorem cw_X5_putAs : Cw yX5_putAs cX5_putAs 2 none 1 := ⟨LW_i 12 (by decide +kernel) rfl, LW_i 826 (by decide +kernel) rfl, by decide +kernel⟩
theorem vw_X5_putAs : Vw yX5_putAs := ⟨LW_i 824 (by decide +kernel) rfl, LW_i 825 (by decide +kernel) rfl⟩
theorem cw_X5_top : Cw yX5_top cX5_top 1 (some .int) 0 := ⟨LW_i 12 (by decide +kernel) rfl, LW_i 779 (by decide +kernel) rfl, by decide +kernel⟩
theorem vw_X5_top : Vw yX5_top := ⟨LW_i 777 (by decide +kernel) rfl, LW_i 778 (by decide +kernel) rfl⟩
theorem cw_X5_bottom : Cw yX5_bottom cX5_bottom 1 (some .int) 0 := ⟨LW_i 12 (by decide +kernel) rfl, LW_i 771 (by decide +kernel) rfl, by decide +kernel⟩
theorem vw_X5_bottom : Vw yX5_bottom := ⟨LW_i 769 (by decide +kernel) rfl, LW_i 770 (by decide +kernel) rfl⟩
theorem cw_X5_isLess : Cw yX5_isLess cX5_isLess 2 (some .boolean) 1 := ⟨LW_i 12 (by decide +kernel) rfl, LW_i 830 (by decide +kernel) rfl, by decide +kernel⟩
theorem vw_X5_isLess : Vw yX5_isLess := ⟨LW_i 828 (by decide +kernel) rfl, LW_i 829 (by decide +kernel) rfl⟩
theorem cw_X5_commonDivisor : Cw yX5_commonDivisor cX5_commonDivisor 6 (some .int) 2 := ⟨LW_i 12 (by decide +kernel) rfl, LW_i 806 (by decide +kernel) rfl, by decide +kernel⟩
theorem sw_X5_commonDivisor : Cond.static yX5_commonDivisor ∈ LW := LW_i 805 (by decide +kernel) rfl
theorem cw_X6_init : Cw yX6_init cX6_init 2 none 1 := ⟨LW_i 3 (by decide +kernel) rfl, LW_i 47 (by decide +kernel) rfl, by decide +kernel⟩
theorem cw_X6_read : Cw yX6_read cX6_read 3 (some .int) 1 := ⟨LW_i 3 (by decide +kernel) rfl, LW_i 356 (by decide +kernel) rfl, by decide +kernel⟩
theorem vw_X6_read : Vw yX6_read := ⟨LW_i 354 (by decide +kernel) rfl, LW_i 355 (by decide +kernel) rfl⟩
theorem cw_X6_readEquation : Cw yX6_readEquation cX6_readEquation 3 (some .boolean) 1 := ⟨LW_i 3 (by decide +kernel) rfl, LW_i 373 (by decide +kernel) rfl, by decide +kernel⟩
theorem vw_X6_readEquation : Vw yX6_readEquation := ⟨LW_i 372 (by decide +kernel) rfl, LW_s (List.mem_of_getElem? (i := 1) (by decide +kernel)) rfl⟩
theorem cw_X6_readTerms : Cw yX6_readTerms cX6_readTerms 4 (some .boolean) 2 := ⟨LW_i 3 (by decide +kernel) rfl, LW_i 412 (by decide +kernel) rfl, by decide +kernel⟩
theorem vw_X6_readTerms : Vw yX6_readTerms := ⟨LW_i 411 (by decide +kernel) rfl, LW_s (List.mem_of_getElem? (i := 5) (by decide +kernel)) rfl⟩
theorem cw_X6_readTerm : Cw yX6_readTerm cX6_readTerm 7 (some .boolean) 2 := ⟨LW_i 3 (by decide +kernel) rfl, LW_i 416 (by decide +kernel) rfl, by decide +kernel⟩
theorem vw_X6_readTerm : Vw yX6_readTerm := ⟨LW_i 415 (by decide +kernel) rfl, LW_s (List.mem_of_getElem? (i := 6) (by decide +kernel)) rfl⟩
theorem cw_X6_signalHere : Cw yX6_signalHere cX6_signalHere 2 (some .int) 0 := ⟨LW_i 3 (by decide +kernel) rfl, LW_i 377 (by decide +kernel) rfl, by decide +kernel⟩
theorem vw_X6_signalHere : Vw yX6_signalHere := ⟨LW_i 376 (by decide +kernel) rfl, LW_s (List.mem_of_getElem? (i := 2) (by decide +kernel)) rfl⟩
theorem cw_X6_isOn : Cw yX6_isOn cX6_isOn 2 (some .boolean) 1 := ⟨LW_i 3 (by decide +kernel) rfl, LW_i 396 (by decide +kernel) rfl, by decide +kernel⟩
theorem vw_X6_isOn : Vw yX6_isOn := ⟨LW_i 395 (by decide +kernel) rfl, LW_s (List.mem_of_getElem? (i := 4) (by decide +kernel)) rfl⟩
theorem cw_X6_isAtEnd : Cw yX6_isAtEnd cX6_isAtEnd 1 (some .boolean) 0 := ⟨LW_i 3 (by decide +kernel) rfl, LW_i 368 (by decide +kernel) rfl, by decide +kernel⟩
theorem vw_X6_isAtEnd : Vw yX6_isAtEnd := ⟨LW_i 367 (by decide +kernel) rfl, LW_s (List.mem_of_getElem? (i := 0) (by decide +kernel)) rfl⟩
theorem cw_X6_step : Cw yX6_step cX6_step 1 none 0 := ⟨LW_i 3 (by decide +kernel) rfl, LW_i 392 (by decide +kernel) rfl, by decide +kernel⟩
theorem vw_X6_step : Vw yX6_step := ⟨LW_i 391 (by decide +kernel) rfl, LW_s (List.mem_of_getElem? (i := 3) (by decide +kernel)) rfl⟩
theorem cw_X7_init : Cw yX7_init cX7_init 1 none 0 := ⟨LW_i 2 (by decide +kernel) rfl, LW_i 33 (by decide +kernel) rfl, by decide +kernel⟩
theorem cw_X7_bytesIn : Cw yX7_bytesIn cX7_bytesIn 3 (some .int) 1 := ⟨LW_i 2 (by decide +kernel) rfl, LW_i 332 (by decide +kernel) rfl, by decide +kernel⟩
theorem sw_X7_bytesIn : Cond.static yX7_bytesIn ∈ LW := LW_i 331 (by decide +kernel) rfl
theorem cw_X7_append : Cw yX7_append cX7_append 4 none 1 := ⟨LW_i 2 (by decide +kernel) rfl, LW_i 340 (by decide +kernel) rfl, by decide +kernel⟩
theorem vw_X7_append : Vw yX7_append := ⟨LW_i 338 (by decide +kernel) rfl, LW_i 339 (by decide +kernel) rfl⟩
theorem cw_X7_cut : Cw yX7_cut cX7_cut 2 none 1 := ⟨LW_i 2 (by decide +kernel) rfl, LW_i 348 (by decide +kernel) rfl, by decide +kernel⟩
theorem vw_X7_cut : Vw yX7_cut := ⟨LW_i 346 (by decide +kernel) rfl, LW_i 347 (by decide +kernel) rfl⟩
theorem cw_X7_size : Cw yX7_size cX7_size 1 (some .int) 0 := ⟨LW_i 2 (by decide +kernel) rfl, LW_i 336 (by decide +kernel) rfl, by decide +kernel⟩
theorem vw_X7_size : Vw yX7_size := ⟨LW_i 334 (by decide +kernel) rfl, LW_i 335 (by decide +kernel) rfl⟩
theorem cw_X7_byteAt : Cw yX7_byteAt cX7_byteAt 2 (some .int) 1 := ⟨LW_i 2 (by decide +kernel) rfl, LW_i 381 (by decide +kernel) rfl, by decide +kernel⟩
theorem vw_X7_byteAt : Vw yX7_byteAt := ⟨LW_i 379 (by decide +kernel) rfl, LW_i 380 (by decide +kernel) rfl⟩
theorem cw_X7_pastBlanks : Cw yX7_pastBlanks cX7_pastBlanks 3 (some .int) 1 := ⟨LW_i 2 (by decide +kernel) rfl, LW_i 364 (by decide +kernel) rfl, by decide +kernel⟩
theorem vw_X7_pastBlanks : Vw yX7_pastBlanks := ⟨LW_i 362 (by decide +kernel) rfl, LW_i 363 (by decide +kernel) rfl⟩
theorem cw_X8_init : Cw yX8_init cX8_init 2 none 1 := ⟨LW_i 13 (by decide +kernel) rfl, LW_i 267 (by decide +kernel) rfl, by decide +kernel⟩
theorem cw_X8_forget : Cw yX8_forget cX8_forget 1 none 0 := ⟨LW_i 13 (by decide +kernel) rfl, LW_i 671 (by decide +kernel) rfl, by decide +kernel⟩
theorem vw_X8_forget : Vw yX8_forget := ⟨LW_i 669 (by decide +kernel) rfl, LW_i 670 (by decide +kernel) rfl⟩
theorem cw_X8_fillTo : Cw yX8_fillTo cX8_fillTo 3 none 1 := ⟨LW_i 13 (by decide +kernel) rfl, LW_i 936 (by decide +kernel) rfl, by decide +kernel⟩
theorem vw_X8_fillTo : Vw yX8_fillTo := ⟨LW_i 934 (by decide +kernel) rfl, LW_i 935 (by decide +kernel) rfl⟩
theorem cw_X8_doneAt : Cw yX8_doneAt cX8_doneAt 4 (some .int) 2 := ⟨LW_i 13 (by decide +kernel) rfl, LW_i 959 (by decide +kernel) rfl, by decide +kernel⟩
theorem vw_X8_doneAt : Vw yX8_doneAt := ⟨LW_i 957 (by decide +kernel) rfl, LW_i 958 (by decide +kernel) rfl⟩
theorem cw_X8_orderArcs : Cw yX8_orderArcs cX8_orderArcs 3 none 0 := ⟨LW_i 13 (by decide +kernel) rfl, LW_i 940 (by decide +kernel) rfl, by decide +kernel⟩
theorem vw_X8_orderArcs : Vw yX8_orderArcs := ⟨LW_i 939 (by decide +kernel) rfl, LW_s (List.mem_of_getElem? (i := 25) (by decide +kernel)) rfl⟩
theorem cw_X8_appendArcsTo : Cw yX8_appendArcsTo cX8_appendArcsTo 3 none 1 := ⟨LW_i 13 (by decide +kernel) rfl, LW_i 946 (by decide +kernel) rfl, by decide +kernel⟩
theorem vw_X8_appendArcsTo : Vw yX8_appendArcsTo := ⟨LW_i 945 (by decide +kernel) rfl, LW_s (List.mem_of_getElem? (i := 26) (by decide +kernel)) rfl⟩
theorem cw_X8_fill : Cw yX8_fill cX8_fill 6 none 1 := ⟨LW_i 13 (by decide +kernel) rfl, LW_i 953 (by decide +kernel) rfl, by decide +kernel⟩
theorem vw_X8_fill : Vw yX8_fill := ⟨LW_i 952 (by decide +kernel) rfl, LW_s (List.mem_of_getElem? (i := 27) (by decide +kernel)) rfl⟩
theorem cw_X8_later : Cw yX8_later cX8_later 2 (some .int) 2 := ⟨LW_i 13 (by decide +kernel) rfl, LW_i 963 (by decide +kernel) rfl, by decide +kernel⟩
theorem sw_X8_later : Cond.static yX8_later ∈ LW := LW_i 962 (by decide +kernel) rfl
theorem cw_X9_init : Cw yX9_init cX9_init 2 none 1 := ⟨LW_i 11 (by decide +kernel) rfl, LW_i 214 (by decide +kernel) rfl, by decide +kernel⟩
theorem cw_X9_forget : Cw yX9_forget cX9_forget 1 none 0 := ⟨LW_i 11 (by decide +kernel) rfl, LW_i 667 (by decide +kernel) rfl, by decide +kernel⟩
theorem vw_X9_forget : Vw yX9_forget := ⟨LW_i 665 (by decide +kernel) rfl, LW_i 666 (by decide +kernel) rfl⟩
theorem cw_X9_renew : Cw yX9_renew cX9_renew 1 none 0 := ⟨LW_i 11 (by decide +kernel) rfl, LW_i 732 (by decide +kernel) rfl, by decide +kernel⟩
theorem vw_X9_renew : Vw yX9_renew := ⟨LW_i 730 (by decide +kernel) rfl, LW_i 731 (by decide +kernel) rfl⟩
theorem cw_X9_numerator : Cw yX9_numerator cX9_numerator 1 (some .int) 0 := ⟨LW_i 11 (by decide +kernel) rfl, LW_i 810 (by decide +kernel) rfl, by decide +kernel⟩
theorem vw_X9_numerator : Vw yX9_numerator := ⟨LW_i 808 (by decide +kernel) rfl, LW_i 809 (by decide +kernel) rfl⟩
theorem cw_X9_denominator : Cw yX9_denominator cX9_denominator 1 (some .int) 0 := ⟨LW_i 11 (by decide +kernel) rfl, LW_i 814 (by decide +kernel) rfl, by decide +kernel⟩
theorem vw_X9_denominator : Vw yX9_denominator := ⟨LW_i 812 (by decide +kernel) rfl, LW_i 813 (by decide +kernel) rfl⟩
theorem cw_X9_helper : Cw yX9_helper cX9_helper 2 (some .int) 0 := ⟨LW_i 11 (by decide +kernel) rfl, LW_i 822 (by decide +kernel) rfl, by decide +kernel⟩
theorem vw_X9_helper : Vw yX9_helper := ⟨LW_i 820 (by decide +kernel) rfl, LW_i 821 (by decide +kernel) rfl⟩
theorem cw_X9_findGreatest : Cw yX9_findGreatest cX9_findGreatest 4 none 1 := ⟨LW_i 11 (by decide +kernel) rfl, LW_i 741 (by decide +kernel) rfl, by decide +kernel⟩
theorem vw_X9_findGreatest : Vw yX9_findGreatest := ⟨LW_i 740 (by decide +kernel) rfl, LW_s (List.mem_of_getElem? (i := 18) (by decide +kernel)) rfl⟩
theorem cw_X9_nodeBehindGreaterRing : Cw yX9_nodeBehindGreaterRing cX9_nodeBehindGreaterRing 4 (some .int) 1 := ⟨LW_i 11 (by decide +kernel) rfl, LW_i 750 (by decide +kernel) rfl, by decide +kernel⟩
theorem vw_X9_nodeBehindGreaterRing : Vw yX9_nodeBehindGreaterRing := ⟨LW_i 749 (by decide +kernel) rfl, LW_s (List.mem_of_getElem? (i := 19) (by decide +kernel)) rfl⟩
theorem cw_X9_growPaths : Cw yX9_growPaths cX9_growPaths 7 (some .int) 1 := ⟨LW_i 11 (by decide +kernel) rfl, LW_i 759 (by decide +kernel) rfl, by decide +kernel⟩
theorem vw_X9_growPaths : Vw yX9_growPaths := ⟨LW_i 758 (by decide +kernel) rfl, LW_s (List.mem_of_getElem? (i := 20) (by decide +kernel)) rfl⟩
theorem cw_X9_tokensOn : Cw yX9_tokensOn cX9_tokensOn 2 (some .int) 1 := ⟨LW_i 11 (by decide +kernel) rfl, LW_i 783 (by decide +kernel) rfl, by decide +kernel⟩
theorem vw_X9_tokensOn : Vw yX9_tokensOn := ⟨LW_i 782 (by decide +kernel) rfl, LW_s (List.mem_of_getElem? (i := 21) (by decide +kernel)) rfl⟩
theorem cw_X9_nodeOnRing : Cw yX9_nodeOnRing cX9_nodeOnRing 4 (some .int) 1 := ⟨LW_i 11 (by decide +kernel) rfl, LW_i 795 (by decide +kernel) rfl, by decide +kernel⟩
theorem vw_X9_nodeOnRing : Vw yX9_nodeOnRing := ⟨LW_i 794 (by decide +kernel) rfl, LW_s (List.mem_of_getElem? (i := 22) (by decide +kernel)) rfl⟩
theorem cw_X9_putRing : Cw yX9_putRing cX9_putRing 7 none 2 := ⟨LW_i 11 (by decide +kernel) rfl, LW_i 799 (by decide +kernel) rfl, by decide +kernel⟩
theorem vw_X9_putRing : Vw yX9_putRing := ⟨LW_i 798 (by decide +kernel) rfl, LW_s (List.mem_of_getElem? (i := 23) (by decide +kernel)) rfl⟩
theorem cw_X10_init : Cw yX10_init cX10_init 2 none 1 := ⟨LW_i 7 (by decide +kernel) rfl, LW_i 107 (by decide +kernel) rfl, by decide +kernel⟩
theorem cw_X10_forget : Cw yX10_forget cX10_forget 1 none 0 := ⟨LW_i 7 (by decide +kernel) rfl, LW_i 436 (by decide +kernel) rfl, by decide +kernel⟩
theorem vw_X10_forget : Vw yX10_forget := ⟨LW_i 434 (by decide +kernel) rfl, LW_i 435 (by decide +kernel) rfl⟩
theorem cw_X10_renew : Cw yX10_renew cX10_renew 2 none 0 := ⟨LW_i 7 (by decide +kernel) rfl, LW_i 496 (by decide +kernel) rfl, by decide +kernel⟩
theorem vw_X10_renew : Vw yX10_renew := ⟨LW_i 494 (by decide +kernel) rfl, LW_i 495 (by decide +kernel) rfl⟩
theorem cw_X10_goOnFrom : Cw yX10_goOnFrom cX10_goOnFrom 4 none 1 := ⟨LW_i 7 (by decide +kernel) rfl, LW_i 509 (by decide +kernel) rfl, by decide +kernel⟩
theorem vw_X10_goOnFrom : Vw yX10_goOnFrom := ⟨LW_i 508 (by decide +kernel) rfl, LW_s (List.mem_of_getElem? (i := 9) (by decide +kernel)) rfl⟩
theorem cw_X10_enter : Cw yX10_enter cX10_enter 3 none 2 := ⟨LW_i 7 (by decide +kernel) rfl, LW_i 505 (by decide +kernel) rfl, by decide +kernel⟩
theorem vw_X10_enter : Vw yX10_enter := ⟨LW_i 504 (by decide +kernel) rfl, LW_s (List.mem_of_getElem? (i := 8) (by decide +kernel)) rfl⟩
theorem cw_X10_size : Cw yX10_size cX10_size 1 (some .int) 0 := ⟨LW_i 7 (by decide +kernel) rfl, LW_i 515 (by decide +kernel) rfl, by decide +kernel⟩
theorem vw_X10_size : Vw yX10_size := ⟨LW_i 513 (by decide +kernel) rfl, LW_i 514 (by decide +kernel) rfl⟩
theorem cw_X10_stops : Cw yX10_stops cX10_stops 1 (some .int) 0 := ⟨LW_i 7 (by decide +kernel) rfl, LW_i 854 (by decide +kernel) rfl, by decide +kernel⟩
theorem vw_X10_stops : Vw yX10_stops := ⟨LW_i 852 (by decide +kernel) rfl, LW_i 853 (by decide +kernel) rfl⟩
theorem cw_X10_stateAt : Cw yX10_stateAt cX10_stateAt 2 (some .int) 1 := ⟨LW_i 7 (by decide +kernel) rfl, LW_i 523 (by decide +kernel) rfl, by decide +kernel⟩
theorem vw_X10_stateAt : Vw yX10_stateAt := ⟨LW_i 521 (by decide +kernel) rfl, LW_i 522 (by decide +kernel) rfl⟩
theorem cw_X10_stopAt : Cw yX10_stopAt cX10_stopAt 2 (some .int) 1 := ⟨LW_i 7 (by decide +kernel) rfl, LW_i 579 (by decide +kernel) rfl, by decide +kernel⟩
theorem vw_X10_stopAt : Vw yX10_stopAt := ⟨LW_i 577 (by decide +kernel) rfl, LW_i 578 (by decide +kernel) rfl⟩
theorem cw_X10_placeOf : Cw yX10_placeOf cX10_placeOf 2 (some .int) 1 := ⟨LW_i 7 (by decide +kernel) rfl, LW_i 531 (by decide +kernel) rfl, by decide +kernel⟩
theorem vw_X10_placeOf : Vw yX10_placeOf := ⟨LW_i 529 (by decide +kernel) rfl, LW_i 530 (by decide +kernel) rfl⟩
theorem cw_X10_wayLength : Cw yX10_wayLength cX10_wayLength 5 (some .int) 1 := ⟨LW_i 7 (by decide +kernel) rfl, LW_i 587 (by decide +kernel) rfl, by decide +kernel⟩
theorem vw_X10_wayLength : Vw yX10_wayLength := ⟨LW_i 585 (by decide +kernel) rfl, LW_i 586 (by decide +kernel) rfl⟩
theorem cw_X10_wayStep : Cw yX10_wayStep cX10_wayStep 6 (some .int) 2 := ⟨LW_i 7 (by decide +kernel) rfl, LW_i 596 (by decide +kernel) rfl, by decide +kernel⟩
theorem vw_X10_wayStep : Vw yX10_wayStep := ⟨LW_i 594 (by decide +kernel) rfl, LW_i 595 (by decide +kernel) rfl⟩
theorem cw_X10_firstWithAll : Cw yX10_firstWithAll cX10_firstWithAll 3 (some .int) 1 := ⟨LW_i 7 (by decide +kernel) rfl, LW_i 630 (by decide +kernel) rfl, by decide +kernel⟩
theorem vw_X10_firstWithAll : Vw yX10_firstWithAll := ⟨LW_i 628 (by decide +kernel) rfl, LW_i 629 (by decide +kernel) rfl⟩
theorem cw_X11_init : Cw yX11_init cX11_init 1 none 0 := ⟨LW_i 1 (by decide +kernel) rfl, LW_i 25 (by decide +kernel) rfl, by decide +kernel⟩
theorem cw_X11_feed : Cw yX11_feed cX11_feed 7 (some .int) 5 := ⟨LW_i 1 (by decide +kernel) rfl, LW_i 329 (by decide +kernel) rfl, by decide +kernel⟩
theorem vw_X11_feed : Vw yX11_feed := ⟨LW_i 327 (by decide +kernel) rfl, LW_i 328 (by decide +kernel) rfl⟩
theorem cw_X11_end : Cw yX11_end cX11_end 2 (some .boolean) 1 := ⟨LW_i 1 (by decide +kernel) rfl, LW_i 344 (by decide +kernel) rfl, by decide +kernel⟩
theorem vw_X11_end : Vw yX11_end := ⟨LW_i 342 (by decide +kernel) rfl, LW_i 343 (by decide +kernel) rfl⟩
theorem cw_X11_fault : Cw yX11_fault cX11_fault 1 (some .int) 0 := ⟨LW_i 1 (by decide +kernel) rfl, LW_i 352 (by decide +kernel) rfl, by decide +kernel⟩
theorem vw_X11_fault : Vw yX11_fault := ⟨LW_i 350 (by decide +kernel) rfl, LW_i 351 (by decide +kernel) rfl⟩
theorem cw_X11_circuit : Cw yX11_circuit cX11_circuit 2 (some .boolean) 1 := ⟨LW_i 1 (by decide +kernel) rfl, LW_i 421 (by decide +kernel) rfl, by decide +kernel⟩
theorem vw_X11_circuit : Vw yX11_circuit := ⟨LW_i 419 (by decide +kernel) rfl, LW_i 420 (by decide +kernel) rfl⟩
theorem cw_X11_arbiter : Cw yX11_arbiter cX11_arbiter 4 (some .boolean) 3 := ⟨LW_i 1 (by decide +kernel) rfl, LW_i 448 (by decide +kernel) rfl, by decide +kernel⟩
theorem vw_X11_arbiter : Vw yX11_arbiter := ⟨LW_i 446 (by decide +kernel) rfl, LW_i 447 (by decide +kernel) rfl⟩
theorem cw_X11_stuck : Cw yX11_stuck cX11_stuck 3 (some .boolean) 2 := ⟨LW_i 1 (by decide +kernel) rfl, LW_i 464 (by decide +kernel) rfl, by decide +kernel⟩
theorem vw_X11_stuck : Vw yX11_stuck := ⟨LW_i 462 (by decide +kernel) rfl, LW_i 463 (by decide +kernel) rfl⟩
theorem cw_X11_asked : Cw yX11_asked cX11_asked 2 (some .int) 1 := ⟨LW_i 1 (by decide +kernel) rfl, LW_i 476 (by decide +kernel) rfl, by decide +kernel⟩
theorem vw_X11_asked : Vw yX11_asked := ⟨LW_i 474 (by decide +kernel) rfl, LW_i 475 (by decide +kernel) rfl⟩
theorem cw_X11_states : Cw yX11_states cX11_states 1 (some .int) 0 := ⟨LW_i 1 (by decide +kernel) rfl, LW_i 492 (by decide +kernel) rfl, by decide +kernel⟩
theorem vw_X11_states : Vw yX11_states := ⟨LW_i 490 (by decide +kernel) rfl, LW_i 491 (by decide +kernel) rfl⟩
theorem cw_X11_state : Cw yX11_state cX11_state 2 (some .int) 1 := ⟨LW_i 1 (by decide +kernel) rfl, LW_i 519 (by decide +kernel) rfl, by decide +kernel⟩
theorem vw_X11_state : Vw yX11_state := ⟨LW_i 517 (by decide +kernel) rfl, LW_i 518 (by decide +kernel) rfl⟩
theorem cw_X11_place : Cw yX11_place cX11_place 2 (some .int) 1 := ⟨LW_i 1 (by decide +kernel) rfl, LW_i 527 (by decide +kernel) rfl, by decide +kernel⟩
theorem vw_X11_place : Vw yX11_place := ⟨LW_i 525 (by decide +kernel) rfl, LW_i 526 (by decide +kernel) rfl⟩
theorem cw_X11_hazard : Cw yX11_hazard cX11_hazard 3 (some .int) 2 := ⟨LW_i 1 (by decide +kernel) rfl, LW_i 536 (by decide +kernel) rfl, by decide +kernel⟩
theorem vw_X11_hazard : Vw yX11_hazard := ⟨LW_i 534 (by decide +kernel) rfl, LW_i 535 (by decide +kernel) rfl⟩
theorem cw_X11_stop : Cw yX11_stop cX11_stop 2 (some .int) 1 := ⟨LW_i 1 (by decide +kernel) rfl, LW_i 575 (by decide +kernel) rfl, by decide +kernel⟩
theorem vw_X11_stop : Vw yX11_stop := ⟨LW_i 573 (by decide +kernel) rfl, LW_i 574 (by decide +kernel) rfl⟩
theorem cw_X11_way : Cw yX11_way cX11_way 2 (some .int) 1 := ⟨LW_i 1 (by decide +kernel) rfl, LW_i 583 (by decide +kernel) rfl, by decide +kernel⟩
theorem vw_X11_way : Vw yX11_way := ⟨LW_i 581 (by decide +kernel) rfl, LW_i 582 (by decide +kernel) rfl⟩
theorem cw_X11_change : Cw yX11_change cX11_change 3 (some .int) 2 := ⟨LW_i 1 (by decide +kernel) rfl, LW_i 592 (by decide +kernel) rfl, by decide +kernel⟩
theorem vw_X11_change : Vw yX11_change := ⟨LW_i 590 (by decide +kernel) rfl, LW_i 591 (by decide +kernel) rfl⟩
theorem cw_X11_live : Cw yX11_live cX11_live 2 (some .int) 1 := ⟨LW_i 1 (by decide +kernel) rfl, LW_i 601 (by decide +kernel) rfl, by decide +kernel⟩
theorem vw_X11_live : Vw yX11_live := ⟨LW_i 599 (by decide +kernel) rfl, LW_i 600 (by decide +kernel) rfl⟩
theorem cw_X11_both : Cw yX11_both cX11_both 2 (some .int) 1 := ⟨LW_i 1 (by decide +kernel) rfl, LW_i 626 (by decide +kernel) rfl, by decide +kernel⟩
theorem vw_X11_both : Vw yX11_both := ⟨LW_i 624 (by decide +kernel) rfl, LW_i 625 (by decide +kernel) rfl⟩
theorem cw_X11_run : Cw yX11_run cX11_run 4 (some .int) 2 := ⟨LW_i 1 (by decide +kernel) rfl, LW_i 634 (by decide +kernel) rfl, by decide +kernel⟩
theorem vw_X11_run : Vw yX11_run := ⟨LW_i 632 (by decide +kernel) rfl, LW_i 633 (by decide +kernel) rfl⟩
theorem cw_X11_changed : Cw yX11_changed cX11_changed 5 (some .int) 3 := ⟨LW_i 1 (by decide +kernel) rfl, LW_i 651 (by decide +kernel) rfl, by decide +kernel⟩
theorem vw_X11_changed : Vw yX11_changed := ⟨LW_i 649 (by decide +kernel) rfl, LW_i 650 (by decide +kernel) rfl⟩
theorem cw_X11_node : Cw yX11_node cX11_node 3 (some .int) 1 := ⟨LW_i 1 (by decide +kernel) rfl, LW_i 655 (by decide +kernel) rfl, by decide +kernel⟩
theorem vw_X11_node : Vw yX11_node := ⟨LW_i 653 (by decide +kernel) rfl, LW_i 654 (by decide +kernel) rfl⟩
theorem cw_X11_arc : Cw yX11_arc cX11_arc 5 (some .int) 3 := ⟨LW_i 1 (by decide +kernel) rfl, LW_i 675 (by decide +kernel) rfl, by decide +kernel⟩
theorem vw_X11_arc : Vw yX11_arc := ⟨LW_i 673 (by decide +kernel) rfl, LW_i 674 (by decide +kernel) rfl⟩
theorem cw_X11_tokens : Cw yX11_tokens cX11_tokens 4 (some .boolean) 2 := ⟨LW_i 1 (by decide +kernel) rfl, LW_i 690 (by decide +kernel) rfl, by decide +kernel⟩
theorem vw_X11_tokens : Vw yX11_tokens := ⟨LW_i 688 (by decide +kernel) rfl, LW_i 689 (by decide +kernel) rfl⟩
theorem cw_X11_clear : Cw yX11_clear cX11_clear 1 none 0 := ⟨LW_i 1 (by decide +kernel) rfl, LW_i 698 (by decide +kernel) rfl, by decide +kernel⟩
theorem vw_X11_clear : Vw yX11_clear := ⟨LW_i 696 (by decide +kernel) rfl, LW_i 697 (by decide +kernel) rfl⟩
theorem cw_X11_dead : Cw yX11_dead cX11_dead 1 (some .int) 0 := ⟨LW_i 1 (by decide +kernel) rfl, LW_i 706 (by decide +kernel) rfl, by decide +kernel⟩
theorem vw_X11_dead : Vw yX11_dead := ⟨LW_i 704 (by decide +kernel) rfl, LW_i 705 (by decide +kernel) rfl⟩
theorem cw_X11_turn : Cw yX11_turn cX11_turn 2 (some .long) 1 := ⟨LW_i 1 (by decide +kernel) rfl, LW_i 727 (by decide +kernel) rfl, by decide +kernel⟩
theorem vw_X11_turn : Vw yX11_turn := ⟨LW_i 725 (by decide +kernel) rfl, LW_i 726 (by decide +kernel) rfl⟩
theorem cw_X11_time : Cw yX11_time cX11_time 4 (some .int) 2 := ⟨LW_i 1 (by decide +kernel) rfl, LW_i 865 (by decide +kernel) rfl, by decide +kernel⟩
theorem vw_X11_time : Vw yX11_time := ⟨LW_i 863 (by decide +kernel) rfl, LW_i 864 (by decide +kernel) rfl⟩
theorem cw_X11_helps : Cw yX11_helps cX11_helps 1 (some .int) 0 := ⟨LW_i 1 (by decide +kernel) rfl, LW_i 818 (by decide +kernel) rfl, by decide +kernel⟩
theorem vw_X11_helps : Vw yX11_helps := ⟨LW_i 816 (by decide +kernel) rfl, LW_i 817 (by decide +kernel) rfl⟩
theorem cw_X11_count : Cw yX11_count cX11_count 2 (some .int) 1 := ⟨LW_i 1 (by decide +kernel) rfl, LW_i 834 (by decide +kernel) rfl, by decide +kernel⟩
theorem vw_X11_count : Vw yX11_count := ⟨LW_i 832 (by decide +kernel) rfl, LW_i 833 (by decide +kernel) rfl⟩
theorem cw_X11_forgetWalk : Cw yX11_forgetWalk cX11_forgetWalk 1 none 0 := ⟨LW_i 1 (by decide +kernel) rfl, LW_i 432 (by decide +kernel) rfl, by decide +kernel⟩
theorem vw_X11_forgetWalk : Vw yX11_forgetWalk := ⟨LW_i 431 (by decide +kernel) rfl, LW_s (List.mem_of_getElem? (i := 7) (by decide +kernel)) rfl⟩
theorem cw_X11_forgetRings : Cw yX11_forgetRings cX11_forgetRings 1 none 0 := ⟨LW_i 1 (by decide +kernel) rfl, LW_i 663 (by decide +kernel) rfl, by decide +kernel⟩
theorem vw_X11_forgetRings : Vw yX11_forgetRings := ⟨LW_i 662 (by decide +kernel) rfl, LW_s (List.mem_of_getElem? (i := 16) (by decide +kernel)) rfl⟩
theorem cw_X11_isSignal : Cw yX11_isSignal cX11_isSignal 1 (some .boolean) 1 := ⟨LW_i 1 (by decide +kernel) rfl, LW_i 451 (by decide +kernel) rfl, by decide +kernel⟩
theorem sw_X11_isSignal : Cond.static yX11_isSignal ∈ LW := LW_i 450 (by decide +kernel) rfl
theorem cw_X11_isState : Cw yX11_isState cX11_isState 1 (some .boolean) 1 := ⟨LW_i 1 (by decide +kernel) rfl, LW_i 424 (by decide +kernel) rfl, by decide +kernel⟩
theorem sw_X11_isState : Cond.static yX11_isState ∈ LW := LW_i 423 (by decide +kernel) rfl
theorem cw_X11_isRunLength : Cw yX11_isRunLength cX11_isRunLength 1 (some .boolean) 1 := ⟨LW_i 1 (by decide +kernel) rfl, LW_i 637 (by decide +kernel) rfl, by decide +kernel⟩
theorem sw_X11_isRunLength : Cond.static yX11_isRunLength ∈ LW := LW_i 636 (by decide +kernel) rfl
theorem cw_X11_isIn : Cw yX11_isIn cX11_isIn 2 (some .boolean) 2 := ⟨LW_i 1 (by decide +kernel) rfl, LW_i 388 (by decide +kernel) rfl, by decide +kernel⟩
theorem sw_X11_isIn : Cond.static yX11_isIn ∈ LW := LW_i 387 (by decide +kernel) rfl
theorem cw_X12_init : Cw yX12_init cX12_init 2 none 0 := ⟨LW_i 14 (by decide +kernel) rfl, LW_i 973 (by decide +kernel) rfl, by decide +kernel⟩
theorem cw_X12_thrown : Cw yX12_thrown cX12_thrown 1 (some .int) 0 := ⟨LW_i 14 (by decide +kernel) rfl, LW_i 1075 (by decide +kernel) rfl, by decide +kernel⟩
theorem vw_X12_thrown : Vw yX12_thrown := ⟨LW_i 1073 (by decide +kernel) rfl, LW_i 1074 (by decide +kernel) rfl⟩
theorem cw_X12_isIn : Cw yX12_isIn cX12_isIn 3 (some .boolean) 3 := ⟨LW_i 14 (by decide +kernel) rfl, LW_i 1198 (by decide +kernel) rfl, by decide +kernel⟩
theorem sw_X12_isIn : Cond.static yX12_isIn ∈ LW := LW_i 1197 (by decide +kernel) rfl
theorem cw_X12_isSignal : Cw yX12_isSignal cX12_isSignal 1 (some .boolean) 1 := ⟨LW_i 14 (by decide +kernel) rfl, LW_i 1127 (by decide +kernel) rfl, by decide +kernel⟩
theorem sw_X12_isSignal : Cond.static yX12_isSignal ∈ LW := LW_i 1126 (by decide +kernel) rfl
theorem cw_X12_isState : Cw yX12_isState cX12_isState 1 (some .boolean) 1 := ⟨LW_i 14 (by decide +kernel) rfl, LW_i 1120 (by decide +kernel) rfl, by decide +kernel⟩
theorem sw_X12_isState : Cond.static yX12_isState ∈ LW := LW_i 1119 (by decide +kernel) rfl
theorem cw_X12_bytesIn : Cw yX12_bytesIn cX12_bytesIn 3 (some .int) 1 := ⟨LW_i 14 (by decide +kernel) rfl, LW_i 1082 (by decide +kernel) rfl, by decide +kernel⟩
theorem sw_X12_bytesIn : Cond.static yX12_bytesIn ∈ LW := LW_i 1081 (by decide +kernel) rfl
theorem cw_X12_put : Cw yX12_put cX12_put 3 none 1 := ⟨LW_i 14 (by decide +kernel) rfl, LW_i 1086 (by decide +kernel) rfl, by decide +kernel⟩
theorem vw_X12_put : Vw yX12_put := ⟨LW_i 1085 (by decide +kernel) rfl, LW_s (List.mem_of_getElem? (i := 28) (by decide +kernel)) rfl⟩
theorem cw_X12_feed : Cw yX12_feed cX12_feed 6 (some .int) 5 := ⟨LW_i 14 (by decide +kernel) rfl, LW_i 1079 (by decide +kernel) rfl, by decide +kernel⟩
theorem vw_X12_feed : Vw yX12_feed := ⟨LW_i 1077 (by decide +kernel) rfl, LW_i 1078 (by decide +kernel) rfl⟩
theorem cw_X12_end : Cw yX12_end cX12_end 2 (some .boolean) 1 := ⟨LW_i 14 (by decide +kernel) rfl, LW_i 1090 (by decide +kernel) rfl, by decide +kernel⟩
theorem vw_X12_end : Vw yX12_end := ⟨LW_i 1088 (by decide +kernel) rfl, LW_i 1089 (by decide +kernel) rfl⟩
theorem cw_X12_look : Cw yX12_look cX12_look 1 (some .int) 0 := ⟨LW_i 14 (by decide +kernel) rfl, LW_i 1102 (by decide +kernel) rfl, by decide +kernel⟩
theorem vw_X12_look : Vw yX12_look := ⟨LW_i 1101 (by decide +kernel) rfl, LW_s (List.mem_of_getElem? (i := 30) (by decide +kernel)) rfl⟩
theorem cw_X12_isLetter : Cw yX12_isLetter cX12_isLetter 1 (some .boolean) 1 := ⟨LW_i 14 (by decide +kernel) rfl, LW_i 1109 (by decide +kernel) rfl, by decide +kernel⟩
theorem sw_X12_isLetter : Cond.static yX12_isLetter ∈ LW := LW_i 1108 (by decide +kernel) rfl
theorem cw_X12_read : Cw yX12_read cX12_read 2 (some .int) 0 := ⟨LW_i 14 (by decide +kernel) rfl, LW_i 1098 (by decide +kernel) rfl, by decide +kernel⟩
theorem vw_X12_read : Vw yX12_read := ⟨LW_i 1097 (by decide +kernel) rfl, LW_s (List.mem_of_getElem? (i := 29) (by decide +kernel)) rfl⟩
theorem cw_X12_equation : Cw yX12_equation cX12_equation 3 (some .boolean) 0 := ⟨LW_i 14 (by decide +kernel) rfl, LW_i 1106 (by decide +kernel) rfl, by decide +kernel⟩
theorem vw_X12_equation : Vw yX12_equation := ⟨LW_i 1105 (by decide +kernel) rfl, LW_s (List.mem_of_getElem? (i := 31) (by decide +kernel)) rfl⟩
theorem cw_X12_term : Cw yX12_term cX12_term 5 (some .boolean) 1 := ⟨LW_i 14 (by decide +kernel) rfl, LW_i 1113 (by decide +kernel) rfl, by decide +kernel⟩
theorem vw_X12_term : Vw yX12_term := ⟨LW_i 1112 (by decide +kernel) rfl, LW_s (List.mem_of_getElem? (i := 32) (by decide +kernel)) rfl⟩
theorem cw_X12_fault : Cw yX12_fault cX12_fault 1 (some .int) 0 := ⟨LW_i 14 (by decide +kernel) rfl, LW_i 1094 (by decide +kernel) rfl, by decide +kernel⟩
theorem vw_X12_fault : Vw yX12_fault := ⟨LW_i 1092 (by decide +kernel) rfl, LW_i 1093 (by decide +kernel) rfl⟩
theorem cw_X12_circuit : Cw yX12_circuit cX12_circuit 3 (some .boolean) 1 := ⟨LW_i 14 (by decide +kernel) rfl, LW_i 1117 (by decide +kernel) rfl, by decide +kernel⟩
theorem vw_X12_circuit : Vw yX12_circuit := ⟨LW_i 1115 (by decide +kernel) rfl, LW_i 1116 (by decide +kernel) rfl⟩
theorem cw_X12_arbiter : Cw yX12_arbiter cX12_arbiter 4 (some .boolean) 3 := ⟨LW_i 14 (by decide +kernel) rfl, LW_i 1124 (by decide +kernel) rfl, by decide +kernel⟩
theorem vw_X12_arbiter : Vw yX12_arbiter := ⟨LW_i 1122 (by decide +kernel) rfl, LW_i 1123 (by decide +kernel) rfl⟩
theorem cw_X12_stuck : Cw yX12_stuck cX12_stuck 3 (some .boolean) 2 := ⟨LW_i 14 (by decide +kernel) rfl, LW_i 1131 (by decide +kernel) rfl, by decide +kernel⟩
theorem vw_X12_stuck : Vw yX12_stuck := ⟨LW_i 1129 (by decide +kernel) rfl, LW_i 1130 (by decide +kernel) rfl⟩
theorem cw_X12_askedIn : Cw yX12_askedIn cX12_askedIn 6 (some .int) 1 := ⟨LW_i 14 (by decide +kernel) rfl, LW_i 1139 (by decide +kernel) rfl, by decide +kernel⟩
theorem vw_X12_askedIn : Vw yX12_askedIn := ⟨LW_i 1138 (by decide +kernel) rfl, LW_s (List.mem_of_getElem? (i := 33) (by decide +kernel)) rfl⟩
theorem cw_X12_asked : Cw yX12_asked cX12_asked 2 (some .int) 1 := ⟨LW_i 14 (by decide +kernel) rfl, LW_i 1135 (by decide +kernel) rfl, by decide +kernel⟩
theorem vw_X12_asked : Vw yX12_asked := ⟨LW_i 1133 (by decide +kernel) rfl, LW_i 1134 (by decide +kernel) rfl⟩
theorem cw_X12_walks : Cw yX12_walks cX12_walks 6 none 0 := ⟨LW_i 14 (by decide +kernel) rfl, LW_i 1147 (by decide +kernel) rfl, by decide +kernel⟩
theorem vw_X12_walks : Vw yX12_walks := ⟨LW_i 1146 (by decide +kernel) rfl, LW_s (List.mem_of_getElem? (i := 34) (by decide +kernel)) rfl⟩
theorem cw_X12_states : Cw yX12_states cX12_states 1 (some .int) 0 := ⟨LW_i 14 (by decide +kernel) rfl, LW_i 1143 (by decide +kernel) rfl, by decide +kernel⟩
theorem vw_X12_states : Vw yX12_states := ⟨LW_i 1141 (by decide +kernel) rfl, LW_i 1142 (by decide +kernel) rfl⟩
theorem cw_X12_state : Cw yX12_state cX12_state 2 (some .int) 1 := ⟨LW_i 14 (by decide +kernel) rfl, LW_i 1151 (by decide +kernel) rfl, by decide +kernel⟩
theorem vw_X12_state : Vw yX12_state := ⟨LW_i 1149 (by decide +kernel) rfl, LW_i 1150 (by decide +kernel) rfl⟩
theorem cw_X12_place : Cw yX12_place cX12_place 2 (some .int) 1 := ⟨LW_i 14 (by decide +kernel) rfl, LW_i 1155 (by decide +kernel) rfl, by decide +kernel⟩
theorem vw_X12_place : Vw yX12_place := ⟨LW_i 1153 (by decide +kernel) rfl, LW_i 1154 (by decide +kernel) rfl⟩
theorem cw_X12_hazardOf : Cw yX12_hazardOf cX12_hazardOf 9 (some .int) 2 := ⟨LW_i 14 (by decide +kernel) rfl, LW_i 1163 (by decide +kernel) rfl, by decide +kernel⟩
theorem vw_X12_hazardOf : Vw yX12_hazardOf := ⟨LW_i 1162 (by decide +kernel) rfl, LW_s (List.mem_of_getElem? (i := 35) (by decide +kernel)) rfl⟩
theorem cw_X12_hazard : Cw yX12_hazard cX12_hazard 3 (some .int) 2 := ⟨LW_i 14 (by decide +kernel) rfl, LW_i 1159 (by decide +kernel) rfl, by decide +kernel⟩
theorem vw_X12_hazard : Vw yX12_hazard := ⟨LW_i 1157 (by decide +kernel) rfl, LW_i 1158 (by decide +kernel) rfl⟩
theorem cw_X12_stopOf : Cw yX12_stopOf cX12_stopOf 4 (some .int) 1 := ⟨LW_i 14 (by decide +kernel) rfl, LW_i 1171 (by decide +kernel) rfl, by decide +kernel⟩
theorem vw_X12_stopOf : Vw yX12_stopOf := ⟨LW_i 1170 (by decide +kernel) rfl, LW_s (List.mem_of_getElem? (i := 36) (by decide +kernel)) rfl⟩
theorem cw_X12_stop : Cw yX12_stop cX12_stop 2 (some .int) 1 := ⟨LW_i 14 (by decide +kernel) rfl, LW_i 1167 (by decide +kernel) rfl, by decide +kernel⟩
theorem vw_X12_stop : Vw yX12_stop := ⟨LW_i 1165 (by decide +kernel) rfl, LW_i 1166 (by decide +kernel) rfl⟩
theorem cw_X12_wayLong : Cw yX12_wayLong cX12_wayLong 4 (some .int) 1 := ⟨LW_i 14 (by decide +kernel) rfl, LW_i 1179 (by decide +kernel) rfl, by decide +kernel⟩
theorem vw_X12_wayLong : Vw yX12_wayLong := ⟨LW_i 1178 (by decide +kernel) rfl, LW_s (List.mem_of_getElem? (i := 37) (by decide +kernel)) rfl⟩
theorem cw_X12_way : Cw yX12_way cX12_way 2 (some .int) 1 := ⟨LW_i 14 (by decide +kernel) rfl, LW_i 1175 (by decide +kernel) rfl, by decide +kernel⟩
theorem vw_X12_way : Vw yX12_way := ⟨LW_i 1173 (by decide +kernel) rfl, LW_i 1174 (by decide +kernel) rfl⟩
theorem cw_X12_change : Cw yX12_change cX12_change 5 (some .int) 2 := ⟨LW_i 14 (by decide +kernel) rfl, LW_i 1183 (by decide +kernel) rfl, by decide +kernel⟩
theorem vw_X12_change : Vw yX12_change := ⟨LW_i 1181 (by decide +kernel) rfl, LW_i 1182 (by decide +kernel) rfl⟩
theorem cw_X12_live : Cw yX12_live cX12_live 8 (some .int) 1 := ⟨LW_i 14 (by decide +kernel) rfl, LW_i 1187 (by decide +kernel) rfl, by decide +kernel⟩
theorem vw_X12_live : Vw yX12_live := ⟨LW_i 1185 (by decide +kernel) rfl, LW_i 1186 (by decide +kernel) rfl⟩
theorem cw_X12_both : Cw yX12_both cX12_both 3 (some .int) 1 := ⟨LW_i 14 (by decide +kernel) rfl, LW_i 1191 (by decide +kernel) rfl, by decide +kernel⟩
theorem vw_X12_both : Vw yX12_both := ⟨LW_i 1189 (by decide +kernel) rfl, LW_i 1190 (by decide +kernel) rfl⟩
theorem cw_X12_runs : Cw yX12_runs cX12_runs 11 (some .int) 2 := ⟨LW_i 14 (by decide +kernel) rfl, LW_i 1202 (by decide +kernel) rfl, by decide +kernel⟩
theorem vw_X12_runs : Vw yX12_runs := ⟨LW_i 1201 (by decide +kernel) rfl, LW_s (List.mem_of_getElem? (i := 38) (by decide +kernel)) rfl⟩
theorem cw_X12_run : Cw yX12_run cX12_run 4 (some .int) 2 := ⟨LW_i 14 (by decide +kernel) rfl, LW_i 1195 (by decide +kernel) rfl, by decide +kernel⟩
theorem vw_X12_run : Vw yX12_run := ⟨LW_i 1193 (by decide +kernel) rfl, LW_i 1194 (by decide +kernel) rfl⟩
theorem cw_X12_changed : Cw yX12_changed cX12_changed 6 (some .int) 3 := ⟨LW_i 14 (by decide +kernel) rfl, LW_i 1209 (by decide +kernel) rfl, by decide +kernel⟩
theorem vw_X12_changed : Vw yX12_changed := ⟨LW_i 1207 (by decide +kernel) rfl, LW_i 1208 (by decide +kernel) rfl⟩
theorem cw_X12_node : Cw yX12_node cX12_node 2 (some .int) 1 := ⟨LW_i 14 (by decide +kernel) rfl, LW_i 1213 (by decide +kernel) rfl, by decide +kernel⟩
theorem vw_X12_node : Vw yX12_node := ⟨LW_i 1211 (by decide +kernel) rfl, LW_i 1212 (by decide +kernel) rfl⟩
theorem cw_X12_arc : Cw yX12_arc cX12_arc 4 (some .int) 3 := ⟨LW_i 14 (by decide +kernel) rfl, LW_i 1217 (by decide +kernel) rfl, by decide +kernel⟩
theorem vw_X12_arc : Vw yX12_arc := ⟨LW_i 1215 (by decide +kernel) rfl, LW_i 1216 (by decide +kernel) rfl⟩
theorem cw_X12_tokens : Cw yX12_tokens cX12_tokens 3 (some .boolean) 2 := ⟨LW_i 14 (by decide +kernel) rfl, LW_i 1221 (by decide +kernel) rfl, by decide +kernel⟩
theorem vw_X12_tokens : Vw yX12_tokens := ⟨LW_i 1219 (by decide +kernel) rfl, LW_i 1220 (by decide +kernel) rfl⟩
theorem cw_X12_clear : Cw yX12_clear cX12_clear 1 none 0 := ⟨LW_i 14 (by decide +kernel) rfl, LW_i 1225 (by decide +kernel) rfl, by decide +kernel⟩
theorem vw_X12_clear : Vw yX12_clear := ⟨LW_i 1223 (by decide +kernel) rfl, LW_i 1224 (by decide +kernel) rfl⟩
theorem cw_X12_round : Cw yX12_round cX12_round 8 none 5 := ⟨LW_i 14 (by decide +kernel) rfl, LW_i 1238 (by decide +kernel) rfl, by decide +kernel⟩
theorem vw_X12_round : Vw yX12_round := ⟨LW_i 1237 (by decide +kernel) rfl, LW_s (List.mem_of_getElem? (i := 40) (by decide +kernel)) rfl⟩
theorem cw_X12_ring : Cw yX12_ring cX12_ring 3 none 2 := ⟨LW_i 14 (by decide +kernel) rfl, LW_i 1242 (by decide +kernel) rfl, by decide +kernel⟩
theorem vw_X12_ring : Vw yX12_ring := ⟨LW_i 1241 (by decide +kernel) rfl, LW_s (List.mem_of_getElem? (i := 41) (by decide +kernel)) rfl⟩
theorem cw_X12_goRound : Cw yX12_goRound cX12_goRound 2 none 0 := ⟨LW_i 14 (by decide +kernel) rfl, LW_i 1233 (by decide +kernel) rfl, by decide +kernel⟩
theorem vw_X12_goRound : Vw yX12_goRound := ⟨LW_i 1232 (by decide +kernel) rfl, LW_s (List.mem_of_getElem? (i := 39) (by decide +kernel)) rfl⟩
theorem cw_X12_dead : Cw yX12_dead cX12_dead 1 (some .int) 0 := ⟨LW_i 14 (by decide +kernel) rfl, LW_i 1229 (by decide +kernel) rfl, by decide +kernel⟩
theorem vw_X12_dead : Vw yX12_dead := ⟨LW_i 1227 (by decide +kernel) rfl, LW_i 1228 (by decide +kernel) rfl⟩
theorem cw_X12_turn : Cw yX12_turn cX12_turn 8 (some .long) 1 := ⟨LW_i 14 (by decide +kernel) rfl, LW_i 1246 (by decide +kernel) rfl, by decide +kernel⟩
theorem vw_X12_turn : Vw yX12_turn := ⟨LW_i 1244 (by decide +kernel) rfl, LW_i 1245 (by decide +kernel) rfl⟩
theorem cw_X12_times : Cw yX12_times cX12_times 11 none 1 := ⟨LW_i 14 (by decide +kernel) rfl, LW_i 1254 (by decide +kernel) rfl, by decide +kernel⟩
theorem vw_X12_times : Vw yX12_times := ⟨LW_i 1253 (by decide +kernel) rfl, LW_s (List.mem_of_getElem? (i := 42) (by decide +kernel)) rfl⟩
theorem cw_X12_time : Cw yX12_time cX12_time 4 (some .int) 2 := ⟨LW_i 14 (by decide +kernel) rfl, LW_i 1250 (by decide +kernel) rfl, by decide +kernel⟩
theorem vw_X12_time : Vw yX12_time := ⟨LW_i 1248 (by decide +kernel) rfl, LW_i 1249 (by decide +kernel) rfl⟩
theorem cw_X12_helps : Cw yX12_helps cX12_helps 7 (some .int) 0 := ⟨LW_i 14 (by decide +kernel) rfl, LW_i 1259 (by decide +kernel) rfl, by decide +kernel⟩
theorem vw_X12_helps : Vw yX12_helps := ⟨LW_i 1257 (by decide +kernel) rfl, LW_i 1258 (by decide +kernel) rfl⟩
theorem cw_X12_count : Cw yX12_count cX12_count 4 (some .int) 1 := ⟨LW_i 14 (by decide +kernel) rfl, LW_i 1263 (by decide +kernel) rfl, by decide +kernel⟩
theorem vw_X12_count : Vw yX12_count := ⟨LW_i 1261 (by decide +kernel) rfl, LW_i 1262 (by decide +kernel) rfl⟩
theorem cw_J6_bitCount_0f7a4 : Cw yJ6_bitCount_0f7a4 cJ6_bitCount_0f7a4 1 (some .int) 1 := ⟨LW_i 15 (by decide +kernel) rfl, LW_i 556 (by decide +kernel) rfl, by decide +kernel⟩
theorem sw_J6_bitCount_0f7a4 : Cond.static yJ6_bitCount_0f7a4 ∈ LW := LW_i 555 (by decide +kernel) rfl
theorem cw_J9_max_7cf53 : Cw yJ9_max_7cf53 cJ9_max_7cf53 2 (some .int) 2 := ⟨LW_i 20 (by decide +kernel) rfl, LW_i 966 (by decide +kernel) rfl, by decide +kernel⟩
theorem sw_J9_max_7cf53 : Cond.static yJ9_max_7cf53 ∈ LW := LW_i 965 (by decide +kernel) rfl
theorem cw_J7_fill_53178 : Cw yJ7_fill_53178 cJ7_fill_53178 4 none 2 := ⟨LW_i 6 (by decide +kernel) rfl, LW_i 86 (by decide +kernel) rfl, by decide +kernel⟩
theorem sw_J7_fill_53178 : Cond.static yJ7_fill_53178 ∈ LW := LW_i 85 (by decide +kernel) rfl
end
section
def fil (u : St) (q n : Nat) (v : Int32) : St := (fun p k => if p = q ∧ k < n then v else u.1 p k, u.2)
theorem fil_0 (u : St) (q : Nat) (v : Int32) : fil u q 0 v = u := by
  unfold fil
  refine Prod.ext ?_ rfl
  funext p k
  simp
theorem fil_s (u : St) (q j : Nat) (v : Int32) : wr (fil u q j v) q j v = fil u q (j + 1) v := by
  unfold fil wr
  refine Prod.ext ?_ rfl
  funext p k
  by_cases h : p = q
  · subst h
    by_cases h2 : k = j
    · subst h2; simp
    · by_cases h3 : k < j
      · simp [h2, h3, Nat.lt_succ_of_lt h3]
      · simp [h2, h3, show ¬ k < j + 1 by omega]
  · simp [h]
theorem m_fill (q n : Nat) (v : Int32) (u : St) (hn : n < 2 ^ 31) (hs : SH[q]? = some (1, n, [])) : Mt yJ7_fill_53178 cJ7_fill_53178 4 none 0 (fun ad => [.ref (ad q), .int v]) u (fun _ => none) (fil u q n v) := by
  refine Mt.of (by decide) (fun ad => Nat.le_of_ble_eq_true rfl) ?_
  intro p l e s m args below meth c D cA ad ls C hl
  have hl : lv_has ls 4 [(0, .ref (ad q)), (1, .int v)] := hl
  refine z_iconst C (0 : Int32) dJ7_fill_53178_0 (by decide) ?_
  refine z_istore_n C (i := 2) [(2, .int 0), (0, .ref (ad q)), (1, .int v)] hl dJ7_fill_53178_1 rfl (by decide) rfl (fun ls hl => ?_)
  refine z_aload_n C (i := 0) (k := 1) hl dJ7_fill_53178_2 rfl rfl ?_
  refine z_alen C q n (nI n) hs rfl dJ7_fill_53178_3 ?_
  refine z_istore_n C (i := 3) [(3, .int (nI n)), (2, .int 0), (0, .ref (ad q)), (1, .int v)] hl dJ7_fill_53178_4 rfl (by decide) rfl (fun ls hl => ?_)
  have key : ∀ (t j : Nat), j + t = n → ∀ ls, lv_has ls 4 [(3, .int (nI n)), (2, .int (nI j)), (0, .ref (ad q)), (1, .int v)] → Z SH p l e (rmD 0) s m args below meth c D cA ad (inAd ad) 0 0 (MQ below (Qx D cA ad none (fil u q n v)) args s 0 0 (inAd ad)) (fil u q j v) 5 ls [] := by
    intro t
    induction t with
    | zero =>
      intro j hj ls hl
      have hj : j = n := by omega
      subst hj
      refine z_iload_n C (i := 2) (k := 1) hl dJ7_fill_53178_5 rfl rfl ?_
      refine z_iload_n C (i := 3) (k := 0) hl dJ7_fill_53178_6 rfl rfl ?_
      refine z_icmp_ge C 20 dJ7_fill_53178_7 (by decide) (fun _ => ?_) (fun hc => absurd (nI_le (Nat.le_refl j) hn) hc)
      exact z_vret C dJ7_fill_53178_20
    | succ t ih =>
      intro j hj ls hl
      refine z_iload_n C (i := 2) (k := 1) hl dJ7_fill_53178_5 rfl rfl ?_
      refine z_iload_n C (i := 3) (k := 0) hl dJ7_fill_53178_6 rfl rfl ?_
      refine z_icmp_ge C 20 dJ7_fill_53178_7 (by decide) (fun hc => absurd hc (nI_ge (by omega) hn)) (fun _ => ?_)
      refine z_aload_n C (i := 0) (k := 2) hl dJ7_fill_53178_10 rfl rfl ?_
      refine z_iload_n C (i := 2) (k := 1) hl dJ7_fill_53178_11 rfl rfl ?_
      refine z_iload_n C (i := 1) (k := 3) hl dJ7_fill_53178_12 rfl rfl ?_
      refine z_iast C q n hs (nI_in (by omega) hn) dJ7_fill_53178_13 ?_
      rw [nI_clamp (by omega), fil_s]
      refine z_iinc C (i := 2) (k := 1) (nI (j + 1)) [(2, .int (nI (j + 1))), (3, .int (nI n)), (0, .ref (ad q)), (1, .int v)] hl dJ7_fill_53178_14 rfl (by rw [nI_succ]; rfl) (by decide) rfl (fun ls hl => ?_)
      refine z_goto C 5 dJ7_fill_53178_17 (by decide) ?_
      exact ih (j + 1) (by omega) ls (lv_sub hl [1, 0, 2, 3] rfl)
  have h1 := key n 0 (by omega) ls hl
  rw [fil_0] at h1
  exact h1
theorem tsw8 {x : Int32} (h0 : ¬ x = (0 : Int32)) (h1 : ¬ x = (1 : Int32)) (h2 : ¬ x = (2 : Int32)) (h3 : ¬ x = (3 : Int32)) (h4 : ¬ x = (4 : Int32)) (h5 : ¬ x = (5 : Int32)) (h6 : ¬ x = (6 : Int32)) (h7 : ¬ x = (7 : Int32)) : x.toInt < 0 ∨ 7 < x.toInt := by
  rcases pk_ix x (n := 8) (by decide) with h | h | ⟨j, hj, e⟩
  · left
    exact Int32.lt_iff_toInt_lt.mp h
  · right
    have := Int32.le_iff_toInt_le.mp h
    rw [nI_toInt (by decide)] at this
    omega
  · exfalso
    match j, hj, e with
    | 0, _, e => exact h0 e
    | 1, _, e => exact h1 e
    | 2, _, e => exact h2 e
    | 3, _, e => exact h3 e
    | 4, _, e => exact h4 e
    | 5, _, e => exact h5 e
    | 6, _, e => exact h6 e
    | 7, _, e => exact h7 e
end
section
def f_J6_bitCount_0f7a4 (F : Nat) (x0 : Int32) (u : St) : Option (Int32 × St) := some (((((((((x0 - ((ushr x0 (1 : Int32)) &&& (1431655765 : Int32))) &&& (858993459 : Int32)) + ((ushr (x0 - ((ushr x0 (1 : Int32)) &&& (1431655765 : Int32))) (2 : Int32)) &&& (858993459 : Int32))) + (ushr (((x0 - ((ushr x0 (1 : Int32)) &&& (1431655765 : Int32))) &&& (858993459 : Int32)) + ((ushr (x0 - ((ushr x0 (1 : Int32)) &&& (1431655765 : Int32))) (2 : Int32)) &&& (858993459 : Int32))) (4 : Int32))) &&& (252645135 : Int32)) + (ushr (((((x0 - ((ushr x0 (1 : Int32)) &&& (1431655765 : Int32))) &&& (858993459 : Int32)) + ((ushr (x0 - ((ushr x0 (1 : Int32)) &&& (1431655765 : Int32))) (2 : Int32)) &&& (858993459 : Int32))) + (ushr (((x0 - ((ushr x0 (1 : Int32)) &&& (1431655765 : Int32))) &&& (858993459 : Int32)) + ((ushr (x0 - ((ushr x0 (1 : Int32)) &&& (1431655765 : Int32))) (2 : Int32)) &&& (858993459 : Int32))) (4 : Int32))) &&& (252645135 : Int32)) (8 : Int32))) + (ushr ((((((x0 - ((ushr x0 (1 : Int32)) &&& (1431655765 : Int32))) &&& (858993459 : Int32)) + ((ushr (x0 - ((ushr x0 (1 : Int32)) &&& (1431655765 : Int32))) (2 : Int32)) &&& (858993459 : Int32))) + (ushr (((x0 - ((ushr x0 (1 : Int32)) &&& (1431655765 : Int32))) &&& (858993459 : Int32)) + ((ushr (x0 - ((ushr x0 (1 : Int32)) &&& (1431655765 : Int32))) (2 : Int32)) &&& (858993459 : Int32))) (4 : Int32))) &&& (252645135 : Int32)) + (ushr (((((x0 - ((ushr x0 (1 : Int32)) &&& (1431655765 : Int32))) &&& (858993459 : Int32)) + ((ushr (x0 - ((ushr x0 (1 : Int32)) &&& (1431655765 : Int32))) (2 : Int32)) &&& (858993459 : Int32))) + (ushr (((x0 - ((ushr x0 (1 : Int32)) &&& (1431655765 : Int32))) &&& (858993459 : Int32)) + ((ushr (x0 - ((ushr x0 (1 : Int32)) &&& (1431655765 : Int32))) (2 : Int32)) &&& (858993459 : Int32))) (4 : Int32))) &&& (252645135 : Int32)) (8 : Int32))) (16 : Int32))) &&& (63 : Int32)), u)
set_option maxRecDepth 20000 in
set_option maxHeartbeats 4000000 in
theorem m_J6_bitCount_0f7a4 (F : Nat) (x0 : Int32) (u : St) (r : Int32) (u' : St)  (h : f_J6_bitCount_0f7a4 F x0 u = some (r, u')) : Mt yJ6_bitCount_0f7a4 cJ6_bitCount_0f7a4 1 (some .int) 0 (fun ad => [.int x0]) u (fun _ => some (.int r)) u' := by
  refine Mt.of (by decide) (fun ad => Nat.le_of_ble_eq_true rfl) ?_
  intro p l e s m args below meth c D cA ad ls C hl
  have hl : lv_has ls 1 [(0, .int x0)] := hl
  unfold f_J6_bitCount_0f7a4 at h
  refine z_iload_n C (i := 0) (k := 0) hl dJ6_bitCount_0f7a4_0 rfl rfl ?_
  refine z_iload_n C (i := 0) (k := 0) hl dJ6_bitCount_0f7a4_1 rfl rfl ?_
  refine z_iconst C (1 : Int32) dJ6_bitCount_0f7a4_2 (by decide) ?_
  refine z_iushr C dJ6_bitCount_0f7a4_3 ?_
  refine z_ldc_w C (v := (1431655765 : Int32)) kw_J6_265 dJ6_bitCount_0f7a4_4 ?_
  refine z_iand C dJ6_bitCount_0f7a4_7 ?_
  refine z_isub C dJ6_bitCount_0f7a4_8 ?_
  refine z_istore_n C (i := 0) [(0, .int (x0 - ((ushr x0 (1 : Int32)) &&& (1431655765 : Int32))))] hl dJ6_bitCount_0f7a4_9 rfl (by decide) rfl (fun ls hl => ?_)
  refine z_iload_n C (i := 0) (k := 0) hl dJ6_bitCount_0f7a4_10 rfl rfl ?_
  refine z_ldc_w C (v := (858993459 : Int32)) kw_J6_266 dJ6_bitCount_0f7a4_11 ?_
  refine z_iand C dJ6_bitCount_0f7a4_14 ?_
  refine z_iload_n C (i := 0) (k := 0) hl dJ6_bitCount_0f7a4_15 rfl rfl ?_
  refine z_iconst C (2 : Int32) dJ6_bitCount_0f7a4_16 (by decide) ?_
  refine z_iushr C dJ6_bitCount_0f7a4_17 ?_
  refine z_ldc_w C (v := (858993459 : Int32)) kw_J6_266 dJ6_bitCount_0f7a4_18 ?_
  refine z_iand C dJ6_bitCount_0f7a4_21 ?_
  refine z_iadd C dJ6_bitCount_0f7a4_22 ?_
  refine z_istore_n C (i := 0) [(0, .int (((x0 - ((ushr x0 (1 : Int32)) &&& (1431655765 : Int32))) &&& (858993459 : Int32)) + ((ushr (x0 - ((ushr x0 (1 : Int32)) &&& (1431655765 : Int32))) (2 : Int32)) &&& (858993459 : Int32))))] hl dJ6_bitCount_0f7a4_23 rfl (by decide) rfl (fun ls hl => ?_)
  refine z_iload_n C (i := 0) (k := 0) hl dJ6_bitCount_0f7a4_24 rfl rfl ?_
  refine z_iload_n C (i := 0) (k := 0) hl dJ6_bitCount_0f7a4_25 rfl rfl ?_
  refine z_iconst C (4 : Int32) dJ6_bitCount_0f7a4_26 (by decide) ?_
  refine z_iushr C dJ6_bitCount_0f7a4_27 ?_
  refine z_iadd C dJ6_bitCount_0f7a4_28 ?_
  refine z_ldc_w C (v := (252645135 : Int32)) kw_J6_267 dJ6_bitCount_0f7a4_29 ?_
  refine z_iand C dJ6_bitCount_0f7a4_32 ?_
  refine z_istore_n C (i := 0) [(0, .int (((((x0 - ((ushr x0 (1 : Int32)) &&& (1431655765 : Int32))) &&& (858993459 : Int32)) + ((ushr (x0 - ((ushr x0 (1 : Int32)) &&& (1431655765 : Int32))) (2 : Int32)) &&& (858993459 : Int32))) + (ushr (((x0 - ((ushr x0 (1 : Int32)) &&& (1431655765 : Int32))) &&& (858993459 : Int32)) + ((ushr (x0 - ((ushr x0 (1 : Int32)) &&& (1431655765 : Int32))) (2 : Int32)) &&& (858993459 : Int32))) (4 : Int32))) &&& (252645135 : Int32)))] hl dJ6_bitCount_0f7a4_33 rfl (by decide) rfl (fun ls hl => ?_)
  refine z_iload_n C (i := 0) (k := 0) hl dJ6_bitCount_0f7a4_34 rfl rfl ?_
  refine z_iload_n C (i := 0) (k := 0) hl dJ6_bitCount_0f7a4_35 rfl rfl ?_
  refine z_bipush C (8 : Int32) dJ6_bitCount_0f7a4_36 (by decide) ?_
  refine z_iushr C dJ6_bitCount_0f7a4_38 ?_
  refine z_iadd C dJ6_bitCount_0f7a4_39 ?_
  refine z_istore_n C (i := 0) [(0, .int ((((((x0 - ((ushr x0 (1 : Int32)) &&& (1431655765 : Int32))) &&& (858993459 : Int32)) + ((ushr (x0 - ((ushr x0 (1 : Int32)) &&& (1431655765 : Int32))) (2 : Int32)) &&& (858993459 : Int32))) + (ushr (((x0 - ((ushr x0 (1 : Int32)) &&& (1431655765 : Int32))) &&& (858993459 : Int32)) + ((ushr (x0 - ((ushr x0 (1 : Int32)) &&& (1431655765 : Int32))) (2 : Int32)) &&& (858993459 : Int32))) (4 : Int32))) &&& (252645135 : Int32)) + (ushr (((((x0 - ((ushr x0 (1 : Int32)) &&& (1431655765 : Int32))) &&& (858993459 : Int32)) + ((ushr (x0 - ((ushr x0 (1 : Int32)) &&& (1431655765 : Int32))) (2 : Int32)) &&& (858993459 : Int32))) + (ushr (((x0 - ((ushr x0 (1 : Int32)) &&& (1431655765 : Int32))) &&& (858993459 : Int32)) + ((ushr (x0 - ((ushr x0 (1 : Int32)) &&& (1431655765 : Int32))) (2 : Int32)) &&& (858993459 : Int32))) (4 : Int32))) &&& (252645135 : Int32)) (8 : Int32))))] hl dJ6_bitCount_0f7a4_40 rfl (by decide) rfl (fun ls hl => ?_)
  refine z_iload_n C (i := 0) (k := 0) hl dJ6_bitCount_0f7a4_41 rfl rfl ?_
  refine z_iload_n C (i := 0) (k := 0) hl dJ6_bitCount_0f7a4_42 rfl rfl ?_
  refine z_bipush C (16 : Int32) dJ6_bitCount_0f7a4_43 (by decide) ?_
  refine z_iushr C dJ6_bitCount_0f7a4_45 ?_
  refine z_iadd C dJ6_bitCount_0f7a4_46 ?_
  refine z_istore_n C (i := 0) [(0, .int (((((((x0 - ((ushr x0 (1 : Int32)) &&& (1431655765 : Int32))) &&& (858993459 : Int32)) + ((ushr (x0 - ((ushr x0 (1 : Int32)) &&& (1431655765 : Int32))) (2 : Int32)) &&& (858993459 : Int32))) + (ushr (((x0 - ((ushr x0 (1 : Int32)) &&& (1431655765 : Int32))) &&& (858993459 : Int32)) + ((ushr (x0 - ((ushr x0 (1 : Int32)) &&& (1431655765 : Int32))) (2 : Int32)) &&& (858993459 : Int32))) (4 : Int32))) &&& (252645135 : Int32)) + (ushr (((((x0 - ((ushr x0 (1 : Int32)) &&& (1431655765 : Int32))) &&& (858993459 : Int32)) + ((ushr (x0 - ((ushr x0 (1 : Int32)) &&& (1431655765 : Int32))) (2 : Int32)) &&& (858993459 : Int32))) + (ushr (((x0 - ((ushr x0 (1 : Int32)) &&& (1431655765 : Int32))) &&& (858993459 : Int32)) + ((ushr (x0 - ((ushr x0 (1 : Int32)) &&& (1431655765 : Int32))) (2 : Int32)) &&& (858993459 : Int32))) (4 : Int32))) &&& (252645135 : Int32)) (8 : Int32))) + (ushr ((((((x0 - ((ushr x0 (1 : Int32)) &&& (1431655765 : Int32))) &&& (858993459 : Int32)) + ((ushr (x0 - ((ushr x0 (1 : Int32)) &&& (1431655765 : Int32))) (2 : Int32)) &&& (858993459 : Int32))) + (ushr (((x0 - ((ushr x0 (1 : Int32)) &&& (1431655765 : Int32))) &&& (858993459 : Int32)) + ((ushr (x0 - ((ushr x0 (1 : Int32)) &&& (1431655765 : Int32))) (2 : Int32)) &&& (858993459 : Int32))) (4 : Int32))) &&& (252645135 : Int32)) + (ushr (((((x0 - ((ushr x0 (1 : Int32)) &&& (1431655765 : Int32))) &&& (858993459 : Int32)) + ((ushr (x0 - ((ushr x0 (1 : Int32)) &&& (1431655765 : Int32))) (2 : Int32)) &&& (858993459 : Int32))) + (ushr (((x0 - ((ushr x0 (1 : Int32)) &&& (1431655765 : Int32))) &&& (858993459 : Int32)) + ((ushr (x0 - ((ushr x0 (1 : Int32)) &&& (1431655765 : Int32))) (2 : Int32)) &&& (858993459 : Int32))) (4 : Int32))) &&& (252645135 : Int32)) (8 : Int32))) (16 : Int32))))] hl dJ6_bitCount_0f7a4_47 rfl (by decide) rfl (fun ls hl => ?_)
  refine z_iload_n C (i := 0) (k := 0) hl dJ6_bitCount_0f7a4_48 rfl rfl ?_
  refine z_bipush C (63 : Int32) dJ6_bitCount_0f7a4_49 (by decide) ?_
  refine z_iand C dJ6_bitCount_0f7a4_51 ?_
  obtain ⟨rfl, rfl⟩ := r2 h
  exact z_iret C dJ6_bitCount_0f7a4_52
def f_J9_max_7cf53 (F : Nat) (x0 : Int32) (x1 : Int32) (u : St) : Option (Int32 × St) := (if x0 < x1 then some (x1, u) else some (x0, u))
set_option maxRecDepth 20000 in
set_option maxHeartbeats 4000000 in
theorem m_J9_max_7cf53 (F : Nat) (x0 : Int32) (x1 : Int32) (u : St) (r : Int32) (u' : St)  (h : f_J9_max_7cf53 F x0 x1 u = some (r, u')) : Mt yJ9_max_7cf53 cJ9_max_7cf53 2 (some .int) 0 (fun ad => [.int x0, .int x1]) u (fun _ => some (.int r)) u' := by
  refine Mt.of (by decide) (fun ad => Nat.le_of_ble_eq_true rfl) ?_
  intro p l e s m args below meth c D cA ad ls C hl
  have hl : lv_has ls 2 [(0, .int x0), (1, .int x1)] := hl
  unfold f_J9_max_7cf53 at h
  refine z_iload_n C (i := 0) (k := 0) hl dJ9_max_7cf53_0 rfl rfl ?_
  refine z_iload_n C (i := 1) (k := 1) hl dJ9_max_7cf53_1 rfl rfl ?_
  refine z_icmp_lt C 9 dJ9_max_7cf53_2 (by decide) (fun hc1 => ?_) (fun hc1 => ?_)
  · replace h := (if_pos hc1).symm.trans h
    refine z_iload_n C (i := 1) (k := 1) hl dJ9_max_7cf53_9 rfl rfl ?_
    obtain ⟨rfl, rfl⟩ := r2 h
    exact z_iret C dJ9_max_7cf53_10
  · replace h := (if_neg hc1).symm.trans h
    refine z_iload_n C (i := 0) (k := 0) hl dJ9_max_7cf53_5 rfl rfl ?_
    refine z_goto C 10 dJ9_max_7cf53_6 (by decide) ?_
    obtain ⟨rfl, rfl⟩ := r2 h
    exact z_iret C dJ9_max_7cf53_10
def f_X4_isNode (F : Nat) (x1 : Int32) (u : St) : Option (Int32 × St) := (if x1 < 0 then some ((0 : Int32), u) else (if (u.1 22 4) ≤ x1 then some ((0 : Int32), u) else some ((1 : Int32), u)))
set_option maxRecDepth 20000 in
set_option maxHeartbeats 4000000 in
theorem m_X4_isNode (F : Nat) (x1 : Int32) (u : St) (r : Int32) (u' : St)  (h : f_X4_isNode F x1 u = some (r, u')) : Mt yX4_isNode cX4_isNode 2 (some .boolean) 0 (fun ad => [.ref (ad 22), .int x1]) u (fun _ => some (.int r)) u' := by
  refine Mt.of (by decide) (fun ad => Nat.le_of_ble_eq_true rfl) ?_
  intro p l e s m args below meth c D cA ad ls C hl
  have hl : lv_has ls 2 [(0, .ref (ad 22)), (1, .int x1)] := hl
  unfold f_X4_isNode at h
  refine z_iload_n C (i := 1) (k := 1) hl dX4_isNode_0 rfl rfl ?_
  refine z_if_lt C 16 dX4_isNode_1 (by decide) (fun hc2 => ?_) (fun hc2 => ?_)
  · replace h := (if_pos hc2).symm.trans h
    refine z_iconst C (0 : Int32) dX4_isNode_16 (by decide) ?_
    obtain ⟨rfl, rfl⟩ := r2 h
    exact z_zret (by decide) C dX4_isNode_17
  · replace h := (if_neg hc2).symm.trans h
    refine z_iload_n C (i := 1) (k := 1) hl dX4_isNode_4 rfl rfl ?_
    refine z_aload_n C (i := 0) (k := 0) hl dX4_isNode_5 rfl rfl ?_
    refine z_geti C 22 4 fw_X4_24 sh_22 rfl dX4_isNode_6 ?_
    refine z_icmp_ge C 16 dX4_isNode_9 (by decide) (fun hc1 => ?_) (fun hc1 => ?_)
    · replace h := (if_pos hc1).symm.trans h
      refine z_iconst C (0 : Int32) dX4_isNode_16 (by decide) ?_
      obtain ⟨rfl, rfl⟩ := r2 h
      exact z_zret (by decide) C dX4_isNode_17
    · replace h := (if_neg hc1).symm.trans h
      refine z_iconst C (1 : Int32) dX4_isNode_12 (by decide) ?_
      refine z_goto C 17 dX4_isNode_13 (by decide) ?_
      obtain ⟨rfl, rfl⟩ := r2 h
      exact z_zret (by decide) C dX4_isNode_17
def f_X4_delayOf (F : Nat) (x1 : Int32) (u : St) : Option (Int32 × St) := (if x1 < 0 ∨ 10 ≤ x1.toNatClampNeg then none else some ((u.1 23 x1.toNatClampNeg), u))
set_option maxRecDepth 20000 in
set_option maxHeartbeats 4000000 in
theorem m_X4_delayOf (F : Nat) (x1 : Int32) (u : St) (r : Int32) (u' : St)  (h : f_X4_delayOf F x1 u = some (r, u')) : Mt yX4_delayOf cX4_delayOf 2 (some .int) 0 (fun ad => [.ref (ad 22), .int x1]) u (fun _ => some (.int r)) u' := by
  refine Mt.of (by decide) (fun ad => Nat.le_of_ble_eq_true rfl) ?_
  intro p l e s m args below meth c D cA ad ls C hl
  have hl : lv_has ls 2 [(0, .ref (ad 22)), (1, .int x1)] := hl
  unfold f_X4_delayOf at h
  refine z_aload_n C (i := 0) (k := 0) hl dX4_delayOf_0 rfl rfl ?_
  refine z_getr C 22 0 23 fw_X4_9 sh_22 rfl dX4_delayOf_1 ?_
  refine z_iload_n C (i := 1) (k := 1) hl dX4_delayOf_4 rfl rfl ?_
  obtain ⟨hi1, h⟩ := gd h
  refine z_iald C 23 10 sh_23 hi1 dX4_delayOf_5 ?_
  obtain ⟨rfl, rfl⟩ := r2 h
  exact z_iret C dX4_delayOf_6
def f_X8_doneAt (F : Nat) (x1 : Int32) (x2 : Int32) (u : St) : Option (Int32 × St) := (if (1 : Int32) ≤ x2 then (if x1 < 0 ∨ 10 ≤ x1.toNatClampNeg then none else (if x2 < 0 ∨ 201 ≤ x2.toNatClampNeg then none else (if (u.1 (35 + x1.toNatClampNeg) x2.toNatClampNeg) = (-1 : Int32) then some ((-1 : Int32), u) else (Option.bind (f_X4_delayOf F x1 u) (fun w6 => some (((u.1 (35 + x1.toNatClampNeg) x2.toNatClampNeg) + w6.1), w6.2)))))) else some ((0 : Int32), u))
set_option maxRecDepth 20000 in
set_option maxHeartbeats 4000000 in
theorem m_X8_doneAt (F : Nat) (x1 : Int32) (x2 : Int32) (u : St) (r : Int32) (u' : St)  (h : f_X8_doneAt F x1 x2 u = some (r, u')) : Mt yX8_doneAt cX8_doneAt 4 (some .int) 1 (fun ad => [.ref (ad 33), .int x1, .int x2]) u (fun _ => some (.int r)) u' := by
  refine Mt.of (by decide) (fun ad => Nat.le_of_ble_eq_true rfl) ?_
  intro p l e s m args below meth c D cA ad ls C hl
  have hl : lv_has ls 4 [(0, .ref (ad 33)), (1, .int x1), (2, .int x2)] := hl
  unfold f_X8_doneAt at h
  refine z_iload_n C (i := 2) (k := 2) hl dX8_doneAt_0 rfl rfl ?_
  refine z_iconst C (1 : Int32) dX8_doneAt_1 (by decide) ?_
  refine z_icmp_ge C 7 dX8_doneAt_2 (by decide) (fun hc8 => ?_) (fun hc8 => ?_)
  · replace h := (if_pos hc8).symm.trans h
    refine z_aload_n C (i := 0) (k := 0) hl dX8_doneAt_7 rfl rfl ?_
    refine z_getr C 33 1 34 fw_X8_11 sh_33 rfl dX8_doneAt_8 ?_
    refine z_iload_n C (i := 1) (k := 1) hl dX8_doneAt_11 rfl rfl ?_
    obtain ⟨hi1, h⟩ := gd h
    have hi1b : x1.toNatClampNeg < 10 := by omega
    refine z_aald C 34 10 (35 + x1.toNatClampNeg) sh_34 hi1 (shBo hi1b) dX8_doneAt_12 ?_
    refine z_iload_n C (i := 2) (k := 2) hl dX8_doneAt_13 rfl rfl ?_
    obtain ⟨hi2, h⟩ := gd h
    refine z_iald C (35 + x1.toNatClampNeg) 201 (shB hi1b) hi2 dX8_doneAt_14 ?_
    refine z_istore_n C (i := 3) [(3, .int (u.1 (35 + x1.toNatClampNeg) x2.toNatClampNeg)), (0, .ref (ad 33)), (1, .int x1), (2, .int x2)] hl dX8_doneAt_15 rfl (by decide) rfl (fun ls hl => ?_)
    refine z_iload_n C (i := 3) (k := 0) hl dX8_doneAt_16 rfl rfl ?_
    refine z_iconst C (-1 : Int32) dX8_doneAt_17 (by decide) ?_
    refine z_icmp_ne C 25 dX8_doneAt_18 (by decide) (fun hc7 => ?_) (fun hc7 => ?_)
    · replace h := (if_neg hc7).symm.trans h
      refine z_iload_n C (i := 3) (k := 0) hl dX8_doneAt_25 rfl rfl ?_
      refine z_aload_n C (i := 0) (k := 1) hl dX8_doneAt_26 rfl rfl ?_
      refine z_getr C 33 0 22 fw_X8_20 sh_33 rfl dX8_doneAt_27 ?_
      refine z_iload_n C (i := 1) (k := 2) hl dX8_doneAt_30 rfl rfl ?_
      obtain ⟨⟨r5, u3⟩, hc4, h⟩ := bnd h
      try dsimp only at h
      refine z_callV C (ci := 4) [.int x1] [.int (u.1 (35 + x1.toNatClampNeg) x2.toNatClampNeg)] [.int r5, .int (u.1 (35 + x1.toNatClampNeg) x2.toNatClampNeg)] (m_X4_delayOf F _ _ _ _ hc4) cw_X4_delayOf vw_X4_delayOf ml_X8_35 sh_22 rfl rfl rfl rfl hl.1 (Nat.le_of_ble_eq_true rfl) ⟨Nat.le_of_ble_eq_true rfl, Nat.le_of_ble_eq_true rfl⟩ ⟨Nat.le_refl _, Nat.le_refl _⟩ rfl dX8_doneAt_31 ?_
      refine z_iadd C dX8_doneAt_34 ?_
      obtain ⟨rfl, rfl⟩ := r2 h
      exact z_iret C dX8_doneAt_35
    · replace h := (if_pos hc7).symm.trans h
      refine z_iconst C (-1 : Int32) dX8_doneAt_21 (by decide) ?_
      refine z_goto C 35 dX8_doneAt_22 (by decide) ?_
      obtain ⟨rfl, rfl⟩ := r2 h
      exact z_iret C dX8_doneAt_35
  · replace h := (if_neg hc8).symm.trans h
    refine z_iconst C (0 : Int32) dX8_doneAt_5 (by decide) ?_
    obtain ⟨rfl, rfl⟩ := r2 h
    exact z_iret C dX8_doneAt_6
def f_X11_isIn (F : Nat) (x0 : Int32) (x1 : Int32) (u : St) : Option (Int32 × St) := (if ((x0 >>> (x1 &&& 31)) &&& (1 : Int32)) = 0 then some ((0 : Int32), u) else some ((1 : Int32), u))
set_option maxRecDepth 20000 in
set_option maxHeartbeats 4000000 in
theorem m_X11_isIn (F : Nat) (x0 : Int32) (x1 : Int32) (u : St) (r : Int32) (u' : St)  (h : f_X11_isIn F x0 x1 u = some (r, u')) : Mt yX11_isIn cX11_isIn 2 (some .boolean) 0 (fun ad => [.int x0, .int x1]) u (fun _ => some (.int r)) u' := by
  refine Mt.of (by decide) (fun ad => Nat.le_of_ble_eq_true rfl) ?_
  intro p l e s m args below meth c D cA ad ls C hl
  have hl : lv_has ls 2 [(0, .int x0), (1, .int x1)] := hl
  unfold f_X11_isIn at h
  refine z_iload_n C (i := 0) (k := 0) hl dX11_isIn_0 rfl rfl ?_
  refine z_iload_n C (i := 1) (k := 1) hl dX11_isIn_1 rfl rfl ?_
  refine z_ishr C dX11_isIn_2 ?_
  refine z_iconst C (1 : Int32) dX11_isIn_3 (by decide) ?_
  refine z_iand C dX11_isIn_4 ?_
  refine z_if_eq C 12 dX11_isIn_5 (by decide) (fun hc1 => ?_) (fun hc1 => ?_)
  · replace h := (if_pos hc1).symm.trans h
    refine z_iconst C (0 : Int32) dX11_isIn_12 (by decide) ?_
    obtain ⟨rfl, rfl⟩ := r2 h
    exact z_zret (by decide) C dX11_isIn_13
  · replace h := (if_neg hc1).symm.trans h
    refine z_iconst C (1 : Int32) dX11_isIn_8 (by decide) ?_
    refine z_goto C 13 dX11_isIn_9 (by decide) ?_
    obtain ⟨rfl, rfl⟩ := r2 h
    exact z_zret (by decide) C dX11_isIn_13
def f_X4_nodes (F : Nat)  (u : St) : Option (Int32 × St) := some ((u.1 22 4), u)
set_option maxRecDepth 20000 in
set_option maxHeartbeats 4000000 in
theorem m_X4_nodes (F : Nat)  (u : St) (r : Int32) (u' : St)  (h : f_X4_nodes F  u = some (r, u')) : Mt yX4_nodes cX4_nodes 1 (some .int) 0 (fun ad => [.ref (ad 22)]) u (fun _ => some (.int r)) u' := by
  refine Mt.of (by decide) (fun ad => Nat.le_of_ble_eq_true rfl) ?_
  intro p l e s m args below meth c D cA ad ls C hl
  have hl : lv_has ls 1 [(0, .ref (ad 22))] := hl
  unfold f_X4_nodes at h
  refine z_aload_n C (i := 0) (k := 0) hl dX4_nodes_0 rfl rfl ?_
  refine z_geti C 22 4 fw_X4_24 sh_22 rfl dX4_nodes_1 ?_
  obtain ⟨rfl, rfl⟩ := r2 h
  exact z_iret C dX4_nodes_4
def f_X4_sourceOf (F : Nat) (x1 : Int32) (u : St) : Option (Int32 × St) := (if x1 < 0 ∨ 20 ≤ x1.toNatClampNeg then none else some ((u.1 24 x1.toNatClampNeg), u))
set_option maxRecDepth 20000 in
set_option maxHeartbeats 4000000 in
theorem m_X4_sourceOf (F : Nat) (x1 : Int32) (u : St) (r : Int32) (u' : St)  (h : f_X4_sourceOf F x1 u = some (r, u')) : Mt yX4_sourceOf cX4_sourceOf 2 (some .int) 0 (fun ad => [.ref (ad 22), .int x1]) u (fun _ => some (.int r)) u' := by
  refine Mt.of (by decide) (fun ad => Nat.le_of_ble_eq_true rfl) ?_
  intro p l e s m args below meth c D cA ad ls C hl
  have hl : lv_has ls 2 [(0, .ref (ad 22)), (1, .int x1)] := hl
  unfold f_X4_sourceOf at h
  refine z_aload_n C (i := 0) (k := 0) hl dX4_sourceOf_0 rfl rfl ?_
  refine z_getr C 22 1 24 fw_X4_15 sh_22 rfl dX4_sourceOf_1 ?_
  refine z_iload_n C (i := 1) (k := 1) hl dX4_sourceOf_4 rfl rfl ?_
  obtain ⟨hi1, h⟩ := gd h
  refine z_iald C 24 20 sh_24 hi1 dX4_sourceOf_5 ?_
  obtain ⟨rfl, rfl⟩ := r2 h
  exact z_iret C dX4_sourceOf_6
def f_X4_targetOf (F : Nat) (x1 : Int32) (u : St) : Option (Int32 × St) := (if x1 < 0 ∨ 20 ≤ x1.toNatClampNeg then none else some ((u.1 25 x1.toNatClampNeg), u))
set_option maxRecDepth 20000 in
set_option maxHeartbeats 4000000 in
theorem m_X4_targetOf (F : Nat) (x1 : Int32) (u : St) (r : Int32) (u' : St)  (h : f_X4_targetOf F x1 u = some (r, u')) : Mt yX4_targetOf cX4_targetOf 2 (some .int) 0 (fun ad => [.ref (ad 22), .int x1]) u (fun _ => some (.int r)) u' := by
  refine Mt.of (by decide) (fun ad => Nat.le_of_ble_eq_true rfl) ?_
  intro p l e s m args below meth c D cA ad ls C hl
  have hl : lv_has ls 2 [(0, .ref (ad 22)), (1, .int x1)] := hl
  unfold f_X4_targetOf at h
  refine z_aload_n C (i := 0) (k := 0) hl dX4_targetOf_0 rfl rfl ?_
  refine z_getr C 22 2 25 fw_X4_18 sh_22 rfl dX4_targetOf_1 ?_
  refine z_iload_n C (i := 1) (k := 1) hl dX4_targetOf_4 rfl rfl ?_
  obtain ⟨hi1, h⟩ := gd h
  refine z_iald C 25 20 sh_25 hi1 dX4_targetOf_5 ?_
  obtain ⟨rfl, rfl⟩ := r2 h
  exact z_iret C dX4_targetOf_6
def f_X4_tokensOf (F : Nat) (x1 : Int32) (u : St) : Option (Int32 × St) := (if x1 < 0 ∨ 20 ≤ x1.toNatClampNeg then none else some ((u.1 26 x1.toNatClampNeg), u))
set_option maxRecDepth 20000 in
set_option maxHeartbeats 4000000 in
theorem m_X4_tokensOf (F : Nat) (x1 : Int32) (u : St) (r : Int32) (u' : St)  (h : f_X4_tokensOf F x1 u = some (r, u')) : Mt yX4_tokensOf cX4_tokensOf 2 (some .int) 0 (fun ad => [.ref (ad 22), .int x1]) u (fun _ => some (.int r)) u' := by
  refine Mt.of (by decide) (fun ad => Nat.le_of_ble_eq_true rfl) ?_
  intro p l e s m args below meth c D cA ad ls C hl
  have hl : lv_has ls 2 [(0, .ref (ad 22)), (1, .int x1)] := hl
  unfold f_X4_tokensOf at h
  refine z_aload_n C (i := 0) (k := 0) hl dX4_tokensOf_0 rfl rfl ?_
  refine z_getr C 22 3 26 fw_X4_21 sh_22 rfl dX4_tokensOf_1 ?_
  refine z_iload_n C (i := 1) (k := 1) hl dX4_tokensOf_4 rfl rfl ?_
  obtain ⟨hi1, h⟩ := gd h
  refine z_iald C 26 20 sh_26 hi1 dX4_tokensOf_5 ?_
  obtain ⟨rfl, rfl⟩ := r2 h
  exact z_iret C dX4_tokensOf_6
def f_X8_later (F : Nat) (x0 : Int32) (x1 : Int32) (u : St) : Option (Int32 × St) := (if x0 = (-1 : Int32) then some ((-1 : Int32), u) else (if x1 = (-1 : Int32) then some ((-1 : Int32), u) else (Option.bind (f_J9_max_7cf53 F x0 x1 u) (fun w4 => some (w4.1, w4.2)))))
set_option maxRecDepth 20000 in
set_option maxHeartbeats 4000000 in
theorem m_X8_later (F : Nat) (x0 : Int32) (x1 : Int32) (u : St) (r : Int32) (u' : St)  (h : f_X8_later F x0 x1 u = some (r, u')) : Mt yX8_later cX8_later 2 (some .int) 1 (fun ad => [.int x0, .int x1]) u (fun _ => some (.int r)) u' := by
  refine Mt.of (by decide) (fun ad => Nat.le_of_ble_eq_true rfl) ?_
  intro p l e s m args below meth c D cA ad ls C hl
  have hl : lv_has ls 2 [(0, .int x0), (1, .int x1)] := hl
  unfold f_X8_later at h
  refine z_iload_n C (i := 0) (k := 0) hl dX8_later_0 rfl rfl ?_
  refine z_iconst C (-1 : Int32) dX8_later_1 (by decide) ?_
  refine z_icmp_eq C 10 dX8_later_2 (by decide) (fun hc6 => ?_) (fun hc6 => ?_)
  · replace h := (if_pos hc6).symm.trans h
    refine z_iconst C (-1 : Int32) dX8_later_10 (by decide) ?_
    refine z_goto C 19 dX8_later_11 (by decide) ?_
    obtain ⟨rfl, rfl⟩ := r2 h
    exact z_iret C dX8_later_19
  · replace h := (if_neg hc6).symm.trans h
    refine z_iload_n C (i := 1) (k := 1) hl dX8_later_5 rfl rfl ?_
    refine z_iconst C (-1 : Int32) dX8_later_6 (by decide) ?_
    refine z_icmp_ne C 14 dX8_later_7 (by decide) (fun hc5 => ?_) (fun hc5 => ?_)
    · replace h := (if_neg hc5).symm.trans h
      refine z_iload_n C (i := 0) (k := 0) hl dX8_later_14 rfl rfl ?_
      refine z_iload_n C (i := 1) (k := 1) hl dX8_later_15 rfl rfl ?_
      obtain ⟨⟨r3, u1⟩, hc2, h⟩ := bnd h
      try dsimp only at h
      refine z_callS C [.int x0, .int x1] [] [.int r3] (m_J9_max_7cf53 F _ _ _ _ _ hc2) cw_J9_max_7cf53 sw_J9_max_7cf53 ml_X8_80 rfl rfl rfl hl.1 (Nat.le_of_ble_eq_true rfl) ⟨Nat.le_of_ble_eq_true rfl, Nat.le_of_ble_eq_true rfl⟩ ⟨Nat.le_refl _, Nat.le_refl _⟩ rfl dX8_later_16 ?_
      obtain ⟨rfl, rfl⟩ := r2 h
      exact z_iret C dX8_later_19
    · replace h := (if_pos hc5).symm.trans h
      refine z_iconst C (-1 : Int32) dX8_later_10 (by decide) ?_
      refine z_goto C 19 dX8_later_11 (by decide) ?_
      obtain ⟨rfl, rfl⟩ := r2 h
      exact z_iret C dX8_later_19
def b_X8_fill_2 (F : Nat) (x1 : Int32) (rec : Int32 → St → Option (Int32 × St)) (x2 : Int32) (u : St) : Option (Int32 × St) := (Option.bind (f_X4_nodes F u) (fun w4 => (if w4.1 ≤ x2 then some (x2, w4.2) else (if x2 < 0 ∨ 10 ≤ x2.toNatClampNeg then none else (Option.bind (f_X11_isIn F (w4.2.1 33 4) x2 w4.2) (fun w9 => (if w9.1 = 0 then (if x1 < 0 ∨ 201 ≤ x1.toNatClampNeg then none else rec ((x2 + (1 : Int32))) (wr w9.2 (35 + x2.toNatClampNeg) x1.toNatClampNeg (-1 : Int32))) else (if x1 < 0 ∨ 201 ≤ x1.toNatClampNeg then none else rec ((x2 + (1 : Int32))) (wr w9.2 (35 + x2.toNatClampNeg) x1.toNatClampNeg (0 : Int32))))))))))
def l_X8_fill_2 (F : Nat) (x1 : Int32) : Nat → Int32 → St → Option (Int32 × St)
  | 0, _, _ => none
  | k + 1, x2, u => b_X8_fill_2 F x1 (l_X8_fill_2 F x1 k) x2 u
def b_X8_fill_45 (F : Nat) (x1 : Int32) (rec : Int32 → St → Option (Int32 × St)) (x2 : Int32) (u : St) : Option (Int32 × St) := (if (u.1 33 3) ≤ x2 then some (x2, u) else (if x2 < 0 ∨ 20 ≤ x2.toNatClampNeg then none else (Option.bind (f_X4_targetOf F (u.1 45 x2.toNatClampNeg) u) (fun w20 => (Option.bind (f_X4_sourceOf F (u.1 45 x2.toNatClampNeg) w20.2) (fun w24 => (Option.bind (f_X4_tokensOf F (u.1 45 x2.toNatClampNeg) w24.2) (fun w28 => (Option.bind (f_X8_doneAt F w24.1 (x1 - w28.1) w28.2) (fun w32 => (if w20.1 < 0 ∨ 10 ≤ w20.1.toNatClampNeg then none else (if w20.1 < 0 ∨ 10 ≤ w20.1.toNatClampNeg then none else (if x1 < 0 ∨ 201 ≤ x1.toNatClampNeg then none else (Option.bind (f_X8_later F (w32.2.1 (35 + w20.1.toNatClampNeg) x1.toNatClampNeg) w32.1 w32.2) (fun w39 => (if x1 < 0 ∨ 201 ≤ x1.toNatClampNeg then none else rec ((x2 + (1 : Int32))) (wr w39.2 (35 + w20.1.toNatClampNeg) x1.toNatClampNeg w39.1)))))))))))))))))
def l_X8_fill_45 (F : Nat) (x1 : Int32) : Nat → Int32 → St → Option (Int32 × St)
  | 0, _, _ => none
  | k + 1, x2, u => b_X8_fill_45 F x1 (l_X8_fill_45 F x1 k) x2 u
def f_X8_fill (F : Nat) (x1 : Int32) (u : St) : Option (St) := (Option.bind (l_X8_fill_2 F x1 F (0 : Int32) u) (fun w14 => (Option.bind (l_X8_fill_45 F x1 F (0 : Int32) w14.2) (fun w42 => some w42.2))))
set_option maxRecDepth 20000 in
set_option maxHeartbeats 4000000 in
theorem zl_X8_fill_2 {p : Program} {l : Launch} {e : Env} {s : State} {m : MethodId} {args : Array Value} {below : List Frame} {meth : Method} {c : Code} {D : va_G} {cA : Nat → ClassId} {ad : Nat → Nat} {Q : State → Prop} (C : Cx SH p s m args meth c cX8_fill 6 none RX8 D cA ad (inAd ad)) (F : Nat) (x1 : Int32)  {out : Int32 × St}  (K : ∀ ls : Array Slot, lv_has ls 6 [(0, .ref (ad 33)), (1, .int x1), (2, .int out.1)] → Z SH p l e (rmD 2) s m args below meth c D cA ad (inAd ad) 0 0 Q out.2 43 ls []) : ∀ (k : Nat) (x2 : Int32) (u : St), l_X8_fill_2 F x1 k x2 u = some out → ∀ ls : Array Slot, lv_has ls 6 [(0, .ref (ad 33)), (1, .int x1), (2, .int x2)] → Z SH p l e (rmD 2) s m args below meth c D cA ad (inAd ad) 0 0 Q u 2 ls [] := by
  intro k
  induction k with
  | zero => intro x2 u h; cases h
  | succ k ih =>
    intro x2 u h ls hl
    replace h : b_X8_fill_2 F x1 (l_X8_fill_2 F x1 k) x2 u = some out := h
    unfold b_X8_fill_2 at h
    refine z_iload_n C (i := 2) (k := 2) hl dX8_fill_2 rfl rfl ?_
    refine z_aload_n C (i := 0) (k := 0) hl dX8_fill_3 rfl rfl ?_
    refine z_getr C 33 0 22 fw_X8_20 sh_33 rfl dX8_fill_4 ?_
    obtain ⟨⟨r3, u1⟩, hc2, h⟩ := bnd h
    try dsimp only at h
    refine z_callV C (ci := 4) [] [.int x2] [.int r3, .int x2] (m_X4_nodes F  _ _ _ hc2) cw_X4_nodes vw_X4_nodes ml_X8_47 sh_22 rfl rfl rfl rfl hl.1 (Nat.le_of_ble_eq_true rfl) ⟨Nat.le_of_ble_eq_true rfl, Nat.le_of_ble_eq_true rfl⟩ ⟨Nat.le_refl _, Nat.le_refl _⟩ rfl dX8_fill_7 ?_
    refine z_icmp_ge C 43 dX8_fill_10 (by decide) (fun hc13 => ?_) (fun hc13 => ?_)
    · replace h := (if_pos hc13).symm.trans h
      obtain rfl := Option.some.inj h
      exact K _ (lv_sub hl [0, 1, 2] rfl)
    · replace h := (if_neg hc13).symm.trans h
      refine z_aload_n C (i := 0) (k := 0) hl dX8_fill_13 rfl rfl ?_
      refine z_getr C 33 1 34 fw_X8_11 sh_33 rfl dX8_fill_14 ?_
      refine z_iload_n C (i := 2) (k := 2) hl dX8_fill_17 rfl rfl ?_
      obtain ⟨hi5, h⟩ := gd h
      have hi5b : x2.toNatClampNeg < 10 := by omega
      refine z_aald C 34 10 (35 + x2.toNatClampNeg) sh_34 hi5 (shBo hi5b) dX8_fill_18 ?_
      refine z_iload_n C (i := 1) (k := 1) hl dX8_fill_19 rfl rfl ?_
      refine z_aload_n C (i := 0) (k := 0) hl dX8_fill_20 rfl rfl ?_
      refine z_geti C 33 4 fw_X8_44 sh_33 rfl dX8_fill_21 ?_
      refine z_iload_n C (i := 2) (k := 2) hl dX8_fill_24 rfl rfl ?_
      obtain ⟨⟨r8, u6⟩, hc7, h⟩ := bnd h
      try dsimp only at h
      refine z_callSN C [.int (u1.1 33 4), .int x2] [.int x1, .ref (ad (35 + x2.toNatClampNeg))] [.int r8, .int x1, .ref (ad (35 + x2.toNatClampNeg))] (m_X11_isIn F _ _ _ _ _ hc7) cw_X11_isIn sw_X11_isIn mn_X8_64 rfl rfl rfl hl.1 (Nat.le_of_ble_eq_true rfl) ⟨Nat.le_of_ble_eq_true rfl, Nat.le_of_ble_eq_true rfl⟩ ⟨Nat.le_refl _, Nat.le_refl _⟩ rfl dX8_fill_25 ?_
      refine z_if_eq C 35 dX8_fill_28 (by decide) (fun hc12 => ?_) (fun hc12 => ?_)
      · replace h := (if_pos hc12).symm.trans h
        refine z_iconst C (-1 : Int32) dX8_fill_35 (by decide) ?_
        obtain ⟨hi10, h⟩ := gd h
        refine z_iast C (35 + x2.toNatClampNeg) 201 (shB hi5b) hi10 dX8_fill_36 ?_
        refine z_iinc C (i := 2) (k := 2) (x2 + (1 : Int32)) [(2, .int (x2 + (1 : Int32))), (0, .ref (ad 33)), (1, .int x1)] hl dX8_fill_37 rfl rfl (by decide) rfl (fun ls hl => ?_)
        refine z_goto C 2 dX8_fill_40 (by decide) ?_
        exact ih _ _ h _ (lv_sub hl [1, 2, 0] rfl)
      · replace h := (if_neg hc12).symm.trans h
        refine z_iconst C (0 : Int32) dX8_fill_31 (by decide) ?_
        refine z_goto C 36 dX8_fill_32 (by decide) ?_
        obtain ⟨hi11, h⟩ := gd h
        refine z_iast C (35 + x2.toNatClampNeg) 201 (shB hi5b) hi11 dX8_fill_36 ?_
        refine z_iinc C (i := 2) (k := 2) (x2 + (1 : Int32)) [(2, .int (x2 + (1 : Int32))), (0, .ref (ad 33)), (1, .int x1)] hl dX8_fill_37 rfl rfl (by decide) rfl (fun ls hl => ?_)
        refine z_goto C 2 dX8_fill_40 (by decide) ?_
        exact ih _ _ h _ (lv_sub hl [1, 2, 0] rfl)
set_option maxRecDepth 20000 in
set_option maxHeartbeats 4000000 in
theorem zl_X8_fill_45 {p : Program} {l : Launch} {e : Env} {s : State} {m : MethodId} {args : Array Value} {below : List Frame} {meth : Method} {c : Code} {D : va_G} {cA : Nat → ClassId} {ad : Nat → Nat} {Q : State → Prop} (C : Cx SH p s m args meth c cX8_fill 6 none RX8 D cA ad (inAd ad)) (F : Nat) (x1 : Int32)  {out : Int32 × St}  (K : ∀ ls : Array Slot, lv_has ls 6 [(0, .ref (ad 33)), (1, .int x1), (2, .int out.1)] → Z SH p l e (rmD 2) s m args below meth c D cA ad (inAd ad) 0 0 Q out.2 123 ls []) : ∀ (k : Nat) (x2 : Int32) (u : St), l_X8_fill_45 F x1 k x2 u = some out → ∀ ls : Array Slot, lv_has ls 6 [(0, .ref (ad 33)), (1, .int x1), (2, .int x2)] → Z SH p l e (rmD 2) s m args below meth c D cA ad (inAd ad) 0 0 Q u 45 ls [] := by
  intro k
  induction k with
  | zero => intro x2 u h; cases h
  | succ k ih =>
    intro x2 u h ls hl
    replace h : b_X8_fill_45 F x1 (l_X8_fill_45 F x1 k) x2 u = some out := h
    unfold b_X8_fill_45 at h
    refine z_iload_n C (i := 2) (k := 2) hl dX8_fill_45 rfl rfl ?_
    refine z_aload_n C (i := 0) (k := 0) hl dX8_fill_46 rfl rfl ?_
    refine z_geti C 33 3 fw_X8_41 sh_33 rfl dX8_fill_47 ?_
    refine z_icmp_ge C 123 dX8_fill_50 (by decide) (fun hc41 => ?_) (fun hc41 => ?_)
    · replace h := (if_pos hc41).symm.trans h
      obtain rfl := Option.some.inj h
      exact K _ (lv_sub hl [0, 1, 2] rfl)
    · replace h := (if_neg hc41).symm.trans h
      refine z_aload_n C (i := 0) (k := 0) hl dX8_fill_53 rfl rfl ?_
      refine z_getr C 33 2 45 fw_X8_16 sh_33 rfl dX8_fill_54 ?_
      refine z_iload_n C (i := 2) (k := 2) hl dX8_fill_57 rfl rfl ?_
      obtain ⟨hi16, h⟩ := gd h
      refine z_iald C 45 20 sh_45 hi16 dX8_fill_58 ?_
      refine z_istore_n C (i := 3) [(3, .int (u.1 45 x2.toNatClampNeg)), (0, .ref (ad 33)), (1, .int x1), (2, .int x2)] hl dX8_fill_59 rfl (by decide) rfl (fun ls hl => ?_)
      refine z_aload_n C (i := 0) (k := 1) hl dX8_fill_60 rfl rfl ?_
      refine z_getr C 33 0 22 fw_X8_20 sh_33 rfl dX8_fill_61 ?_
      refine z_iload_n C (i := 3) (k := 0) hl dX8_fill_64 rfl rfl ?_
      obtain ⟨⟨r19, u17⟩, hc18, h⟩ := bnd h
      try dsimp only at h
      refine z_callV C (ci := 4) [.int (u.1 45 x2.toNatClampNeg)] [] [.int r19] (m_X4_targetOf F _ _ _ _ hc18) cw_X4_targetOf vw_X4_targetOf ml_X8_61 sh_22 rfl rfl rfl rfl hl.1 (Nat.le_of_ble_eq_true rfl) ⟨Nat.le_of_ble_eq_true rfl, Nat.le_of_ble_eq_true rfl⟩ ⟨Nat.le_refl _, Nat.le_refl _⟩ rfl dX8_fill_65 ?_
      refine z_istore C (i := 4) [(4, .int r19), (3, .int (u.1 45 x2.toNatClampNeg)), (0, .ref (ad 33)), (1, .int x1), (2, .int x2)] hl dX8_fill_68 (by decide) rfl (fun ls hl => ?_)
      refine z_aload_n C (i := 0) (k := 2) hl dX8_fill_70 rfl rfl ?_
      refine z_aload_n C (i := 0) (k := 2) hl dX8_fill_71 rfl rfl ?_
      refine z_getr C 33 0 22 fw_X8_20 sh_33 rfl dX8_fill_72 ?_
      refine z_iload_n C (i := 3) (k := 1) hl dX8_fill_75 rfl rfl ?_
      obtain ⟨⟨r23, u21⟩, hc22, h⟩ := bnd h
      try dsimp only at h
      refine z_callV C (ci := 4) [.int (u.1 45 x2.toNatClampNeg)] [.ref (ad 33)] [.int r23, .ref (ad 33)] (m_X4_sourceOf F _ _ _ _ hc22) cw_X4_sourceOf vw_X4_sourceOf ml_X8_68 sh_22 rfl rfl rfl rfl hl.1 (Nat.le_of_ble_eq_true rfl) ⟨Nat.le_of_ble_eq_true rfl, Nat.le_of_ble_eq_true rfl⟩ ⟨Nat.le_refl _, Nat.le_refl _⟩ rfl dX8_fill_76 ?_
      refine z_iload_n C (i := 1) (k := 3) hl dX8_fill_79 rfl rfl ?_
      refine z_aload_n C (i := 0) (k := 2) hl dX8_fill_80 rfl rfl ?_
      refine z_getr C 33 0 22 fw_X8_20 sh_33 rfl dX8_fill_81 ?_
      refine z_iload_n C (i := 3) (k := 1) hl dX8_fill_84 rfl rfl ?_
      obtain ⟨⟨r27, u25⟩, hc26, h⟩ := bnd h
      try dsimp only at h
      refine z_callV C (ci := 4) [.int (u.1 45 x2.toNatClampNeg)] [.int x1, .int r23, .ref (ad 33)] [.int r27, .int x1, .int r23, .ref (ad 33)] (m_X4_tokensOf F _ _ _ _ hc26) cw_X4_tokensOf vw_X4_tokensOf ml_X8_71 sh_22 rfl rfl rfl rfl hl.1 (Nat.le_of_ble_eq_true rfl) ⟨Nat.le_of_ble_eq_true rfl, Nat.le_of_ble_eq_true rfl⟩ ⟨Nat.le_refl _, Nat.le_refl _⟩ rfl dX8_fill_85 ?_
      refine z_isub C dX8_fill_88 ?_
      obtain ⟨⟨r31, u29⟩, hc30, h⟩ := bnd h
      try dsimp only at h
      refine z_callV C (ci := 8) [.int r23, .int (x1 - r27)] [] [.int r31] (m_X8_doneAt F _ _ _ _ _ hc30) cw_X8_doneAt vw_X8_doneAt ml_X8_74 sh_33 rfl rfl rfl rfl hl.1 (Nat.le_of_ble_eq_true rfl) ⟨Nat.le_of_ble_eq_true rfl, Nat.le_of_ble_eq_true rfl⟩ ⟨Nat.le_refl _, Nat.le_refl _⟩ rfl dX8_fill_89 ?_
      refine z_istore C (i := 5) [(5, .int r31), (4, .int r19), (3, .int (u.1 45 x2.toNatClampNeg)), (0, .ref (ad 33)), (1, .int x1), (2, .int x2)] hl dX8_fill_92 (by decide) rfl (fun ls hl => ?_)
      refine z_aload_n C (i := 0) (k := 3) hl dX8_fill_94 rfl rfl ?_
      refine z_getr C 33 1 34 fw_X8_11 sh_33 rfl dX8_fill_95 ?_
      refine z_iload C (i := 4) (k := 1) hl dX8_fill_98 rfl ?_
      obtain ⟨hi33, h⟩ := gd h
      have hi33b : r19.toNatClampNeg < 10 := by omega
      refine z_aald C 34 10 (35 + r19.toNatClampNeg) sh_34 hi33 (shBo hi33b) dX8_fill_100 ?_
      refine z_iload_n C (i := 1) (k := 4) hl dX8_fill_101 rfl rfl ?_
      refine z_aload_n C (i := 0) (k := 3) hl dX8_fill_102 rfl rfl ?_
      refine z_getr C 33 1 34 fw_X8_11 sh_33 rfl dX8_fill_103 ?_
      refine z_iload C (i := 4) (k := 1) hl dX8_fill_106 rfl ?_
      obtain ⟨hi34, h⟩ := gd h
      have hi34b : r19.toNatClampNeg < 10 := by omega
      refine z_aald C 34 10 (35 + r19.toNatClampNeg) sh_34 hi34 (shBo hi34b) dX8_fill_108 ?_
      refine z_iload_n C (i := 1) (k := 4) hl dX8_fill_109 rfl rfl ?_
      obtain ⟨hi35, h⟩ := gd h
      refine z_iald C (35 + r19.toNatClampNeg) 201 (shB hi34b) hi35 dX8_fill_110 ?_
      refine z_iload C (i := 5) (k := 0) hl dX8_fill_111 rfl ?_
      obtain ⟨⟨r38, u36⟩, hc37, h⟩ := bnd h
      try dsimp only at h
      refine z_callS C [.int (u29.1 (35 + r19.toNatClampNeg) x1.toNatClampNeg), .int r31] [.int x1, .ref (ad (35 + r19.toNatClampNeg))] [.int r38, .int x1, .ref (ad (35 + r19.toNatClampNeg))] (m_X8_later F _ _ _ _ _ hc37) cw_X8_later sw_X8_later ml_X8_77 rfl rfl rfl hl.1 (Nat.le_of_ble_eq_true rfl) ⟨Nat.le_of_ble_eq_true rfl, Nat.le_of_ble_eq_true rfl⟩ ⟨Nat.le_refl _, Nat.le_refl _⟩ rfl dX8_fill_113 ?_
      obtain ⟨hi40, h⟩ := gd h
      refine z_iast C (35 + r19.toNatClampNeg) 201 (shB hi33b) hi40 dX8_fill_116 ?_
      refine z_iinc C (i := 2) (k := 5) (x2 + (1 : Int32)) [(2, .int (x2 + (1 : Int32))), (5, .int r31), (4, .int r19), (3, .int (u.1 45 x2.toNatClampNeg)), (0, .ref (ad 33)), (1, .int x1)] hl dX8_fill_117 rfl rfl (by decide) rfl (fun ls hl => ?_)
      refine z_goto C 45 dX8_fill_120 (by decide) ?_
      exact ih _ _ h _ (lv_sub hl [4, 5, 0] rfl)
set_option maxRecDepth 20000 in
set_option maxHeartbeats 4000000 in
theorem m_X8_fill (F : Nat) (x1 : Int32) (u : St) (u' : St)  (h : f_X8_fill F x1 u = some u') : Mt yX8_fill cX8_fill 6 none 2 (fun ad => [.ref (ad 33), .int x1]) u (fun _ => none) u' := by
  refine Mt.of (by decide) (fun ad => Nat.le_of_ble_eq_true rfl) ?_
  intro p l e s m args below meth c D cA ad ls C hl
  have hl : lv_has ls 6 [(0, .ref (ad 33)), (1, .int x1)] := hl
  unfold f_X8_fill at h
  refine z_iconst C (0 : Int32) dX8_fill_0 (by decide) ?_
  refine z_istore_n C (i := 2) [(2, .int (0 : Int32)), (0, .ref (ad 33)), (1, .int x1)] hl dX8_fill_1 rfl (by decide) rfl (fun ls hl => ?_)
  obtain ⟨w14, hw15, h⟩ := bnd h
  refine zl_X8_fill_2 C F x1 (out := w14) (fun ls hl => ?_) F _ _ hw15 _ (lv_sub hl [1, 2, 0] rfl)
  refine z_iconst C (0 : Int32) dX8_fill_43 (by decide) ?_
  refine z_istore_n C (i := 2) [(2, .int (0 : Int32)), (0, .ref (ad 33)), (1, .int x1)] hl dX8_fill_44 rfl (by decide) rfl (fun ls hl => ?_)
  obtain ⟨w42, hw43, h⟩ := bnd h
  refine zl_X8_fill_45 C F x1 (out := w42) (fun ls hl => ?_) F _ _ hw43 _ (lv_sub hl [1, 2, 0] rfl)
  obtain rfl := Option.some.inj h
  exact z_vret C dX8_fill_123
def f_X4_allNodes (F : Nat)  (u : St) : Option (Int32 × St) := some ((((1 : Int32) <<< ((u.1 22 4) &&& 31)) - (1 : Int32)), u)
set_option maxRecDepth 20000 in
set_option maxHeartbeats 4000000 in
theorem m_X4_allNodes (F : Nat)  (u : St) (r : Int32) (u' : St)  (h : f_X4_allNodes F  u = some (r, u')) : Mt yX4_allNodes cX4_allNodes 1 (some .int) 0 (fun ad => [.ref (ad 22)]) u (fun _ => some (.int r)) u' := by
  refine Mt.of (by decide) (fun ad => Nat.le_of_ble_eq_true rfl) ?_
  intro p l e s m args below meth c D cA ad ls C hl
  have hl : lv_has ls 1 [(0, .ref (ad 22))] := hl
  unfold f_X4_allNodes at h
  refine z_iconst C (1 : Int32) dX4_allNodes_0 (by decide) ?_
  refine z_aload_n C (i := 0) (k := 0) hl dX4_allNodes_1 rfl rfl ?_
  refine z_geti C 22 4 fw_X4_24 sh_22 rfl dX4_allNodes_2 ?_
  refine z_ishl C dX4_allNodes_5 ?_
  refine z_iconst C (1 : Int32) dX4_allNodes_6 (by decide) ?_
  refine z_isub C dX4_allNodes_7 ?_
  obtain ⟨rfl, rfl⟩ := r2 h
  exact z_iret C dX4_allNodes_8
def b_X4_freedBy_5 (F : Nat) (x1 : Int32) (x2 : Int32) (rec : Int32 → Int32 → St → Option (Int32 × Int32 × St)) (x3 : Int32) (x4 : Int32) (u : St) : Option (Int32 × Int32 × St) := (if (u.1 22 5) ≤ x4 then some (x3, x4, u) else (if x4 < 0 ∨ 20 ≤ x4.toNatClampNeg then none else (if x2 < (u.1 26 x4.toNatClampNeg) then rec x3 ((x4 + (1 : Int32))) u else (if x4 < 0 ∨ 20 ≤ x4.toNatClampNeg then none else (Option.bind (f_X11_isIn F x1 (u.1 24 x4.toNatClampNeg) u) (fun w6 => (if w6.1 = 0 then (if x4 < 0 ∨ 20 ≤ x4.toNatClampNeg then none else rec ((x3 ||| ((1 : Int32) <<< ((w6.2.1 25 x4.toNatClampNeg) &&& 31)))) ((x4 + (1 : Int32))) w6.2) else rec x3 ((x4 + (1 : Int32))) w6.2)))))))
def l_X4_freedBy_5 (F : Nat) (x1 : Int32) (x2 : Int32) : Nat → Int32 → Int32 → St → Option (Int32 × Int32 × St)
  | 0, _, _, _ => none
  | k + 1, x3, x4, u => b_X4_freedBy_5 F x1 x2 (l_X4_freedBy_5 F x1 x2 k) x3 x4 u
def f_X4_freedBy (F : Nat) (x1 : Int32) (x2 : Int32) (u : St) : Option (Int32 × St) := (Option.bind (l_X4_freedBy_5 F x1 x2 F (0 : Int32) (0 : Int32) u) (fun w11 => (Option.bind (f_X4_allNodes F w11.2.2) (fun w16 => some ((w16.1 &&& (w11.1 ^^^ (-1 : Int32))), w16.2)))))
set_option maxRecDepth 20000 in
set_option maxHeartbeats 4000000 in
theorem zl_X4_freedBy_5 {p : Program} {l : Launch} {e : Env} {s : State} {m : MethodId} {args : Array Value} {below : List Frame} {meth : Method} {c : Code} {D : va_G} {cA : Nat → ClassId} {ad : Nat → Nat} {Q : State → Prop} (C : Cx SH p s m args meth c cX4_freedBy 5 (some .int) RX4 D cA ad (inAd ad)) (F : Nat) (x1 : Int32) (x2 : Int32)  {out : Int32 × Int32 × St}  (K : ∀ ls : Array Slot, lv_has ls 5 [(0, .ref (ad 22)), (1, .int x1), (2, .int x2), (3, .int out.1), (4, .int out.2.1)] → Z SH p l e (rmD 1) s m args below meth c D cA ad (inAd ad) 0 0 Q out.2.2 57 ls []) : ∀ (k : Nat) (x3 : Int32) (x4 : Int32) (u : St), l_X4_freedBy_5 F x1 x2 k x3 x4 u = some out → ∀ ls : Array Slot, lv_has ls 5 [(0, .ref (ad 22)), (1, .int x1), (2, .int x2), (3, .int x3), (4, .int x4)] → Z SH p l e (rmD 1) s m args below meth c D cA ad (inAd ad) 0 0 Q u 5 ls [] := by
  intro k
  induction k with
  | zero => intro x3 x4 u h; cases h
  | succ k ih =>
    intro x3 x4 u h ls hl
    replace h : b_X4_freedBy_5 F x1 x2 (l_X4_freedBy_5 F x1 x2 k) x3 x4 u = some out := h
    unfold b_X4_freedBy_5 at h
    refine z_iload C (i := 4) (k := 4) hl dX4_freedBy_5 rfl ?_
    refine z_aload_n C (i := 0) (k := 0) hl dX4_freedBy_7 rfl rfl ?_
    refine z_geti C 22 5 fw_X4_28 sh_22 rfl dX4_freedBy_8 ?_
    refine z_icmp_ge C 57 dX4_freedBy_11 (by decide) (fun hc10 => ?_) (fun hc10 => ?_)
    · replace h := (if_pos hc10).symm.trans h
      obtain rfl := Option.some.inj h
      exact K _ (lv_sub hl [0, 1, 2, 3, 4] rfl)
    · replace h := (if_neg hc10).symm.trans h
      refine z_aload_n C (i := 0) (k := 0) hl dX4_freedBy_14 rfl rfl ?_
      refine z_getr C 22 3 26 fw_X4_21 sh_22 rfl dX4_freedBy_15 ?_
      refine z_iload C (i := 4) (k := 4) hl dX4_freedBy_18 rfl ?_
      obtain ⟨hi1, h⟩ := gd h
      refine z_iald C 26 20 sh_26 hi1 dX4_freedBy_20 ?_
      refine z_iload_n C (i := 2) (k := 2) hl dX4_freedBy_21 rfl rfl ?_
      refine z_icmp_gt C 51 dX4_freedBy_22 (by decide) (fun hc9 => ?_) (fun hc9 => ?_)
      · replace h := (if_pos hc9).symm.trans h
        refine z_iinc C (i := 4) (k := 4) (x4 + (1 : Int32)) [(4, .int (x4 + (1 : Int32))), (0, .ref (ad 22)), (1, .int x1), (2, .int x2), (3, .int x3)] hl dX4_freedBy_51 rfl rfl (by decide) rfl (fun ls hl => ?_)
        refine z_goto C 5 dX4_freedBy_54 (by decide) ?_
        exact ih _ _ _ h _ (lv_sub hl [1, 2, 3, 4, 0] rfl)
      · replace h := (if_neg hc9).symm.trans h
        refine z_iload_n C (i := 1) (k := 1) hl dX4_freedBy_25 rfl rfl ?_
        refine z_aload_n C (i := 0) (k := 0) hl dX4_freedBy_26 rfl rfl ?_
        refine z_getr C 22 1 24 fw_X4_15 sh_22 rfl dX4_freedBy_27 ?_
        refine z_iload C (i := 4) (k := 4) hl dX4_freedBy_30 rfl ?_
        obtain ⟨hi2, h⟩ := gd h
        refine z_iald C 24 20 sh_24 hi2 dX4_freedBy_32 ?_
        obtain ⟨⟨r5, u3⟩, hc4, h⟩ := bnd h
        try dsimp only at h
        refine z_callSN C [.int x1, .int (u.1 24 x4.toNatClampNeg)] [] [.int r5] (m_X11_isIn F _ _ _ _ _ hc4) cw_X11_isIn sw_X11_isIn mn_X4_50 rfl rfl rfl hl.1 (Nat.le_of_ble_eq_true rfl) ⟨Nat.le_of_ble_eq_true rfl, Nat.le_of_ble_eq_true rfl⟩ ⟨Nat.le_refl _, Nat.le_refl _⟩ rfl dX4_freedBy_33 ?_
        refine z_if_ne C 51 dX4_freedBy_36 (by decide) (fun hc8 => ?_) (fun hc8 => ?_)
        · replace h := (if_neg hc8).symm.trans h
          refine z_iinc C (i := 4) (k := 4) (x4 + (1 : Int32)) [(4, .int (x4 + (1 : Int32))), (0, .ref (ad 22)), (1, .int x1), (2, .int x2), (3, .int x3)] hl dX4_freedBy_51 rfl rfl (by decide) rfl (fun ls hl => ?_)
          refine z_goto C 5 dX4_freedBy_54 (by decide) ?_
          exact ih _ _ _ h _ (lv_sub hl [1, 2, 3, 4, 0] rfl)
        · replace h := (if_pos hc8).symm.trans h
          refine z_iload_n C (i := 3) (k := 3) hl dX4_freedBy_39 rfl rfl ?_
          refine z_iconst C (1 : Int32) dX4_freedBy_40 (by decide) ?_
          refine z_aload_n C (i := 0) (k := 0) hl dX4_freedBy_41 rfl rfl ?_
          refine z_getr C 22 2 25 fw_X4_18 sh_22 rfl dX4_freedBy_42 ?_
          refine z_iload C (i := 4) (k := 4) hl dX4_freedBy_45 rfl ?_
          obtain ⟨hi7, h⟩ := gd h
          refine z_iald C 25 20 sh_25 hi7 dX4_freedBy_47 ?_
          refine z_ishl C dX4_freedBy_48 ?_
          refine z_ior C dX4_freedBy_49 ?_
          refine z_istore_n C (i := 3) [(3, .int (x3 ||| ((1 : Int32) <<< ((u3.1 25 x4.toNatClampNeg) &&& 31)))), (0, .ref (ad 22)), (1, .int x1), (2, .int x2), (4, .int x4)] hl dX4_freedBy_50 rfl (by decide) rfl (fun ls hl => ?_)
          refine z_iinc C (i := 4) (k := 4) (x4 + (1 : Int32)) [(4, .int (x4 + (1 : Int32))), (3, .int (x3 ||| ((1 : Int32) <<< ((u3.1 25 x4.toNatClampNeg) &&& 31)))), (0, .ref (ad 22)), (1, .int x1), (2, .int x2)] hl dX4_freedBy_51 rfl rfl (by decide) rfl (fun ls hl => ?_)
          refine z_goto C 5 dX4_freedBy_54 (by decide) ?_
          exact ih _ _ _ h _ (lv_sub hl [2, 3, 4, 1, 0] rfl)
set_option maxRecDepth 20000 in
set_option maxHeartbeats 4000000 in
theorem m_X4_freedBy (F : Nat) (x1 : Int32) (x2 : Int32) (u : St) (r : Int32) (u' : St)  (h : f_X4_freedBy F x1 x2 u = some (r, u')) : Mt yX4_freedBy cX4_freedBy 5 (some .int) 1 (fun ad => [.ref (ad 22), .int x1, .int x2]) u (fun _ => some (.int r)) u' := by
  refine Mt.of (by decide) (fun ad => Nat.le_of_ble_eq_true rfl) ?_
  intro p l e s m args below meth c D cA ad ls C hl
  have hl : lv_has ls 5 [(0, .ref (ad 22)), (1, .int x1), (2, .int x2)] := hl
  unfold f_X4_freedBy at h
  refine z_iconst C (0 : Int32) dX4_freedBy_0 (by decide) ?_
  refine z_istore_n C (i := 3) [(3, .int (0 : Int32)), (0, .ref (ad 22)), (1, .int x1), (2, .int x2)] hl dX4_freedBy_1 rfl (by decide) rfl (fun ls hl => ?_)
  refine z_iconst C (0 : Int32) dX4_freedBy_2 (by decide) ?_
  refine z_istore C (i := 4) [(4, .int (0 : Int32)), (3, .int (0 : Int32)), (0, .ref (ad 22)), (1, .int x1), (2, .int x2)] hl dX4_freedBy_3 (by decide) rfl (fun ls hl => ?_)
  obtain ⟨w11, hw12, h⟩ := bnd h
  refine zl_X4_freedBy_5 C F x1 x2 (out := w11) (fun ls hl => ?_) F _ _ _ hw12 _ (lv_sub hl [2, 3, 4, 1, 0] rfl)
  refine z_aload_n C (i := 0) (k := 0) hl dX4_freedBy_57 rfl rfl ?_
  obtain ⟨⟨r15, u13⟩, hc14, h⟩ := bnd h
  try dsimp only at h
  refine z_callV C (ci := 4) [] [] [.int r15] (m_X4_allNodes F  _ _ _ hc14) cw_X4_allNodes vw_X4_allNodes ml_X4_46 sh_22 rfl rfl rfl rfl hl.1 (Nat.le_of_ble_eq_true rfl) ⟨Nat.le_of_ble_eq_true rfl, Nat.le_of_ble_eq_true rfl⟩ ⟨Nat.le_refl _, Nat.le_refl _⟩ rfl dX4_freedBy_58 ?_
  refine z_iload_n C (i := 3) (k := 3) hl dX4_freedBy_61 rfl rfl ?_
  refine z_iconst C (-1 : Int32) dX4_freedBy_62 (by decide) ?_
  refine z_ixor C dX4_freedBy_63 ?_
  refine z_iand C dX4_freedBy_64 ?_
  obtain ⟨rfl, rfl⟩ := r2 h
  exact z_iret C dX4_freedBy_65
def f_X4_arcs (F : Nat)  (u : St) : Option (Int32 × St) := some ((u.1 22 5), u)
set_option maxRecDepth 20000 in
set_option maxHeartbeats 4000000 in
theorem m_X4_arcs (F : Nat)  (u : St) (r : Int32) (u' : St)  (h : f_X4_arcs F  u = some (r, u')) : Mt yX4_arcs cX4_arcs 1 (some .int) 0 (fun ad => [.ref (ad 22)]) u (fun _ => some (.int r)) u' := by
  refine Mt.of (by decide) (fun ad => Nat.le_of_ble_eq_true rfl) ?_
  intro p l e s m args below meth c D cA ad ls C hl
  have hl : lv_has ls 1 [(0, .ref (ad 22))] := hl
  unfold f_X4_arcs at h
  refine z_aload_n C (i := 0) (k := 0) hl dX4_arcs_0 rfl rfl ?_
  refine z_geti C 22 5 fw_X4_28 sh_22 rfl dX4_arcs_1 ?_
  obtain ⟨rfl, rfl⟩ := r2 h
  exact z_iret C dX4_arcs_4
def b_X8_appendArcsTo_2 (F : Nat) (x1 : Int32) (rec : Int32 → St → Option (Int32 × St)) (x2 : Int32) (u : St) : Option (Int32 × St) := (Option.bind (f_X4_arcs F u) (fun w4 => (if w4.1 ≤ x2 then some (x2, w4.2) else (Option.bind (f_X4_targetOf F x2 w4.2) (fun w8 => (Option.bind (f_X11_isIn F x1 w8.1 w8.2) (fun w12 => (if w12.1 = 0 then rec ((x2 + (1 : Int32))) w12.2 else (if (20 : Int32) ≤ (w12.2.1 33 3) then rec ((x2 + (1 : Int32))) w12.2 else (if (w12.2.1 33 3) < 0 ∨ 20 ≤ (w12.2.1 33 3).toNatClampNeg then none else rec ((x2 + (1 : Int32))) (wr (wr w12.2 45 (w12.2.1 33 3).toNatClampNeg x2) 33 3 (((wr w12.2 45 (w12.2.1 33 3).toNatClampNeg x2).1 33 3) + (1 : Int32)))))))))))))
def l_X8_appendArcsTo_2 (F : Nat) (x1 : Int32) : Nat → Int32 → St → Option (Int32 × St)
  | 0, _, _ => none
  | k + 1, x2, u => b_X8_appendArcsTo_2 F x1 (l_X8_appendArcsTo_2 F x1 k) x2 u
def f_X8_appendArcsTo (F : Nat) (x1 : Int32) (u : St) : Option (St) := (Option.bind (l_X8_appendArcsTo_2 F x1 F (0 : Int32) u) (fun w17 => some w17.2))
set_option maxRecDepth 20000 in
set_option maxHeartbeats 4000000 in
theorem zl_X8_appendArcsTo_2 {p : Program} {l : Launch} {e : Env} {s : State} {m : MethodId} {args : Array Value} {below : List Frame} {meth : Method} {c : Code} {D : va_G} {cA : Nat → ClassId} {ad : Nat → Nat} {Q : State → Prop} (C : Cx SH p s m args meth c cX8_appendArcsTo 3 none RX8 D cA ad (inAd ad)) (F : Nat) (x1 : Int32)  {out : Int32 × St}  (K : ∀ ls : Array Slot, lv_has ls 3 [(0, .ref (ad 33)), (1, .int x1), (2, .int out.1)] → Z SH p l e (rmD 1) s m args below meth c D cA ad (inAd ad) 0 0 Q out.2 63 ls []) : ∀ (k : Nat) (x2 : Int32) (u : St), l_X8_appendArcsTo_2 F x1 k x2 u = some out → ∀ ls : Array Slot, lv_has ls 3 [(0, .ref (ad 33)), (1, .int x1), (2, .int x2)] → Z SH p l e (rmD 1) s m args below meth c D cA ad (inAd ad) 0 0 Q u 2 ls [] := by
  intro k
  induction k with
  | zero => intro x2 u h; cases h
  | succ k ih =>
    intro x2 u h ls hl
    replace h : b_X8_appendArcsTo_2 F x1 (l_X8_appendArcsTo_2 F x1 k) x2 u = some out := h
    unfold b_X8_appendArcsTo_2 at h
    refine z_iload_n C (i := 2) (k := 2) hl dX8_appendArcsTo_2 rfl rfl ?_
    refine z_aload_n C (i := 0) (k := 0) hl dX8_appendArcsTo_3 rfl rfl ?_
    refine z_getr C 33 0 22 fw_X8_20 sh_33 rfl dX8_appendArcsTo_4 ?_
    obtain ⟨⟨r3, u1⟩, hc2, h⟩ := bnd h
    try dsimp only at h
    refine z_callV C (ci := 4) [] [.int x2] [.int r3, .int x2] (m_X4_arcs F  _ _ _ hc2) cw_X4_arcs vw_X4_arcs ml_X8_58 sh_22 rfl rfl rfl rfl hl.1 (Nat.le_of_ble_eq_true rfl) ⟨Nat.le_of_ble_eq_true rfl, Nat.le_of_ble_eq_true rfl⟩ ⟨Nat.le_refl _, Nat.le_refl _⟩ rfl dX8_appendArcsTo_7 ?_
    refine z_icmp_ge C 63 dX8_appendArcsTo_10 (by decide) (fun hc16 => ?_) (fun hc16 => ?_)
    · replace h := (if_pos hc16).symm.trans h
      obtain rfl := Option.some.inj h
      exact K _ (lv_sub hl [0, 1, 2] rfl)
    · replace h := (if_neg hc16).symm.trans h
      refine z_iload_n C (i := 1) (k := 1) hl dX8_appendArcsTo_13 rfl rfl ?_
      refine z_aload_n C (i := 0) (k := 0) hl dX8_appendArcsTo_14 rfl rfl ?_
      refine z_getr C 33 0 22 fw_X8_20 sh_33 rfl dX8_appendArcsTo_15 ?_
      refine z_iload_n C (i := 2) (k := 2) hl dX8_appendArcsTo_18 rfl rfl ?_
      obtain ⟨⟨r7, u5⟩, hc6, h⟩ := bnd h
      try dsimp only at h
      refine z_callV C (ci := 4) [.int x2] [.int x1] [.int r7, .int x1] (m_X4_targetOf F _ _ _ _ hc6) cw_X4_targetOf vw_X4_targetOf ml_X8_61 sh_22 rfl rfl rfl rfl hl.1 (Nat.le_of_ble_eq_true rfl) ⟨Nat.le_of_ble_eq_true rfl, Nat.le_of_ble_eq_true rfl⟩ ⟨Nat.le_refl _, Nat.le_refl _⟩ rfl dX8_appendArcsTo_19 ?_
      obtain ⟨⟨r11, u9⟩, hc10, h⟩ := bnd h
      try dsimp only at h
      refine z_callSN C [.int x1, .int r7] [] [.int r11] (m_X11_isIn F _ _ _ _ _ hc10) cw_X11_isIn sw_X11_isIn mn_X8_64 rfl rfl rfl hl.1 (Nat.le_of_ble_eq_true rfl) ⟨Nat.le_of_ble_eq_true rfl, Nat.le_of_ble_eq_true rfl⟩ ⟨Nat.le_refl _, Nat.le_refl _⟩ rfl dX8_appendArcsTo_22 ?_
      refine z_if_eq C 57 dX8_appendArcsTo_25 (by decide) (fun hc15 => ?_) (fun hc15 => ?_)
      · replace h := (if_pos hc15).symm.trans h
        refine z_iinc C (i := 2) (k := 2) (x2 + (1 : Int32)) [(2, .int (x2 + (1 : Int32))), (0, .ref (ad 33)), (1, .int x1)] hl dX8_appendArcsTo_57 rfl rfl (by decide) rfl (fun ls hl => ?_)
        refine z_goto C 2 dX8_appendArcsTo_60 (by decide) ?_
        exact ih _ _ h _ (lv_sub hl [1, 2, 0] rfl)
      · replace h := (if_neg hc15).symm.trans h
        refine z_aload_n C (i := 0) (k := 0) hl dX8_appendArcsTo_28 rfl rfl ?_
        refine z_geti C 33 3 fw_X8_41 sh_33 rfl dX8_appendArcsTo_29 ?_
        refine z_bipush C (20 : Int32) dX8_appendArcsTo_32 (by decide) ?_
        refine z_icmp_ge C 57 dX8_appendArcsTo_34 (by decide) (fun hc14 => ?_) (fun hc14 => ?_)
        · replace h := (if_pos hc14).symm.trans h
          refine z_iinc C (i := 2) (k := 2) (x2 + (1 : Int32)) [(2, .int (x2 + (1 : Int32))), (0, .ref (ad 33)), (1, .int x1)] hl dX8_appendArcsTo_57 rfl rfl (by decide) rfl (fun ls hl => ?_)
          refine z_goto C 2 dX8_appendArcsTo_60 (by decide) ?_
          exact ih _ _ h _ (lv_sub hl [1, 2, 0] rfl)
        · replace h := (if_neg hc14).symm.trans h
          refine z_aload_n C (i := 0) (k := 0) hl dX8_appendArcsTo_37 rfl rfl ?_
          refine z_getr C 33 2 45 fw_X8_16 sh_33 rfl dX8_appendArcsTo_38 ?_
          refine z_aload_n C (i := 0) (k := 0) hl dX8_appendArcsTo_41 rfl rfl ?_
          refine z_geti C 33 3 fw_X8_41 sh_33 rfl dX8_appendArcsTo_42 ?_
          refine z_iload_n C (i := 2) (k := 2) hl dX8_appendArcsTo_45 rfl rfl ?_
          obtain ⟨hi13, h⟩ := gd h
          refine z_iast C 45 20 sh_45 hi13 dX8_appendArcsTo_46 ?_
          refine z_aload_n C (i := 0) (k := 0) hl dX8_appendArcsTo_47 rfl rfl ?_
          refine z_dup C dX8_appendArcsTo_48 rfl ?_
          refine z_geti C 33 3 fw_X8_41 sh_33 rfl dX8_appendArcsTo_49 ?_
          refine z_iconst C (1 : Int32) dX8_appendArcsTo_52 (by decide) ?_
          refine z_iadd C dX8_appendArcsTo_53 ?_
          refine z_puti C 33 3 pw_X8_41 sh_33 rfl dX8_appendArcsTo_54 ?_
          refine z_iinc C (i := 2) (k := 2) (x2 + (1 : Int32)) [(2, .int (x2 + (1 : Int32))), (0, .ref (ad 33)), (1, .int x1)] hl dX8_appendArcsTo_57 rfl rfl (by decide) rfl (fun ls hl => ?_)
          refine z_goto C 2 dX8_appendArcsTo_60 (by decide) ?_
          exact ih _ _ h _ (lv_sub hl [1, 2, 0] rfl)
set_option maxRecDepth 20000 in
set_option maxHeartbeats 4000000 in
theorem m_X8_appendArcsTo (F : Nat) (x1 : Int32) (u : St) (u' : St)  (h : f_X8_appendArcsTo F x1 u = some u') : Mt yX8_appendArcsTo cX8_appendArcsTo 3 none 1 (fun ad => [.ref (ad 33), .int x1]) u (fun _ => none) u' := by
  refine Mt.of (by decide) (fun ad => Nat.le_of_ble_eq_true rfl) ?_
  intro p l e s m args below meth c D cA ad ls C hl
  have hl : lv_has ls 3 [(0, .ref (ad 33)), (1, .int x1)] := hl
  unfold f_X8_appendArcsTo at h
  refine z_iconst C (0 : Int32) dX8_appendArcsTo_0 (by decide) ?_
  refine z_istore_n C (i := 2) [(2, .int (0 : Int32)), (0, .ref (ad 33)), (1, .int x1)] hl dX8_appendArcsTo_1 rfl (by decide) rfl (fun ls hl => ?_)
  obtain ⟨w17, hw18, h⟩ := bnd h
  refine zl_X8_appendArcsTo_2 C F x1 (out := w17) (fun ls hl => ?_) F _ _ hw18 _ (lv_sub hl [1, 2, 0] rfl)
  obtain rfl := Option.some.inj h
  exact z_vret C dX8_appendArcsTo_63
def b_X8_orderArcs_12 (F : Nat)  (rec : Int32 → St → Option (Int32 × St)) (x1 : Int32) (u : St) : Option (Int32 × St) := (Option.bind (f_X4_nodes F u) (fun w4 => (if w4.1 ≤ x1 then some (x1, w4.2) else (Option.bind (f_X4_freedBy F (w4.2.1 33 4) (0 : Int32) w4.2) (fun w8 => (Option.bind (f_X8_appendArcsTo F (w8.1 &&& ((w8.2.1 33 4) ^^^ (-1 : Int32))) w8.2) (fun u9 => rec ((x1 + (1 : Int32))) (wr u9 33 4 w8.1))))))))
def l_X8_orderArcs_12 (F : Nat)  : Nat → Int32 → St → Option (Int32 × St)
  | 0, _, _ => none
  | k + 1, x1, u => b_X8_orderArcs_12 F  (l_X8_orderArcs_12 F  k) x1 u
def f_X8_orderArcs (F : Nat)  (u : St) : Option (St) := (Option.bind (l_X8_orderArcs_12 F  F (0 : Int32) (wr (wr u 33 3 (0 : Int32)) 33 4 (0 : Int32))) (fun w12 => some w12.2))
set_option maxRecDepth 20000 in
set_option maxHeartbeats 4000000 in
theorem zl_X8_orderArcs_12 {p : Program} {l : Launch} {e : Env} {s : State} {m : MethodId} {args : Array Value} {below : List Frame} {meth : Method} {c : Code} {D : va_G} {cA : Nat → ClassId} {ad : Nat → Nat} {Q : State → Prop} (C : Cx SH p s m args meth c cX8_orderArcs 3 none RX8 D cA ad (inAd ad)) (F : Nat)   {out : Int32 × St}  (K : ∀ ls : Array Slot, lv_has ls 3 [(0, .ref (ad 33)), (1, .int out.1)] → Z SH p l e (rmD 2) s m args below meth c D cA ad (inAd ad) 0 0 Q out.2 59 ls []) : ∀ (k : Nat) (x1 : Int32) (u : St), l_X8_orderArcs_12 F  k x1 u = some out → ∀ ls : Array Slot, lv_has ls 3 [(0, .ref (ad 33)), (1, .int x1)] → Z SH p l e (rmD 2) s m args below meth c D cA ad (inAd ad) 0 0 Q u 12 ls [] := by
  intro k
  induction k with
  | zero => intro x1 u h; cases h
  | succ k ih =>
    intro x1 u h ls hl
    replace h : b_X8_orderArcs_12 F  (l_X8_orderArcs_12 F  k) x1 u = some out := h
    unfold b_X8_orderArcs_12 at h
    refine z_iload_n C (i := 1) (k := 1) hl dX8_orderArcs_12 rfl rfl ?_
    refine z_aload_n C (i := 0) (k := 0) hl dX8_orderArcs_13 rfl rfl ?_
    refine z_getr C 33 0 22 fw_X8_20 sh_33 rfl dX8_orderArcs_14 ?_
    obtain ⟨⟨r3, u1⟩, hc2, h⟩ := bnd h
    try dsimp only at h
    refine z_callV C (ci := 4) [] [.int x1] [.int r3, .int x1] (m_X4_nodes F  _ _ _ hc2) cw_X4_nodes vw_X4_nodes ml_X8_47 sh_22 rfl rfl rfl rfl hl.1 (Nat.le_of_ble_eq_true rfl) ⟨Nat.le_of_ble_eq_true rfl, Nat.le_of_ble_eq_true rfl⟩ ⟨Nat.le_refl _, Nat.le_refl _⟩ rfl dX8_orderArcs_17 ?_
    refine z_icmp_ge C 59 dX8_orderArcs_20 (by decide) (fun hc11 => ?_) (fun hc11 => ?_)
    · replace h := (if_pos hc11).symm.trans h
      obtain rfl := Option.some.inj h
      exact K _ (lv_sub hl [0, 1] rfl)
    · replace h := (if_neg hc11).symm.trans h
      refine z_aload_n C (i := 0) (k := 0) hl dX8_orderArcs_23 rfl rfl ?_
      refine z_getr C 33 0 22 fw_X8_20 sh_33 rfl dX8_orderArcs_24 ?_
      refine z_aload_n C (i := 0) (k := 0) hl dX8_orderArcs_27 rfl rfl ?_
      refine z_geti C 33 4 fw_X8_44 sh_33 rfl dX8_orderArcs_28 ?_
      refine z_iconst C (0 : Int32) dX8_orderArcs_31 (by decide) ?_
      obtain ⟨⟨r7, u5⟩, hc6, h⟩ := bnd h
      try dsimp only at h
      refine z_callV C (ci := 4) [.int (u1.1 33 4), .int (0 : Int32)] [] [.int r7] (m_X4_freedBy F _ _ _ _ _ hc6) cw_X4_freedBy vw_X4_freedBy ml_X8_51 sh_22 rfl rfl rfl rfl hl.1 (Nat.le_of_ble_eq_true rfl) ⟨Nat.le_of_ble_eq_true rfl, Nat.le_of_ble_eq_true rfl⟩ ⟨Nat.le_refl _, Nat.le_refl _⟩ rfl dX8_orderArcs_32 ?_
      refine z_istore_n C (i := 2) [(2, .int r7), (0, .ref (ad 33)), (1, .int x1)] hl dX8_orderArcs_35 rfl (by decide) rfl (fun ls hl => ?_)
      refine z_aload_n C (i := 0) (k := 1) hl dX8_orderArcs_36 rfl rfl ?_
      refine z_iload_n C (i := 2) (k := 0) hl dX8_orderArcs_37 rfl rfl ?_
      refine z_aload_n C (i := 0) (k := 1) hl dX8_orderArcs_38 rfl rfl ?_
      refine z_geti C 33 4 fw_X8_44 sh_33 rfl dX8_orderArcs_39 ?_
      refine z_iconst C (-1 : Int32) dX8_orderArcs_42 (by decide) ?_
      refine z_ixor C dX8_orderArcs_43 ?_
      refine z_iand C dX8_orderArcs_44 ?_
      obtain ⟨u9, hc10, h⟩ := bnd h
      refine z_callV C (ci := 8) [.int (r7 &&& ((u5.1 33 4) ^^^ (-1 : Int32)))] [] [] (m_X8_appendArcsTo F _ _ _ hc10) cw_X8_appendArcsTo vw_X8_appendArcsTo ml_X8_55 sh_33 rfl rfl rfl rfl hl.1 (Nat.le_of_ble_eq_true rfl) ⟨Nat.le_of_ble_eq_true rfl, Nat.le_of_ble_eq_true rfl⟩ ⟨Nat.le_refl _, Nat.le_refl _⟩ rfl dX8_orderArcs_45 ?_
      refine z_aload_n C (i := 0) (k := 1) hl dX8_orderArcs_48 rfl rfl ?_
      refine z_iload_n C (i := 2) (k := 0) hl dX8_orderArcs_49 rfl rfl ?_
      refine z_puti C 33 4 pw_X8_44 sh_33 rfl dX8_orderArcs_50 ?_
      refine z_iinc C (i := 1) (k := 2) (x1 + (1 : Int32)) [(1, .int (x1 + (1 : Int32))), (2, .int r7), (0, .ref (ad 33))] hl dX8_orderArcs_53 rfl rfl (by decide) rfl (fun ls hl => ?_)
      refine z_goto C 12 dX8_orderArcs_56 (by decide) ?_
      exact ih _ _ h _ (lv_sub hl [2, 0] rfl)
set_option maxRecDepth 20000 in
set_option maxHeartbeats 4000000 in
theorem m_X8_orderArcs (F : Nat)  (u : St) (u' : St)  (h : f_X8_orderArcs F  u = some u') : Mt yX8_orderArcs cX8_orderArcs 3 none 2 (fun ad => [.ref (ad 33)]) u (fun _ => none) u' := by
  refine Mt.of (by decide) (fun ad => Nat.le_of_ble_eq_true rfl) ?_
  intro p l e s m args below meth c D cA ad ls C hl
  have hl : lv_has ls 3 [(0, .ref (ad 33))] := hl
  unfold f_X8_orderArcs at h
  refine z_aload_n C (i := 0) (k := 0) hl dX8_orderArcs_0 rfl rfl ?_
  refine z_iconst C (0 : Int32) dX8_orderArcs_1 (by decide) ?_
  refine z_puti C 33 3 pw_X8_41 sh_33 rfl dX8_orderArcs_2 ?_
  refine z_aload_n C (i := 0) (k := 0) hl dX8_orderArcs_5 rfl rfl ?_
  refine z_iconst C (0 : Int32) dX8_orderArcs_6 (by decide) ?_
  refine z_puti C 33 4 pw_X8_44 sh_33 rfl dX8_orderArcs_7 ?_
  refine z_iconst C (0 : Int32) dX8_orderArcs_10 (by decide) ?_
  refine z_istore_n C (i := 1) [(1, .int (0 : Int32)), (0, .ref (ad 33))] hl dX8_orderArcs_11 rfl (by decide) rfl (fun ls hl => ?_)
  obtain ⟨w12, hw13, h⟩ := bnd h
  refine zl_X8_orderArcs_12 C F (out := w12) (fun ls hl => ?_) F _ _ hw13 _ (lv_sub hl [1, 0] rfl)
  obtain rfl := Option.some.inj h
  exact z_vret C dX8_orderArcs_59
def b_X8_fillTo_18 (F : Nat) (x1 : Int32) (rec : Int32 → St → Option (Int32 × St)) (x2 : Int32) (u : St) : Option (Int32 × St) := (if x1 < x2 then some (x2, u) else (if (200 : Int32) < x2 then some (x2, u) else (Option.bind (f_X8_fill F x2 u) (fun u1 => rec ((x2 + (1 : Int32))) (wr u1 33 5 x2)))))
def l_X8_fillTo_18 (F : Nat) (x1 : Int32) : Nat → Int32 → St → Option (Int32 × St)
  | 0, _, _ => none
  | k + 1, x2, u => b_X8_fillTo_18 F x1 (l_X8_fillTo_18 F x1 k) x2 u
def f_X8_fillTo (F : Nat) (x1 : Int32) (u : St) : Option (St) := (if (u.1 33 5) = 0 then (Option.bind (f_X8_orderArcs F u) (fun u7 => (Option.bind (l_X8_fillTo_18 F x1 F ((u7.1 33 5) + (1 : Int32)) u7) (fun w9 => some w9.2)))) else (Option.bind (l_X8_fillTo_18 F x1 F ((u.1 33 5) + (1 : Int32)) u) (fun w5 => some w5.2)))
set_option maxRecDepth 20000 in
set_option maxHeartbeats 4000000 in
theorem zl_X8_fillTo_18 {p : Program} {l : Launch} {e : Env} {s : State} {m : MethodId} {args : Array Value} {below : List Frame} {meth : Method} {c : Code} {D : va_G} {cA : Nat → ClassId} {ad : Nat → Nat} {Q : State → Prop} (C : Cx SH p s m args meth c cX8_fillTo 3 none RX8 D cA ad (inAd ad)) (F : Nat) (x1 : Int32)  {out : Int32 × St}  (K : ∀ ls : Array Slot, lv_has ls 3 [(0, .ref (ad 33)), (1, .int x1), (2, .int out.1)] → Z SH p l e (rmD 3) s m args below meth c D cA ad (inAd ad) 0 0 Q out.2 46 ls []) : ∀ (k : Nat) (x2 : Int32) (u : St), l_X8_fillTo_18 F x1 k x2 u = some out → ∀ ls : Array Slot, lv_has ls 3 [(0, .ref (ad 33)), (1, .int x1), (2, .int x2)] → Z SH p l e (rmD 3) s m args below meth c D cA ad (inAd ad) 0 0 Q u 18 ls [] := by
  intro k
  induction k with
  | zero => intro x2 u h; cases h
  | succ k ih =>
    intro x2 u h ls hl
    replace h : b_X8_fillTo_18 F x1 (l_X8_fillTo_18 F x1 k) x2 u = some out := h
    unfold b_X8_fillTo_18 at h
    refine z_iload_n C (i := 2) (k := 2) hl dX8_fillTo_18 rfl rfl ?_
    refine z_iload_n C (i := 1) (k := 1) hl dX8_fillTo_19 rfl rfl ?_
    refine z_icmp_gt C 46 dX8_fillTo_20 (by decide) (fun hc4 => ?_) (fun hc4 => ?_)
    · replace h := (if_pos hc4).symm.trans h
      obtain rfl := Option.some.inj h
      exact K _ (lv_sub hl [0, 1, 2] rfl)
    · replace h := (if_neg hc4).symm.trans h
      refine z_iload_n C (i := 2) (k := 2) hl dX8_fillTo_23 rfl rfl ?_
      refine z_sipush C (200 : Int32) dX8_fillTo_24 (by decide) ?_
      refine z_icmp_gt C 46 dX8_fillTo_27 (by decide) (fun hc3 => ?_) (fun hc3 => ?_)
      · replace h := (if_pos hc3).symm.trans h
        obtain rfl := Option.some.inj h
        exact K _ (lv_sub hl [0, 1, 2] rfl)
      · replace h := (if_neg hc3).symm.trans h
        refine z_aload_n C (i := 0) (k := 0) hl dX8_fillTo_30 rfl rfl ?_
        refine z_iload_n C (i := 2) (k := 2) hl dX8_fillTo_31 rfl rfl ?_
        obtain ⟨u1, hc2, h⟩ := bnd h
        refine z_callV C (ci := 8) [.int x2] [] [] (m_X8_fill F _ _ _ hc2) cw_X8_fill vw_X8_fill ml_X8_31 sh_33 rfl rfl rfl rfl hl.1 (Nat.le_of_ble_eq_true rfl) ⟨Nat.le_of_ble_eq_true rfl, Nat.le_of_ble_eq_true rfl⟩ ⟨Nat.le_refl _, Nat.le_refl _⟩ rfl dX8_fillTo_32 ?_
        refine z_aload_n C (i := 0) (k := 0) hl dX8_fillTo_35 rfl rfl ?_
        refine z_iload_n C (i := 2) (k := 2) hl dX8_fillTo_36 rfl rfl ?_
        refine z_puti C 33 5 pw_X8_24 sh_33 rfl dX8_fillTo_37 ?_
        refine z_iinc C (i := 2) (k := 2) (x2 + (1 : Int32)) [(2, .int (x2 + (1 : Int32))), (0, .ref (ad 33)), (1, .int x1)] hl dX8_fillTo_40 rfl rfl (by decide) rfl (fun ls hl => ?_)
        refine z_goto C 18 dX8_fillTo_43 (by decide) ?_
        exact ih _ _ h _ (lv_sub hl [1, 2, 0] rfl)
set_option maxRecDepth 20000 in
set_option maxHeartbeats 4000000 in
theorem m_X8_fillTo (F : Nat) (x1 : Int32) (u : St) (u' : St)  (h : f_X8_fillTo F x1 u = some u') : Mt yX8_fillTo cX8_fillTo 3 none 3 (fun ad => [.ref (ad 33), .int x1]) u (fun _ => none) u' := by
  refine Mt.of (by decide) (fun ad => Nat.le_of_ble_eq_true rfl) ?_
  intro p l e s m args below meth c D cA ad ls C hl
  have hl : lv_has ls 3 [(0, .ref (ad 33)), (1, .int x1)] := hl
  unfold f_X8_fillTo at h
  refine z_aload_n C (i := 0) (k := 0) hl dX8_fillTo_0 rfl rfl ?_
  refine z_geti C 33 5 fw_X8_24 sh_33 rfl dX8_fillTo_1 ?_
  refine z_if_ne C 11 dX8_fillTo_4 (by decide) (fun hc11 => ?_) (fun hc11 => ?_)
  · replace h := (if_neg hc11).symm.trans h
    refine z_aload_n C (i := 0) (k := 0) hl dX8_fillTo_11 rfl rfl ?_
    refine z_geti C 33 5 fw_X8_24 sh_33 rfl dX8_fillTo_12 ?_
    refine z_iconst C (1 : Int32) dX8_fillTo_15 (by decide) ?_
    refine z_iadd C dX8_fillTo_16 ?_
    refine z_istore_n C (i := 2) [(2, .int ((u.1 33 5) + (1 : Int32))), (0, .ref (ad 33)), (1, .int x1)] hl dX8_fillTo_17 rfl (by decide) rfl (fun ls hl => ?_)
    obtain ⟨w5, hw6, h⟩ := bnd h
    refine zl_X8_fillTo_18 C F x1 (out := w5) (fun ls hl => ?_) F _ _ hw6 _ (lv_sub hl [1, 2, 0] rfl)
    obtain rfl := Option.some.inj h
    exact z_vret C dX8_fillTo_46
  · replace h := (if_pos hc11).symm.trans h
    refine z_aload_n C (i := 0) (k := 0) hl dX8_fillTo_7 rfl rfl ?_
    obtain ⟨u7, hc8, h⟩ := bnd h
    refine z_callV C (ci := 8) [] [] [] (m_X8_orderArcs F  _ _ hc8) cw_X8_orderArcs vw_X8_orderArcs ml_X8_28 sh_33 rfl rfl rfl rfl hl.1 (Nat.le_of_ble_eq_true rfl) ⟨Nat.le_of_ble_eq_true rfl, Nat.le_of_ble_eq_true rfl⟩ ⟨Nat.le_refl _, Nat.le_refl _⟩ rfl dX8_fillTo_8 ?_
    refine z_aload_n C (i := 0) (k := 0) hl dX8_fillTo_11 rfl rfl ?_
    refine z_geti C 33 5 fw_X8_24 sh_33 rfl dX8_fillTo_12 ?_
    refine z_iconst C (1 : Int32) dX8_fillTo_15 (by decide) ?_
    refine z_iadd C dX8_fillTo_16 ?_
    refine z_istore_n C (i := 2) [(2, .int ((u7.1 33 5) + (1 : Int32))), (0, .ref (ad 33)), (1, .int x1)] hl dX8_fillTo_17 rfl (by decide) rfl (fun ls hl => ?_)
    obtain ⟨w9, hw10, h⟩ := bnd h
    refine zl_X8_fillTo_18 C F x1 (out := w9) (fun ls hl => ?_) F _ _ hw10 _ (lv_sub hl [1, 2, 0] rfl)
    obtain rfl := Option.some.inj h
    exact z_vret C dX8_fillTo_46
def f_X0_isPair (F : Nat) (x1 : Int32) (x2 : Int32) (u : St) : Option (Int32 × St) := (if x1 < 0 ∨ 12 ≤ x1.toNatClampNeg then none else (Option.bind (f_X11_isIn F (u.1 6 x1.toNatClampNeg) x2 u) (fun w5 => (if w5.1 = 0 ∨ w5.1 = 1 then some (w5.1, w5.2) else none))))
set_option maxRecDepth 20000 in
set_option maxHeartbeats 4000000 in
theorem m_X0_isPair (F : Nat) (x1 : Int32) (x2 : Int32) (u : St) (r : Int32) (u' : St)  (h : f_X0_isPair F x1 x2 u = some (r, u')) : Mt yX0_isPair cX0_isPair 3 (some .boolean) 1 (fun ad => [.ref (ad 4), .int x1, .int x2]) u (fun _ => some (.int r)) u' := by
  refine Mt.of (by decide) (fun ad => Nat.le_of_ble_eq_true rfl) ?_
  intro p l e s m args below meth c D cA ad ls C hl
  have hl : lv_has ls 3 [(0, .ref (ad 4)), (1, .int x1), (2, .int x2)] := hl
  unfold f_X0_isPair at h
  refine z_aload_n C (i := 0) (k := 0) hl dX0_isPair_0 rfl rfl ?_
  refine z_getr C 4 1 6 fw_X0_15 sh_4 rfl dX0_isPair_1 ?_
  refine z_iload_n C (i := 1) (k := 1) hl dX0_isPair_4 rfl rfl ?_
  obtain ⟨hi1, h⟩ := gd h
  refine z_iald C 6 12 sh_6 hi1 dX0_isPair_5 ?_
  refine z_iload_n C (i := 2) (k := 2) hl dX0_isPair_6 rfl rfl ?_
  obtain ⟨⟨r4, u2⟩, hc3, h⟩ := bnd h
  try dsimp only at h
  refine z_callSN C [.int (u.1 6 x1.toNatClampNeg), .int x2] [] [.int r4] (m_X11_isIn F _ _ _ _ _ hc3) cw_X11_isIn sw_X11_isIn mn_X0_51 rfl rfl rfl hl.1 (Nat.le_of_ble_eq_true rfl) ⟨Nat.le_of_ble_eq_true rfl, Nat.le_of_ble_eq_true rfl⟩ ⟨Nat.le_refl _, Nat.le_refl _⟩ rfl dX0_isPair_7 ?_
  obtain ⟨hz6, h⟩ := gp h
  obtain ⟨rfl, rfl⟩ := r2 h
  exact z_zret hz6 C dX0_isPair_10
end
