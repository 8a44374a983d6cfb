-- ===== PART A: goes FIRST, ahead of the names: the tables' words, and 'selects' of the private methods out of them =====
/-- a private method of a class that the tables say can be made, by its rows of tables_1 -/
def lw_okq (q : MethodName × Nat) : Prop := (q.1.cls ≠ "java/lang/invoke/MethodHandle" ∧ q.1.cls ≠ "java/lang/invoke/VarHandle") ∧ Cond.instantiable q.1.cls q.2 ∈ tables_1 ∧ Cond.privateMethod q.1 ∈ tables_1 ∧ Cond.instanceMethod q.1 ∈ tables_1
theorem lw_p0 : lw_okq (⟨"ReadAge", "passes", "(I)Z"⟩, 6) := ⟨⟨by decide +kernel, by decide +kernel⟩, List.mem_of_getElem? (i := 14) (by decide +kernel), List.mem_of_getElem? (i := 353) (by decide +kernel), List.mem_of_getElem? (i := 354) (by decide +kernel)⟩
theorem lw_p1 : lw_okq (⟨"ReadAge", "weightsOf", "(II)I"⟩, 6) := ⟨⟨by decide +kernel, by decide +kernel⟩, List.mem_of_getElem? (i := 14) (by decide +kernel), List.mem_of_getElem? (i := 432) (by decide +kernel), List.mem_of_getElem? (i := 433) (by decide +kernel)⟩
theorem lw_p2 : lw_okq (⟨"ReadAge$Odds", "endsAt", "(IIIJ)J"⟩, 12) := ⟨⟨by decide +kernel, by decide +kernel⟩, List.mem_of_getElem? (i := 85) (by decide +kernel), List.mem_of_getElem? (i := 458) (by decide +kernel), List.mem_of_getElem? (i := 459) (by decide +kernel)⟩
theorem lw_p3 : lw_okq (⟨"ReadAge$Odds", "prepare", "(I)V"⟩, 12) := ⟨⟨by decide +kernel, by decide +kernel⟩, List.mem_of_getElem? (i := 85) (by decide +kernel), List.mem_of_getElem? (i := 509) (by decide +kernel), List.mem_of_getElem? (i := 510) (by decide +kernel)⟩
theorem lw_p4 : lw_okq (⟨"ReadAge$Odds", "prepareEnd", "(II)V"⟩, 12) := ⟨⟨by decide +kernel, by decide +kernel⟩, List.mem_of_getElem? (i := 85) (by decide +kernel), List.mem_of_getElem? (i := 517) (by decide +kernel), List.mem_of_getElem? (i := 518) (by decide +kernel)⟩
theorem lw_p5 : lw_okq (⟨"ReadAge$Odds", "staleAnswers", "(II)J"⟩, 12) := ⟨⟨by decide +kernel, by decide +kernel⟩, List.mem_of_getElem? (i := 85) (by decide +kernel), List.mem_of_getElem? (i := 524) (by decide +kernel), List.mem_of_getElem? (i := 525) (by decide +kernel)⟩
theorem lw_p6 : lw_okq (⟨"ReadAge$Odds", "staleReads", "(II)J"⟩, 12) := ⟨⟨by decide +kernel, by decide +kernel⟩, List.mem_of_getElem? (i := 85) (by decide +kernel), List.mem_of_getElem? (i := 532) (by decide +kernel), List.mem_of_getElem? (i := 533) (by decide +kernel)⟩
theorem lw_p7 : lw_okq (⟨"ReadAge$Copies", "forget", "(I)V"⟩, 5) := ⟨⟨by decide +kernel, by decide +kernel⟩, List.mem_of_getElem? (i := 134) (by decide +kernel), List.mem_of_getElem? (i := 564) (by decide +kernel), List.mem_of_getElem? (i := 565) (by decide +kernel)⟩
theorem lw_p8 : lw_okq (⟨"ReadAge", "runLack", "(Z)I"⟩, 6) := ⟨⟨by decide +kernel, by decide +kernel⟩, List.mem_of_getElem? (i := 14) (by decide +kernel), List.mem_of_getElem? (i := 576) (by decide +kernel), List.mem_of_getElem? (i := 577) (by decide +kernel)⟩
theorem lw_p9 : lw_okq (⟨"ReadAge", "actLack", "(IZI)I"⟩, 6) := ⟨⟨by decide +kernel, by decide +kernel⟩, List.mem_of_getElem? (i := 14) (by decide +kernel), List.mem_of_getElem? (i := 588) (by decide +kernel), List.mem_of_getElem? (i := 589) (by decide +kernel)⟩
theorem lw_p10 : lw_okq (⟨"ReadAge$Post", "link", "(I)V"⟩, 9) := ⟨⟨by decide +kernel, by decide +kernel⟩, List.mem_of_getElem? (i := 164) (by decide +kernel), List.mem_of_getElem? (i := 605) (by decide +kernel), List.mem_of_getElem? (i := 606) (by decide +kernel)⟩
theorem lw_p11 : lw_okq (⟨"ReadAge$Run", "come", "(I)V"⟩, 12) := ⟨⟨by decide +kernel, by decide +kernel⟩, List.mem_of_getElem? (i := 128) (by decide +kernel), List.mem_of_getElem? (i := 624) (by decide +kernel), List.mem_of_getElem? (i := 625) (by decide +kernel)⟩
theorem lw_p12 : lw_okq (⟨"ReadAge$Copies", "leastUp", "()I"⟩, 5) := ⟨⟨by decide +kernel, by decide +kernel⟩, List.mem_of_getElem? (i := 134) (by decide +kernel), List.mem_of_getElem? (i := 639) (by decide +kernel), List.mem_of_getElem? (i := 640) (by decide +kernel)⟩
theorem lw_p13 : lw_okq (⟨"ReadAge$Writes", "has", "(I)Z"⟩, 3) := ⟨⟨by decide +kernel, by decide +kernel⟩, List.mem_of_getElem? (i := 203) (by decide +kernel), List.mem_of_getElem? (i := 647) (by decide +kernel), List.mem_of_getElem? (i := 648) (by decide +kernel)⟩
theorem lw_p14 : lw_okq (⟨"ReadAge$Reads", "has", "(I)Z"⟩, 9) := ⟨⟨by decide +kernel, by decide +kernel⟩, List.mem_of_getElem? (i := 222) (by decide +kernel), List.mem_of_getElem? (i := 655) (by decide +kernel), List.mem_of_getElem? (i := 656) (by decide +kernel)⟩
theorem lw_p15 : lw_okq (⟨"ReadAge$Run", "finish", "(I)V"⟩, 12) := ⟨⟨by decide +kernel, by decide +kernel⟩, List.mem_of_getElem? (i := 128) (by decide +kernel), List.mem_of_getElem? (i := 660) (by decide +kernel), List.mem_of_getElem? (i := 661) (by decide +kernel)⟩
def lw_privs_1 : List (MethodName × Nat) := [(⟨"ReadAge", "passes", "(I)Z"⟩, 6), (⟨"ReadAge", "weightsOf", "(II)I"⟩, 6), (⟨"ReadAge$Odds", "endsAt", "(IIIJ)J"⟩, 12), (⟨"ReadAge$Odds", "prepare", "(I)V"⟩, 12), (⟨"ReadAge$Odds", "prepareEnd", "(II)V"⟩, 12), (⟨"ReadAge$Odds", "staleAnswers", "(II)J"⟩, 12), (⟨"ReadAge$Odds", "staleReads", "(II)J"⟩, 12), (⟨"ReadAge$Copies", "forget", "(I)V"⟩, 5), (⟨"ReadAge", "runLack", "(Z)I"⟩, 6), (⟨"ReadAge", "actLack", "(IZI)I"⟩, 6), (⟨"ReadAge$Post", "link", "(I)V"⟩, 9), (⟨"ReadAge$Run", "come", "(I)V"⟩, 12), (⟨"ReadAge$Copies", "leastUp", "()I"⟩, 5), (⟨"ReadAge$Writes", "has", "(I)Z"⟩, 3), (⟨"ReadAge$Reads", "has", "(I)Z"⟩, 9), (⟨"ReadAge$Run", "finish", "(I)V"⟩, 12)]
theorem lw_r1 : ∀ q ∈ lw_privs_1, lw_okq q := List.forall_mem_cons.mpr ⟨lw_p0, List.forall_mem_cons.mpr ⟨lw_p1, List.forall_mem_cons.mpr ⟨lw_p2, List.forall_mem_cons.mpr ⟨lw_p3, List.forall_mem_cons.mpr ⟨lw_p4, List.forall_mem_cons.mpr ⟨lw_p5, List.forall_mem_cons.mpr ⟨lw_p6, List.forall_mem_cons.mpr ⟨lw_p7, List.forall_mem_cons.mpr ⟨lw_p8, List.forall_mem_cons.mpr ⟨lw_p9, List.forall_mem_cons.mpr ⟨lw_p10, List.forall_mem_cons.mpr ⟨lw_p11, List.forall_mem_cons.mpr ⟨lw_p12, List.forall_mem_cons.mpr ⟨lw_p13, List.forall_mem_cons.mpr ⟨lw_p14, List.forall_mem_cons.mpr ⟨lw_p15, fun _ h => absurd h List.not_mem_nil⟩⟩⟩⟩⟩⟩⟩⟩⟩⟩⟩⟩⟩⟩⟩⟩
theorem lw_p16 : lw_okq (⟨"ReadAge$Run", "mend", "(I)V"⟩, 12) := ⟨⟨by decide +kernel, by decide +kernel⟩, List.mem_of_getElem? (i := 128) (by decide +kernel), List.mem_of_getElem? (i := 673) (by decide +kernel), List.mem_of_getElem? (i := 674) (by decide +kernel)⟩
theorem lw_p17 : lw_okq (⟨"ReadAge", "copyLack", "(IZ)I"⟩, 6) := ⟨⟨by decide +kernel, by decide +kernel⟩, List.mem_of_getElem? (i := 14) (by decide +kernel), List.mem_of_getElem? (i := 698) (by decide +kernel), List.mem_of_getElem? (i := 699) (by decide +kernel)⟩
theorem lw_p18 : lw_okq (⟨"ReadAge", "isCopy", "(I)Z"⟩, 6) := ⟨⟨by decide +kernel, by decide +kernel⟩, List.mem_of_getElem? (i := 14) (by decide +kernel), List.mem_of_getElem? (i := 702) (by decide +kernel), List.mem_of_getElem? (i := 703) (by decide +kernel)⟩
theorem lw_p19 : lw_okq (⟨"ReadAge$Copies", "give", "(II)I"⟩, 5) := ⟨⟨by decide +kernel, by decide +kernel⟩, List.mem_of_getElem? (i := 134) (by decide +kernel), List.mem_of_getElem? (i := 724) (by decide +kernel), List.mem_of_getElem? (i := 725) (by decide +kernel)⟩
theorem lw_p20 : lw_okq (⟨"ReadAgeModel", "is", "(I)Z"⟩, 50) := ⟨⟨by decide +kernel, by decide +kernel⟩, List.mem_of_getElem? (i := 783) (by decide +kernel), List.mem_of_getElem? (i := 781) (by decide +kernel), List.mem_of_getElem? (i := 782) (by decide +kernel)⟩
theorem lw_p21 : lw_okq (⟨"ReadAgeModel", "wrong", "(II)I"⟩, 50) := ⟨⟨by decide +kernel, by decide +kernel⟩, List.mem_of_getElem? (i := 783) (by decide +kernel), List.mem_of_getElem? (i := 790) (by decide +kernel), List.mem_of_getElem? (i := 791) (by decide +kernel)⟩
theorem lw_p22 : lw_okq (⟨"ReadAgeModel", "refuse", "(I)I"⟩, 50) := ⟨⟨by decide +kernel, by decide +kernel⟩, List.mem_of_getElem? (i := 783) (by decide +kernel), List.mem_of_getElem? (i := 987) (by decide +kernel), List.mem_of_getElem? (i := 988) (by decide +kernel)⟩
theorem lw_p23 : lw_okq (⟨"ReadAgeModel", "both", "(III)I"⟩, 50) := ⟨⟨by decide +kernel, by decide +kernel⟩, List.mem_of_getElem? (i := 783) (by decide +kernel), List.mem_of_getElem? (i := 991) (by decide +kernel), List.mem_of_getElem? (i := 992) (by decide +kernel)⟩
theorem lw_p24 : lw_okq (⟨"ReadAgeModel", "tells", "(JJ)I"⟩, 50) := ⟨⟨by decide +kernel, by decide +kernel⟩, List.mem_of_getElem? (i := 783) (by decide +kernel), List.mem_of_getElem? (i := 1004) (by decide +kernel), List.mem_of_getElem? (i := 1005) (by decide +kernel)⟩
theorem lw_p25 : lw_okq (⟨"ReadAgeModel", "allWays", "(II)J"⟩, 50) := ⟨⟨by decide +kernel, by decide +kernel⟩, List.mem_of_getElem? (i := 783) (by decide +kernel), List.mem_of_getElem? (i := 1015) (by decide +kernel), List.mem_of_getElem? (i := 1016) (by decide +kernel)⟩
theorem lw_p26 : lw_okq (⟨"ReadAgeModel", "oldWays", "(IIIIII)J"⟩, 50) := ⟨⟨by decide +kernel, by decide +kernel⟩, List.mem_of_getElem? (i := 783) (by decide +kernel), List.mem_of_getElem? (i := 1020) (by decide +kernel), List.mem_of_getElem? (i := 1021) (by decide +kernel)⟩
theorem lw_p27 : lw_okq (⟨"ReadAgeModel", "look", "(IIII)V"⟩, 50) := ⟨⟨by decide +kernel, by decide +kernel⟩, List.mem_of_getElem? (i := 783) (by decide +kernel), List.mem_of_getElem? (i := 1024) (by decide +kernel), List.mem_of_getElem? (i := 1025) (by decide +kernel)⟩
theorem lw_p28 : lw_okq (⟨"ReadAgeModel", "above", "(I)J"⟩, 50) := ⟨⟨by decide +kernel, by decide +kernel⟩, List.mem_of_getElem? (i := 783) (by decide +kernel), List.mem_of_getElem? (i := 1028) (by decide +kernel), List.mem_of_getElem? (i := 1029) (by decide +kernel)⟩
theorem lw_p29 : lw_okq (⟨"ReadAgeModel", "ways", "(IIII)J"⟩, 50) := ⟨⟨by decide +kernel, by decide +kernel⟩, List.mem_of_getElem? (i := 783) (by decide +kernel), List.mem_of_getElem? (i := 1032) (by decide +kernel), List.mem_of_getElem? (i := 1033) (by decide +kernel)⟩
theorem lw_p30 : lw_okq (⟨"ReadAgeModel", "spread", "(IIIII)V"⟩, 50) := ⟨⟨by decide +kernel, by decide +kernel⟩, List.mem_of_getElem? (i := 783) (by decide +kernel), List.mem_of_getElem? (i := 1036) (by decide +kernel), List.mem_of_getElem? (i := 1037) (by decide +kernel)⟩
theorem lw_p31 : lw_okq (⟨"ReadAgeModel", "wrongDelays", "(I)I"⟩, 50) := ⟨⟨by decide +kernel, by decide +kernel⟩, List.mem_of_getElem? (i := 783) (by decide +kernel), List.mem_of_getElem? (i := 1070) (by decide +kernel), List.mem_of_getElem? (i := 1071) (by decide +kernel)⟩
def lw_privs_2 : List (MethodName × Nat) := [(⟨"ReadAge$Run", "mend", "(I)V"⟩, 12), (⟨"ReadAge", "copyLack", "(IZ)I"⟩, 6), (⟨"ReadAge", "isCopy", "(I)Z"⟩, 6), (⟨"ReadAge$Copies", "give", "(II)I"⟩, 5), (⟨"ReadAgeModel", "is", "(I)Z"⟩, 50), (⟨"ReadAgeModel", "wrong", "(II)I"⟩, 50), (⟨"ReadAgeModel", "refuse", "(I)I"⟩, 50), (⟨"ReadAgeModel", "both", "(III)I"⟩, 50), (⟨"ReadAgeModel", "tells", "(JJ)I"⟩, 50), (⟨"ReadAgeModel", "allWays", "(II)J"⟩, 50), (⟨"ReadAgeModel", "oldWays", "(IIIIII)J"⟩, 50), (⟨"ReadAgeModel", "look", "(IIII)V"⟩, 50), (⟨"ReadAgeModel", "above", "(I)J"⟩, 50), (⟨"ReadAgeModel", "ways", "(IIII)J"⟩, 50), (⟨"ReadAgeModel", "spread", "(IIIII)V"⟩, 50), (⟨"ReadAgeModel", "wrongDelays", "(I)I"⟩, 50)]
theorem lw_r2 : ∀ q ∈ lw_privs_2, lw_okq q := List.forall_mem_cons.mpr ⟨lw_p16, List.forall_mem_cons.mpr ⟨lw_p17, List.forall_mem_cons.mpr ⟨lw_p18, List.forall_mem_cons.mpr ⟨lw_p19, List.forall_mem_cons.mpr ⟨lw_p20, List.forall_mem_cons.mpr ⟨lw_p21, List.forall_mem_cons.mpr ⟨lw_p22, List.forall_mem_cons.mpr ⟨lw_p23, List.forall_mem_cons.mpr ⟨lw_p24, List.forall_mem_cons.mpr ⟨lw_p25, List.forall_mem_cons.mpr ⟨lw_p26, List.forall_mem_cons.mpr ⟨lw_p27, List.forall_mem_cons.mpr ⟨lw_p28, List.forall_mem_cons.mpr ⟨lw_p29, List.forall_mem_cons.mpr ⟨lw_p30, List.forall_mem_cons.mpr ⟨lw_p31, fun _ h => absurd h List.not_mem_nil⟩⟩⟩⟩⟩⟩⟩⟩⟩⟩⟩⟩⟩⟩⟩⟩
theorem lw_p32 : lw_okq (⟨"ReadAgeModel", "delay", "(II)I"⟩, 50) := ⟨⟨by decide +kernel, by decide +kernel⟩, List.mem_of_getElem? (i := 783) (by decide +kernel), List.mem_of_getElem? (i := 1075) (by decide +kernel), List.mem_of_getElem? (i := 1076) (by decide +kernel)⟩
theorem lw_p33 : lw_okq (⟨"ReadAgeModel", "send", "(IIIIII)V"⟩, 50) := ⟨⟨by decide +kernel, by decide +kernel⟩, List.mem_of_getElem? (i := 783) (by decide +kernel), List.mem_of_getElem? (i := 1079) (by decide +kernel), List.mem_of_getElem? (i := 1080) (by decide +kernel)⟩
theorem lw_p34 : lw_okq (⟨"ReadAgeModel", "workOff", "()V"⟩, 50) := ⟨⟨by decide +kernel, by decide +kernel⟩, List.mem_of_getElem? (i := 783) (by decide +kernel), List.mem_of_getElem? (i := 1083) (by decide +kernel), List.mem_of_getElem? (i := 1084) (by decide +kernel)⟩
theorem lw_p35 : lw_okq (⟨"ReadAgeModel", "due", "()I"⟩, 50) := ⟨⟨by decide +kernel, by decide +kernel⟩, List.mem_of_getElem? (i := 783) (by decide +kernel), List.mem_of_getElem? (i := 1087) (by decide +kernel), List.mem_of_getElem? (i := 1088) (by decide +kernel)⟩
theorem lw_p36 : lw_okq (⟨"ReadAgeModel", "comes", "(IIIII)V"⟩, 50) := ⟨⟨by decide +kernel, by decide +kernel⟩, List.mem_of_getElem? (i := 783) (by decide +kernel), List.mem_of_getElem? (i := 1091) (by decide +kernel), List.mem_of_getElem? (i := 1092) (by decide +kernel)⟩
theorem lw_p37 : lw_okq (⟨"ReadAgeModel", "hand", "(II)V"⟩, 50) := ⟨⟨by decide +kernel, by decide +kernel⟩, List.mem_of_getElem? (i := 783) (by decide +kernel), List.mem_of_getElem? (i := 1096) (by decide +kernel), List.mem_of_getElem? (i := 1097) (by decide +kernel)⟩
theorem lw_p38 : lw_okq (⟨"ReadAgeModel", "answer", "(III)V"⟩, 50) := ⟨⟨by decide +kernel, by decide +kernel⟩, List.mem_of_getElem? (i := 783) (by decide +kernel), List.mem_of_getElem? (i := 1100) (by decide +kernel), List.mem_of_getElem? (i := 1101) (by decide +kernel)⟩
theorem lw_p39 : lw_okq (⟨"ReadAgeModel", "wrongCopy", "(I)I"⟩, 50) := ⟨⟨by decide +kernel, by decide +kernel⟩, List.mem_of_getElem? (i := 783) (by decide +kernel), List.mem_of_getElem? (i := 1116) (by decide +kernel), List.mem_of_getElem? (i := 1117) (by decide +kernel)⟩
theorem lw_p40 : lw_okq (⟨"ReadAgeModel", "gives", "(II)I"⟩, 50) := ⟨⟨by decide +kernel, by decide +kernel⟩, List.mem_of_getElem? (i := 783) (by decide +kernel), List.mem_of_getElem? (i := 1124) (by decide +kernel), List.mem_of_getElem? (i := 1125) (by decide +kernel)⟩
theorem lw_p41 : lw_okq (⟨"ReadAgeModel", "missed", "(I)I"⟩, 50) := ⟨⟨by decide +kernel, by decide +kernel⟩, List.mem_of_getElem? (i := 783) (by decide +kernel), List.mem_of_getElem? (i := 1144) (by decide +kernel), List.mem_of_getElem? (i := 1145) (by decide +kernel)⟩
def lw_privs_3 : List (MethodName × Nat) := [(⟨"ReadAgeModel", "delay", "(II)I"⟩, 50), (⟨"ReadAgeModel", "send", "(IIIIII)V"⟩, 50), (⟨"ReadAgeModel", "workOff", "()V"⟩, 50), (⟨"ReadAgeModel", "due", "()I"⟩, 50), (⟨"ReadAgeModel", "comes", "(IIIII)V"⟩, 50), (⟨"ReadAgeModel", "hand", "(II)V"⟩, 50), (⟨"ReadAgeModel", "answer", "(III)V"⟩, 50), (⟨"ReadAgeModel", "wrongCopy", "(I)I"⟩, 50), (⟨"ReadAgeModel", "gives", "(II)I"⟩, 50), (⟨"ReadAgeModel", "missed", "(I)I"⟩, 50)]
theorem lw_r3 : ∀ q ∈ lw_privs_3, lw_okq q := List.forall_mem_cons.mpr ⟨lw_p32, List.forall_mem_cons.mpr ⟨lw_p33, List.forall_mem_cons.mpr ⟨lw_p34, List.forall_mem_cons.mpr ⟨lw_p35, List.forall_mem_cons.mpr ⟨lw_p36, List.forall_mem_cons.mpr ⟨lw_p37, List.forall_mem_cons.mpr ⟨lw_p38, List.forall_mem_cons.mpr ⟨lw_p39, List.forall_mem_cons.mpr ⟨lw_p40, List.forall_mem_cons.mpr ⟨lw_p41, fun _ h => absurd h List.not_mem_nil⟩⟩⟩⟩⟩⟩⟩⟩⟩⟩
def lw_privs : List (MethodName × Nat) := lw_privs_1 ++ (lw_privs_2 ++ (lw_privs_3))
def lw_tbl : List Cond := k2_sels lw_privs ++ tables_1
theorem lw_privs_ok : ∀ q ∈ lw_privs, lw_okq q := by
  show ∀ q ∈ lw_privs_1 ++ (lw_privs_2 ++ (lw_privs_3)), lw_okq q
  exact List.forall_mem_append.mpr ⟨lw_r1, List.forall_mem_append.mpr ⟨lw_r2, lw_r3⟩⟩

def RX0 : String := "ReadAge$Chances"
def TX0 : u_T := fun k => match k with
  | 0 => ("ReadAge$Chances", "weights", "[J", true)
  | 1 => ("ReadAge$Chances", "sums", "[J", true)
  | 2 => ("ReadAge$Chances", "n", "I", false)
  | 3 => ("ReadAge$Chances", "w", "I", false)
  | 4 => ("ReadAge$Chances", "r", "I", false)
  | 5 => ("ReadAge$Chances", "gap", "I", false)
  | 6 => ("ReadAge$Chances", "top", "J", false)
  | _ => ("ReadAge$Chances", "bottom", "J", false)
def tyX0 : Nat → FieldType := fun k => match k with
  | 0 => .array .long
  | 1 => .array .long
  | 2 => .int
  | 3 => .int
  | 4 => .int
  | 5 => .int
  | 6 => .long
  | _ => .long
abbrev wsX00 : List Cond := u_ws RX0 TX0 8
theorem nmX0 : ∀ a, a < 8 → ∀ b, b < 8 → a ≠ b → (TX0 a).2.1 ≠ (TX0 b).2.1 := by decide +kernel
theorem tyX0_ok : ∀ k, k < 8 → parseFieldDescriptor (TX0 k).2.2.1 = some (tyX0 k) := by decide +kernel
abbrev cX0_init : ByteArray := prog_2_method_1_code
def yX0_init : MethodName := ⟨RX0, "<init>", "()V"⟩
abbrev cX0_weigh : ByteArray := prog_2_method_2_code
def yX0_weigh : MethodName := ⟨RX0, "weigh", "(IIJ)V"⟩
abbrev cX0_weight : ByteArray := prog_2_method_3_code
def yX0_weight : MethodName := ⟨RX0, "weight", "(II)J"⟩
abbrev cX0_sum : ByteArray := prog_2_method_4_code
def yX0_sum : MethodName := ⟨RX0, "sum", "(I)J"⟩
abbrev cX0_above : ByteArray := prog_2_method_5_code
def yX0_above : MethodName := ⟨RX0, "above", "(I)J"⟩
abbrev cX0_spread : ByteArray := prog_2_method_6_code
def yX0_spread : MethodName := ⟨RX0, "spread", "(II[J)V"⟩
abbrev cX0_ofCopy : ByteArray := prog_2_method_7_code
def yX0_ofCopy : MethodName := ⟨RX0, "ofCopy", "(I)J"⟩
abbrev cX0_greatness : ByteArray := prog_2_method_8_code
def yX0_greatness : MethodName := ⟨RX0, "greatness", "(II)I"⟩
abbrev cX0_tellFraction : ByteArray := prog_2_method_9_code
def yX0_tellFraction : MethodName := ⟨RX0, "tellFraction", "(JJ)I"⟩
abbrev cX0_commonDivisor : ByteArray := prog_2_method_10_code
def yX0_commonDivisor : MethodName := ⟨RX0, "commonDivisor", "(JJ)J"⟩
abbrev cX0_power : ByteArray := prog_2_method_11_code
def yX0_power : MethodName := ⟨RX0, "power", "(JI)J"⟩
def RX1 : String := "ReadAge$Copies"
def TX1 : u_T := fun k => match k with
  | 0 => ("ReadAge$Copies", "versions", "[I", true)
  | 1 => ("ReadAge$Copies", "ups", "[Z", true)
  | 2 => ("ReadAge$Copies", "handed", "[I", true)
  | 3 => ("ReadAge$Copies", "many", "I", false)
  | _ => ("ReadAge$Copies", "lost", "I", false)
def tyX1 : Nat → FieldType := fun k => match k with
  | 0 => .array .int
  | 1 => .array .boolean
  | 2 => .array .int
  | 3 => .int
  | _ => .int
abbrev wsX10 : List Cond := u_ws RX1 TX1 5
theorem nmX1 : ∀ a, a < 5 → ∀ b, b < 5 → a ≠ b → (TX1 a).2.1 ≠ (TX1 b).2.1 := by decide +kernel
theorem tyX1_ok : ∀ k, k < 5 → parseFieldDescriptor (TX1 k).2.2.1 = some (tyX1 k) := by decide +kernel
abbrev cX1_init : ByteArray := prog_3_method_1_code
def yX1_init : MethodName := ⟨RX1, "<init>", "()V"⟩
abbrev cX1_renew : ByteArray := prog_3_method_2_code
def yX1_renew : MethodName := ⟨RX1, "renew", "(I)V"⟩
abbrev cX1_has : ByteArray := prog_3_method_3_code
def yX1_has : MethodName := ⟨RX1, "has", "(I)Z"⟩
abbrev cX1_forget : ByteArray := prog_3_method_4_code
def yX1_forget : MethodName := ⟨RX1, "forget", "(I)V"⟩
abbrev cX1_take : ByteArray := prog_3_method_5_code
def yX1_take : MethodName := ⟨RX1, "take", "(II)Z"⟩
abbrev cX1_leastUp : ByteArray := prog_3_method_6_code
def yX1_leastUp : MethodName := ⟨RX1, "leastUp", "()I"⟩
abbrev cX1_keptBy : ByteArray := prog_3_method_7_code
def yX1_keptBy : MethodName := ⟨RX1, "keptBy", "(I)I"⟩
abbrev cX1_fall : ByteArray := prog_3_method_8_code
def yX1_fall : MethodName := ⟨RX1, "fall", "(IZ)V"⟩
abbrev cX1_rise : ByteArray := prog_3_method_9_code
def yX1_rise : MethodName := ⟨RX1, "rise", "(I)I"⟩
abbrev cX1_give : ByteArray := prog_3_method_10_code
def yX1_give : MethodName := ⟨RX1, "give", "(II)I"⟩
abbrev cX1_level : ByteArray := prog_3_method_11_code
def yX1_level : MethodName := ⟨RX1, "level", "(II)I"⟩
def RX2 : String := "ReadAge$Odds"
def TX2 : u_T := fun k => match k with
  | 0 => ("ReadAge$Odds", "chances", "LReadAge$Chances;", true)
  | 1 => ("ReadAge$Odds", "ends", "[J", true)
  | 2 => ("ReadAge$Odds", "answers", "[J", true)
  | 3 => ("ReadAge$Odds", "late", "[J", true)
  | 4 => ("ReadAge$Odds", "stale", "[J", true)
  | 5 => ("ReadAge$Odds", "sooner", "[J", true)
  | 6 => ("ReadAge$Odds", "now", "[J", true)
  | 7 => ("ReadAge$Odds", "others", "[J", true)
  | 8 => ("ReadAge$Odds", "later", "[J", true)
  | 9 => ("ReadAge$Odds", "behind", "I", false)
  | 10 => ("ReadAge$Odds", "aged", "I", false)
  | _ => ("ReadAge$Odds", "ready", "I", false)
def tyX2 : Nat → FieldType := fun k => match k with
  | 0 => .object "ReadAge$Chances"
  | 1 => .array .long
  | 2 => .array .long
  | 3 => .array .long
  | 4 => .array .long
  | 5 => .array .long
  | 6 => .array .long
  | 7 => .array .long
  | 8 => .array .long
  | 9 => .int
  | 10 => .int
  | _ => .int
abbrev wsX20 : List Cond := u_ws RX2 TX2 12
theorem nmX2 : ∀ a, a < 12 → ∀ b, b < 12 → a ≠ b → (TX2 a).2.1 ≠ (TX2 b).2.1 := by decide +kernel
theorem tyX2_ok : ∀ k, k < 12 → parseFieldDescriptor (TX2 k).2.2.1 = some (tyX2 k) := by decide +kernel
abbrev cX2_init : ByteArray := prog_4_method_1_code
def yX2_init : MethodName := ⟨RX2, "<init>", "(LReadAge$Chances;)V"⟩
abbrev cX2_tellTakes : ByteArray := prog_4_method_2_code
def yX2_tellTakes : MethodName := ⟨RX2, "tellTakes", "(ZI)I"⟩
abbrev cX2_ask : ByteArray := prog_4_method_3_code
def yX2_ask : MethodName := ⟨RX2, "ask", "(II)V"⟩
abbrev cX2_tellAge : ByteArray := prog_4_method_4_code
def yX2_tellAge : MethodName := ⟨RX2, "tellAge", "()I"⟩
abbrev cX2_prepare : ByteArray := prog_4_method_5_code
def yX2_prepare : MethodName := ⟨RX2, "prepare", "(I)V"⟩
abbrev cX2_prepareEnd : ByteArray := prog_4_method_6_code
def yX2_prepareEnd : MethodName := ⟨RX2, "prepareEnd", "(II)V"⟩
abbrev cX2_staleAnswers : ByteArray := prog_4_method_7_code
def yX2_staleAnswers : MethodName := ⟨RX2, "staleAnswers", "(II)J"⟩
abbrev cX2_staleReads : ByteArray := prog_4_method_8_code
def yX2_staleReads : MethodName := ⟨RX2, "staleReads", "(II)J"⟩
abbrev cX2_waysAbove : ByteArray := prog_4_method_9_code
def yX2_waysAbove : MethodName := ⟨RX2, "waysAbove", "(III)J"⟩
abbrev cX2_cheapest : ByteArray := prog_4_method_10_code
def yX2_cheapest : MethodName := ⟨RX2, "cheapest", "(IIIIII)I"⟩
abbrev cX2_isAtMost : ByteArray := prog_4_method_11_code
def yX2_isAtMost : MethodName := ⟨RX2, "isAtMost", "(JJJJ)Z"⟩
abbrev cX2_endsAt : ByteArray := prog_4_method_12_code
def yX2_endsAt : MethodName := ⟨RX2, "endsAt", "(IIIJ)J"⟩
abbrev cX2_atLeast : ByteArray := prog_4_method_13_code
def yX2_atLeast : MethodName := ⟨RX2, "atLeast", "(IIJJ)J"⟩
abbrev cX2_picks : ByteArray := prog_4_method_14_code
def yX2_picks : MethodName := ⟨RX2, "picks", "(II)J"⟩
abbrev cX2_place : ByteArray := prog_4_method_15_code
def yX2_place : MethodName := ⟨RX2, "place", "(II)I"⟩
abbrev cX2_fillPowers : ByteArray := prog_4_method_16_code
def yX2_fillPowers : MethodName := ⟨RX2, "fillPowers", "(J[J)V"⟩
def RX3 : String := "ReadAge$Post"
def TX3 : u_T := fun k => match k with
  | 0 => ("ReadAge$Post", "ticks", "[I", true)
  | 1 => ("ReadAge$Post", "nexts", "[I", true)
  | 2 => ("ReadAge$Post", "numbers", "[I", true)
  | 3 => ("ReadAge$Post", "kinds", "[I", true)
  | 4 => ("ReadAge$Post", "copies", "[I", true)
  | 5 => ("ReadAge$Post", "extras", "[I", true)
  | 6 => ("ReadAge$Post", "sent", "I", false)
  | 7 => ("ReadAge$Post", "head", "I", false)
  | _ => ("ReadAge$Post", "underWay", "I", false)
def tyX3 : Nat → FieldType := fun k => match k with
  | 0 => .array .int
  | 1 => .array .int
  | 2 => .array .int
  | 3 => .array .int
  | 4 => .array .int
  | 5 => .array .int
  | 6 => .int
  | 7 => .int
  | _ => .int
abbrev wsX30 : List Cond := u_ws RX3 TX3 9
theorem nmX3 : ∀ a, a < 9 → ∀ b, b < 9 → a ≠ b → (TX3 a).2.1 ≠ (TX3 b).2.1 := by decide +kernel
theorem tyX3_ok : ∀ k, k < 9 → parseFieldDescriptor (TX3 k).2.2.1 = some (tyX3 k) := by decide +kernel
abbrev cX3_init : ByteArray := prog_5_method_1_code
def yX3_init : MethodName := ⟨RX3, "<init>", "()V"⟩
abbrev cX3_renew : ByteArray := prog_5_method_2_code
def yX3_renew : MethodName := ⟨RX3, "renew", "()V"⟩
abbrev cX3_send : ByteArray := prog_5_method_3_code
def yX3_send : MethodName := ⟨RX3, "send", "(IIIII)V"⟩
abbrev cX3_link : ByteArray := prog_5_method_4_code
def yX3_link : MethodName := ⟨RX3, "link", "(I)V"⟩
abbrev cX3_isLetter : ByteArray := prog_5_method_5_code
def yX3_isLetter : MethodName := ⟨RX3, "isLetter", "(I)Z"⟩
abbrev cX3_takeDue : ByteArray := prog_5_method_6_code
def yX3_takeDue : MethodName := ⟨RX3, "takeDue", "(I)I"⟩
abbrev cX3_tickOf : ByteArray := prog_5_method_7_code
def yX3_tickOf : MethodName := ⟨RX3, "tickOf", "(I)I"⟩
def RX4 : String := "ReadAge$Reads"
def TX4 : u_T := fun k => match k with
  | 0 => ("ReadAge$Reads", "readers", "[I", true)
  | 1 => ("ReadAge$Reads", "begunAt", "[I", true)
  | 2 => ("ReadAge$Reads", "greatest", "[I", true)
  | 3 => ("ReadAge$Reads", "doneAt", "[I", true)
  | 4 => ("ReadAge$Reads", "told", "[I", true)
  | 5 => ("ReadAge$Reads", "missed", "[I", true)
  | 6 => ("ReadAge$Reads", "answers", "[I", true)
  | 7 => ("ReadAge$Reads", "heard", "[I", true)
  | _ => ("ReadAge$Reads", "many", "I", false)
def tyX4 : Nat → FieldType := fun k => match k with
  | 0 => .array .int
  | 1 => .array .int
  | 2 => .array .int
  | 3 => .array .int
  | 4 => .array .int
  | 5 => .array .int
  | 6 => .array .int
  | 7 => .array .int
  | _ => .int
abbrev wsX40 : List Cond := u_ws RX4 TX4 9
theorem nmX4 : ∀ a, a < 9 → ∀ b, b < 9 → a ≠ b → (TX4 a).2.1 ≠ (TX4 b).2.1 := by decide +kernel
theorem tyX4_ok : ∀ k, k < 9 → parseFieldDescriptor (TX4 k).2.2.1 = some (tyX4 k) := by decide +kernel
abbrev cX4_init : ByteArray := prog_6_method_1_code
def yX4_init : MethodName := ⟨RX4, "<init>", "()V"⟩
abbrev cX4_add : ByteArray := prog_6_method_2_code
def yX4_add : MethodName := ⟨RX4, "add", "(II)I"⟩
abbrev cX4_isDone : ByteArray := prog_6_method_3_code
def yX4_isDone : MethodName := ⟨RX4, "isDone", "(I)Z"⟩
abbrev cX4_has : ByteArray := prog_6_method_4_code
def yX4_has : MethodName := ⟨RX4, "has", "(I)Z"⟩
abbrev cX4_hear : ByteArray := prog_6_method_5_code
def yX4_hear : MethodName := ⟨RX4, "hear", "(IIII)Z"⟩
abbrev cX4_answeredLesser : ByteArray := prog_6_method_6_code
def yX4_answeredLesser : MethodName := ⟨RX4, "answeredLesser", "(II)Z"⟩
def RX5 : String := "ReadAge$Run"
def TX5 : u_T := fun k => match k with
  | 0 => ("ReadAge$Run", "copies", "LReadAge$Copies;", true)
  | 1 => ("ReadAge$Run", "post", "LReadAge$Post;", true)
  | 2 => ("ReadAge$Run", "writes", "LReadAge$Writes;", true)
  | 3 => ("ReadAge$Run", "reads", "LReadAge$Reads;", true)
  | 4 => ("ReadAge$Run", "keeps", "[Z", true)
  | 5 => ("ReadAge$Run", "seen", "[I", true)
  | 6 => ("ReadAge$Run", "w", "I", false)
  | 7 => ("ReadAge$Run", "r", "I", false)
  | 8 => ("ReadAge$Run", "tick", "I", false)
  | 9 => ("ReadAge$Run", "mends", "Z", false)
  | 10 => ("ReadAge$Run", "raises", "I", false)
  | _ => ("ReadAge$Run", "misses", "I", false)
def tyX5 : Nat → FieldType := fun k => match k with
  | 0 => .object "ReadAge$Copies"
  | 1 => .object "ReadAge$Post"
  | 2 => .object "ReadAge$Writes"
  | 3 => .object "ReadAge$Reads"
  | 4 => .array .boolean
  | 5 => .array .int
  | 6 => .int
  | 7 => .int
  | 8 => .int
  | 9 => .boolean
  | 10 => .int
  | _ => .int
abbrev wsX50 : List Cond := u_ws RX5 TX5 12
theorem nmX5 : ∀ a, a < 12 → ∀ b, b < 12 → a ≠ b → (TX5 a).2.1 ≠ (TX5 b).2.1 := by decide +kernel
theorem tyX5_ok : ∀ k, k < 12 → parseFieldDescriptor (TX5 k).2.2.1 = some (tyX5 k) := by decide +kernel
abbrev cX5_init : ByteArray := prog_7_method_1_code
def yX5_init : MethodName := ⟨RX5, "<init>", "()V"⟩
abbrev cX5_renew : ByteArray := prog_7_method_2_code
def yX5_renew : MethodName := ⟨RX5, "renew", "(III)V"⟩
abbrev cX5_sendAll : ByteArray := prog_7_method_3_code
def yX5_sendAll : MethodName := ⟨RX5, "sendAll", "(IILReadAge$Sheets;I)V"⟩
abbrev cX5_workOff : ByteArray := prog_7_method_4_code
def yX5_workOff : MethodName := ⟨RX5, "workOff", "(I)V"⟩
abbrev cX5_come : ByteArray := prog_7_method_5_code
def yX5_come : MethodName := ⟨RX5, "come", "(I)V"⟩
abbrev cX5_finish : ByteArray := prog_7_method_6_code
def yX5_finish : MethodName := ⟨RX5, "finish", "(I)V"⟩
abbrev cX5_mend : ByteArray := prog_7_method_7_code
def yX5_mend : MethodName := ⟨RX5, "mend", "(I)V"⟩
def RX6 : String := "ReadAge$Sheets"
def TX6 : u_T := fun k => match k with
  | 0 => ("ReadAge$Sheets", "values", "[J", true)
  | 1 => ("ReadAge$Sheets", "sorts", "[I", true)
  | _ => ("ReadAge$Sheets", "sizes", "[I", true)
def tyX6 : Nat → FieldType := fun k => match k with
  | 0 => .array .long
  | 1 => .array .int
  | _ => .array .int
abbrev wsX60 : List Cond := u_ws RX6 TX6 3
theorem nmX6 : ∀ a, a < 3 → ∀ b, b < 3 → a ≠ b → (TX6 a).2.1 ≠ (TX6 b).2.1 := by decide +kernel
theorem tyX6_ok : ∀ k, k < 3 → parseFieldDescriptor (TX6 k).2.2.1 = some (tyX6 k) := by decide +kernel
abbrev cX6_init : ByteArray := prog_8_method_1_code
def yX6_init : MethodName := ⟨RX6, "<init>", "()V"⟩
abbrev cX6_lack : ByteArray := prog_8_method_2_code
def yX6_lack : MethodName := ⟨RX6, "lack", "(III)I"⟩
abbrev cX6_lay : ByteArray := prog_8_method_3_code
def yX6_lay : MethodName := ⟨RX6, "lay", "(III)V"⟩
abbrev cX6_takeAway : ByteArray := prog_8_method_4_code
def yX6_takeAway : MethodName := ⟨RX6, "takeAway", "(I)V"⟩
abbrev cX6_at : ByteArray := prog_8_method_5_code
def yX6_at : MethodName := ⟨RX6, "at", "(II)J"⟩
abbrev cX6_put : ByteArray := prog_8_method_6_code
def yX6_put : MethodName := ⟨RX6, "put", "(IIJ)V"⟩
abbrev cX6_move : ByteArray := prog_8_method_7_code
def yX6_move : MethodName := ⟨RX6, "move", "(IIIII)V"⟩
abbrev cX6_cut : ByteArray := prog_8_method_8_code
def yX6_cut : MethodName := ⟨RX6, "cut", "(IJ)J"⟩
def RX7 : String := "ReadAge$Writes"
def TX7 : u_T := fun k => match k with
  | 0 => ("ReadAge$Writes", "doneAt", "[I", true)
  | 1 => ("ReadAge$Writes", "words", "[I", true)
  | _ => ("ReadAge$Writes", "many", "I", false)
def tyX7 : Nat → FieldType := fun k => match k with
  | 0 => .array .int
  | 1 => .array .int
  | _ => .int
abbrev wsX70 : List Cond := u_ws RX7 TX7 3
theorem nmX7 : ∀ a, a < 3 → ∀ b, b < 3 → a ≠ b → (TX7 a).2.1 ≠ (TX7 b).2.1 := by decide +kernel
theorem tyX7_ok : ∀ k, k < 3 → parseFieldDescriptor (TX7 k).2.2.1 = some (tyX7 k) := by decide +kernel
abbrev cX7_init : ByteArray := prog_9_method_1_code
def yX7_init : MethodName := ⟨RX7, "<init>", "()V"⟩
abbrev cX7_add : ByteArray := prog_9_method_2_code
def yX7_add : MethodName := ⟨RX7, "add", "()I"⟩
abbrev cX7_isDone : ByteArray := prog_9_method_3_code
def yX7_isDone : MethodName := ⟨RX7, "isDone", "(I)Z"⟩
abbrev cX7_has : ByteArray := prog_9_method_4_code
def yX7_has : MethodName := ⟨RX7, "has", "(I)Z"⟩
abbrev cX7_hear : ByteArray := prog_9_method_5_code
def yX7_hear : MethodName := ⟨RX7, "hear", "(III)V"⟩
abbrev cX7_doneBefore : ByteArray := prog_9_method_6_code
def yX7_doneBefore : MethodName := ⟨RX7, "doneBefore", "(II)I"⟩
def RX8 : String := "ReadAge"
def TX8 : u_T := fun k => match k with
  | 0 => ("ReadAge", "sheets", "LReadAge$Sheets;", true)
  | 1 => ("ReadAge", "chances", "LReadAge$Chances;", true)
  | 2 => ("ReadAge", "odds", "LReadAge$Odds;", true)
  | 3 => ("ReadAge", "run", "LReadAge$Run;", true)
  | 4 => ("ReadAge", "running", "Z", false)
  | _ => ("ReadAge", "status", "I", false)
def tyX8 : Nat → FieldType := fun k => match k with
  | 0 => .object "ReadAge$Sheets"
  | 1 => .object "ReadAge$Chances"
  | 2 => .object "ReadAge$Odds"
  | 3 => .object "ReadAge$Run"
  | 4 => .boolean
  | _ => .int
abbrev wsX80 : List Cond := u_ws RX8 TX8 6
theorem nmX8 : ∀ a, a < 6 → ∀ b, b < 6 → a ≠ b → (TX8 a).2.1 ≠ (TX8 b).2.1 := by decide +kernel
theorem tyX8_ok : ∀ k, k < 6 → parseFieldDescriptor (TX8 k).2.2.1 = some (tyX8 k) := by decide +kernel
abbrev cX8_init : ByteArray := prog_1_method_1_code
def yX8_init : MethodName := ⟨RX8, "<init>", "()V"⟩
abbrev cX8_status : ByteArray := prog_1_method_2_code
def yX8_status : MethodName := ⟨RX8, "status", "()I"⟩
abbrev cX8_top : ByteArray := prog_1_method_3_code
def yX8_top : MethodName := ⟨RX8, "top", "()J"⟩
abbrev cX8_bottom : ByteArray := prog_1_method_4_code
def yX8_bottom : MethodName := ⟨RX8, "bottom", "()J"⟩
abbrev cX8_sheet : ByteArray := prog_1_method_5_code
def yX8_sheet : MethodName := ⟨RX8, "sheet", "(III)Z"⟩
abbrev cX8_write : ByteArray := prog_1_method_6_code
def yX8_write : MethodName := ⟨RX8, "write", "(IIJ)Z"⟩
abbrev cX8_read : ByteArray := prog_1_method_7_code
def yX8_read : MethodName := ⟨RX8, "read", "(II)J"⟩
abbrev cX8_copy : ByteArray := prog_1_method_8_code
def yX8_copy : MethodName := ⟨RX8, "copy", "(IIIII)Z"⟩
abbrev cX8_drop : ByteArray := prog_1_method_9_code
def yX8_drop : MethodName := ⟨RX8, "drop", "(I)Z"⟩
abbrev cX8_none : ByteArray := prog_1_method_10_code
def yX8_none : MethodName := ⟨RX8, "none", "()Z"⟩
abbrev cX8_numbers : ByteArray := prog_1_method_11_code
def yX8_numbers : MethodName := ⟨RX8, "numbers", "(III)Z"⟩
abbrev cX8_gap : ByteArray := prog_1_method_12_code
def yX8_gap : MethodName := ⟨RX8, "gap", "(I)Z"⟩
abbrev cX8_table : ByteArray := prog_1_method_13_code
def yX8_table : MethodName := ⟨RX8, "table", "(III)Z"⟩
abbrev cX8_takes : ByteArray := prog_1_method_14_code
def yX8_takes : MethodName := ⟨RX8, "takes", "(ZI)I"⟩
abbrev cX8_odds : ByteArray := prog_1_method_15_code
def yX8_odds : MethodName := ⟨RX8, "odds", "(III)I"⟩
abbrev cX8_choose : ByteArray := prog_1_method_16_code
def yX8_choose : MethodName := ⟨RX8, "choose", "(IIIIIIIII)I"⟩
abbrev cX8_begin : ByteArray := prog_1_method_17_code
def yX8_begin : MethodName := ⟨RX8, "begin", "()Z"⟩
abbrev cX8_mending : ByteArray := prog_1_method_18_code
def yX8_mending : MethodName := ⟨RX8, "mending", "(Z)Z"⟩
abbrev cX8_keep : ByteArray := prog_1_method_19_code
def yX8_keep : MethodName := ⟨RX8, "keep", "(IZ)Z"⟩
abbrev cX8_writes : ByteArray := prog_1_method_20_code
def yX8_writes : MethodName := ⟨RX8, "writes", "(I)I"⟩
abbrev cX8_reads : ByteArray := prog_1_method_21_code
def yX8_reads : MethodName := ⟨RX8, "reads", "(II)I"⟩
abbrev cX8_go : ByteArray := prog_1_method_22_code
def yX8_go : MethodName := ⟨RX8, "go", "(I)I"⟩
abbrev cX8_down : ByteArray := prog_1_method_23_code
def yX8_down : MethodName := ⟨RX8, "down", "(IZ)Z"⟩
abbrev cX8_up : ByteArray := prog_1_method_24_code
def yX8_up : MethodName := ⟨RX8, "up", "(I)I"⟩
abbrev cX8_sweep : ByteArray := prog_1_method_25_code
def yX8_sweep : MethodName := ⟨RX8, "sweep", "(II)I"⟩
abbrev cX8_of : ByteArray := prog_1_method_26_code
def yX8_of : MethodName := ⟨RX8, "of", "(II)I"⟩
abbrev cX8_done : ByteArray := prog_1_method_27_code
def yX8_done : MethodName := ⟨RX8, "done", "(I)I"⟩
abbrev cX8_got : ByteArray := prog_1_method_28_code
def yX8_got : MethodName := ⟨RX8, "got", "(II)I"⟩
abbrev cX8_tell : ByteArray := prog_1_method_29_code
def yX8_tell : MethodName := ⟨RX8, "tell", "(I)I"⟩
abbrev cX8_passes : ByteArray := prog_1_method_30_code
def yX8_passes : MethodName := ⟨RX8, "passes", "(I)Z"⟩
abbrev cX8_fits : ByteArray := prog_1_method_31_code
def yX8_fits : MethodName := ⟨RX8, "fits", "(JJJ)Z"⟩
abbrev cX8_first : ByteArray := prog_1_method_32_code
def yX8_first : MethodName := ⟨RX8, "first", "(II)I"⟩
abbrev cX8_fitsRead : ByteArray := prog_1_method_33_code
def yX8_fitsRead : MethodName := ⟨RX8, "fitsRead", "(III)Z"⟩
abbrev cX8_weightsOf : ByteArray := prog_1_method_34_code
def yX8_weightsOf : MethodName := ⟨RX8, "weightsOf", "(II)I"⟩
abbrev cX8_runLack : ByteArray := prog_1_method_35_code
def yX8_runLack : MethodName := ⟨RX8, "runLack", "(Z)I"⟩
abbrev cX8_isCopy : ByteArray := prog_1_method_36_code
def yX8_isCopy : MethodName := ⟨RX8, "isCopy", "(I)Z"⟩
abbrev cX8_copyLack : ByteArray := prog_1_method_37_code
def yX8_copyLack : MethodName := ⟨RX8, "copyLack", "(IZ)I"⟩
abbrev cX8_actLack : ByteArray := prog_1_method_38_code
def yX8_actLack : MethodName := ⟨RX8, "actLack", "(IZI)I"⟩
def RX9 : String := "ReadAgeModel"
def TX9 : u_T := fun k => match k with
  | 0 => ("ReadAgeModel", "status", "I", false)
  | 1 => ("ReadAgeModel", "top", "J", false)
  | 2 => ("ReadAgeModel", "bottom", "J", false)
  | 3 => ("ReadAgeModel", "sort", "[I", true)
  | 4 => ("ReadAgeModel", "many", "[I", true)
  | 5 => ("ReadAgeModel", "sheets", "[J", true)
  | 6 => ("ReadAgeModel", "n", "I", false)
  | 7 => ("ReadAgeModel", "w", "I", false)
  | 8 => ("ReadAgeModel", "r", "I", false)
  | 9 => ("ReadAgeModel", "gap", "I", false)
  | 10 => ("ReadAgeModel", "weight", "[I", true)
  | 11 => ("ReadAgeModel", "sum", "[I", true)
  | 12 => ("ReadAgeModel", "one", "[J", true)
  | 13 => ("ReadAgeModel", "now", "[J", false)
  | 14 => ("ReadAgeModel", "then", "[J", false)
  | 15 => ("ReadAgeModel", "kind", "[J", true)
  | 16 => ("ReadAgeModel", "isRun", "Z", false)
  | 17 => ("ReadAgeModel", "mends", "Z", false)
  | 18 => ("ReadAgeModel", "copies", "I", false)
  | 19 => ("ReadAgeModel", "waits", "I", false)
  | 20 => ("ReadAgeModel", "asks", "I", false)
  | 21 => ("ReadAgeModel", "tick", "I", false)
  | 22 => ("ReadAgeModel", "sent", "I", false)
  | 23 => ("ReadAgeModel", "lost", "I", false)
  | 24 => ("ReadAgeModel", "raises", "I", false)
  | 25 => ("ReadAgeModel", "writings", "I", false)
  | 26 => ("ReadAgeModel", "readings", "I", false)
  | 27 => ("ReadAgeModel", "version", "[I", true)
  | 28 => ("ReadAgeModel", "handed", "[I", true)
  | 29 => ("ReadAgeModel", "isUp", "[Z", true)
  | 30 => ("ReadAgeModel", "kept", "[Z", true)
  | 31 => ("ReadAgeModel", "seen", "[I", true)
  | 32 => ("ReadAgeModel", "when", "[I", true)
  | 33 => ("ReadAgeModel", "order", "[I", true)
  | 34 => ("ReadAgeModel", "what", "[I", true)
  | 35 => ("ReadAgeModel", "act", "[I", true)
  | 36 => ("ReadAgeModel", "who", "[I", true)
  | 37 => ("ReadAgeModel", "carries", "[I", true)
  | 38 => ("ReadAgeModel", "back", "[I", true)
  | 39 => ("ReadAgeModel", "underWay", "I", false)
  | 40 => ("ReadAgeModel", "words", "[I", true)
  | 41 => ("ReadAgeModel", "written", "[I", true)
  | 42 => ("ReadAgeModel", "began", "[I", true)
  | 43 => ("ReadAgeModel", "reader", "[I", true)
  | 44 => ("ReadAgeModel", "answers", "[I", true)
  | 45 => ("ReadAgeModel", "ended", "[I", true)
  | 46 => ("ReadAgeModel", "told", "[I", true)
  | 47 => ("ReadAgeModel", "greatest", "[I", true)
  | 48 => ("ReadAgeModel", "answered", "[I", true)
  | _ => ("ReadAgeModel", "answeredBy", "[I", true)
def tyX9 : Nat → FieldType := fun k => match k with
  | 0 => .int
  | 1 => .long
  | 2 => .long
  | 3 => .array .int
  | 4 => .array .int
  | 5 => .array .long
  | 6 => .int
  | 7 => .int
  | 8 => .int
  | 9 => .int
  | 10 => .array .int
  | 11 => .array .int
  | 12 => .array .long
  | 13 => .array .long
  | 14 => .array .long
  | 15 => .array .long
  | 16 => .boolean
  | 17 => .boolean
  | 18 => .int
  | 19 => .int
  | 20 => .int
  | 21 => .int
  | 22 => .int
  | 23 => .int
  | 24 => .int
  | 25 => .int
  | 26 => .int
  | 27 => .array .int
  | 28 => .array .int
  | 29 => .array .boolean
  | 30 => .array .boolean
  | 31 => .array .int
  | 32 => .array .int
  | 33 => .array .int
  | 34 => .array .int
  | 35 => .array .int
  | 36 => .array .int
  | 37 => .array .int
  | 38 => .array .int
  | 39 => .int
  | 40 => .array .int
  | 41 => .array .int
  | 42 => .array .int
  | 43 => .array .int
  | 44 => .array .int
  | 45 => .array .int
  | 46 => .array .int
  | 47 => .array .int
  | 48 => .array .int
  | _ => .array .int
abbrev wsX90 : List Cond := u_ws RX9 TX9 50
theorem nmX9 : ∀ a, a < 50 → ∀ b, b < 50 → a ≠ b → (TX9 a).2.1 ≠ (TX9 b).2.1 := by decide +kernel
theorem tyX9_ok : ∀ k, k < 50 → parseFieldDescriptor (TX9 k).2.2.1 = some (tyX9 k) := by decide +kernel
abbrev cX9_status : ByteArray := prog_11_method_1_code
def yX9_status : MethodName := ⟨RX9, "status", "()I"⟩
abbrev cX9_top : ByteArray := prog_11_method_2_code
def yX9_top : MethodName := ⟨RX9, "top", "()J"⟩
abbrev cX9_bottom : ByteArray := prog_11_method_3_code
def yX9_bottom : MethodName := ⟨RX9, "bottom", "()J"⟩
abbrev cX9_is : ByteArray := prog_11_method_4_code
def yX9_is : MethodName := ⟨RX9, "is", "(I)Z"⟩
abbrev cX9_refuse : ByteArray := prog_11_method_5_code
def yX9_refuse : MethodName := ⟨RX9, "refuse", "(I)I"⟩
abbrev cX9_isSheet : ByteArray := prog_11_method_6_code
def yX9_isSheet : MethodName := ⟨RX9, "isSheet", "(I)Z"⟩
abbrev cX9_cut : ByteArray := prog_11_method_7_code
def yX9_cut : MethodName := ⟨RX9, "cut", "(JI)J"⟩
abbrev cX9_sheet : ByteArray := prog_11_method_8_code
def yX9_sheet : MethodName := ⟨RX9, "sheet", "(III)Z"⟩
abbrev cX9_wrong : ByteArray := prog_11_method_9_code
def yX9_wrong : MethodName := ⟨RX9, "wrong", "(II)I"⟩
abbrev cX9_write : ByteArray := prog_11_method_10_code
def yX9_write : MethodName := ⟨RX9, "write", "(IIJ)Z"⟩
abbrev cX9_read : ByteArray := prog_11_method_11_code
def yX9_read : MethodName := ⟨RX9, "read", "(II)J"⟩
abbrev cX9_copy : ByteArray := prog_11_method_12_code
def yX9_copy : MethodName := ⟨RX9, "copy", "(IIIII)Z"⟩
abbrev cX9_drop : ByteArray := prog_11_method_13_code
def yX9_drop : MethodName := ⟨RX9, "drop", "(I)Z"⟩
abbrev cX9_none : ByteArray := prog_11_method_14_code
def yX9_none : MethodName := ⟨RX9, "none", "()Z"⟩
abbrev cX9_init : ByteArray := prog_11_method_15_code
def yX9_init : MethodName := ⟨RX9, "<init>", "()V"⟩
abbrev cX9_numbers : ByteArray := prog_11_method_16_code
def yX9_numbers : MethodName := ⟨RX9, "numbers", "(III)Z"⟩
abbrev cX9_gap : ByteArray := prog_11_method_17_code
def yX9_gap : MethodName := ⟨RX9, "gap", "(I)Z"⟩
abbrev cX9_table : ByteArray := prog_11_method_18_code
def yX9_table : MethodName := ⟨RX9, "table", "(III)Z"⟩
abbrev cX9_tells : ByteArray := prog_11_method_19_code
def yX9_tells : MethodName := ⟨RX9, "tells", "(JJ)I"⟩
abbrev cX9_both : ByteArray := prog_11_method_20_code
def yX9_both : MethodName := ⟨RX9, "both", "(III)I"⟩
abbrev cX9_power : ByteArray := prog_11_method_21_code
def yX9_power : MethodName := ⟨RX9, "power", "(JI)J"⟩
abbrev cX9_nth : ByteArray := prog_11_method_22_code
def yX9_nth : MethodName := ⟨RX9, "nth", "(IIJJJ)J"⟩
abbrev cX9_pick : ByteArray := prog_11_method_23_code
def yX9_pick : MethodName := ⟨RX9, "pick", "(II)J"⟩
abbrev cX9_takes : ByteArray := prog_11_method_24_code
def yX9_takes : MethodName := ⟨RX9, "takes", "(ZI)I"⟩
abbrev cX9_allWays : ByteArray := prog_11_method_25_code
def yX9_allWays : MethodName := ⟨RX9, "allWays", "(II)J"⟩
abbrev cX9_above : ByteArray := prog_11_method_26_code
def yX9_above : MethodName := ⟨RX9, "above", "(I)J"⟩
abbrev cX9_look : ByteArray := prog_11_method_27_code
def yX9_look : MethodName := ⟨RX9, "look", "(IIII)V"⟩
abbrev cX9_mark : ByteArray := prog_11_method_28_code
def yX9_mark : MethodName := ⟨RX9, "mark", "(IIII)I"⟩
abbrev cX9_ways : ByteArray := prog_11_method_29_code
def yX9_ways : MethodName := ⟨RX9, "ways", "(IIII)J"⟩
abbrev cX9_spread : ByteArray := prog_11_method_30_code
def yX9_spread : MethodName := ⟨RX9, "spread", "(IIIII)V"⟩
abbrev cX9_oldWays : ByteArray := prog_11_method_31_code
def yX9_oldWays : MethodName := ⟨RX9, "oldWays", "(IIIIII)J"⟩
abbrev cX9_isAsked : ByteArray := prog_11_method_32_code
def yX9_isAsked : MethodName := ⟨RX9, "isAsked", "(III)Z"⟩
abbrev cX9_odds : ByteArray := prog_11_method_33_code
def yX9_odds : MethodName := ⟨RX9, "odds", "(III)I"⟩
abbrev cX9_isAbove : ByteArray := prog_11_method_34_code
def yX9_isAbove : MethodName := ⟨RX9, "isAbove", "(JJJJ)Z"⟩
abbrev cX9_choose : ByteArray := prog_11_method_35_code
def yX9_choose : MethodName := ⟨RX9, "choose", "(IIIIIIIII)I"⟩
abbrev cX9_begin : ByteArray := prog_11_method_36_code
def yX9_begin : MethodName := ⟨RX9, "begin", "()Z"⟩
abbrev cX9_mending : ByteArray := prog_11_method_37_code
def yX9_mending : MethodName := ⟨RX9, "mending", "(Z)Z"⟩
abbrev cX9_isReader : ByteArray := prog_11_method_38_code
def yX9_isReader : MethodName := ⟨RX9, "isReader", "(I)Z"⟩
abbrev cX9_keep : ByteArray := prog_11_method_39_code
def yX9_keep : MethodName := ⟨RX9, "keep", "(IZ)Z"⟩
abbrev cX9_send : ByteArray := prog_11_method_40_code
def yX9_send : MethodName := ⟨RX9, "send", "(IIIIII)V"⟩
abbrev cX9_wrongDelays : ByteArray := prog_11_method_41_code
def yX9_wrongDelays : MethodName := ⟨RX9, "wrongDelays", "(I)I"⟩
abbrev cX9_delay : ByteArray := prog_11_method_42_code
def yX9_delay : MethodName := ⟨RX9, "delay", "(II)I"⟩
abbrev cX9_writes : ByteArray := prog_11_method_43_code
def yX9_writes : MethodName := ⟨RX9, "writes", "(I)I"⟩
abbrev cX9_reads : ByteArray := prog_11_method_44_code
def yX9_reads : MethodName := ⟨RX9, "reads", "(II)I"⟩
abbrev cX9_due : ByteArray := prog_11_method_45_code
def yX9_due : MethodName := ⟨RX9, "due", "()I"⟩
abbrev cX9_workOff : ByteArray := prog_11_method_46_code
def yX9_workOff : MethodName := ⟨RX9, "workOff", "()V"⟩
abbrev cX9_comes : ByteArray := prog_11_method_47_code
def yX9_comes : MethodName := ⟨RX9, "comes", "(IIIII)V"⟩
abbrev cX9_hand : ByteArray := prog_11_method_48_code
def yX9_hand : MethodName := ⟨RX9, "hand", "(II)V"⟩
abbrev cX9_answer : ByteArray := prog_11_method_49_code
def yX9_answer : MethodName := ⟨RX9, "answer", "(III)V"⟩
abbrev cX9_go : ByteArray := prog_11_method_50_code
def yX9_go : MethodName := ⟨RX9, "go", "(I)I"⟩
abbrev cX9_wrongCopy : ByteArray := prog_11_method_51_code
def yX9_wrongCopy : MethodName := ⟨RX9, "wrongCopy", "(I)I"⟩
abbrev cX9_down : ByteArray := prog_11_method_52_code
def yX9_down : MethodName := ⟨RX9, "down", "(IZ)Z"⟩
abbrev cX9_gives : ByteArray := prog_11_method_53_code
def yX9_gives : MethodName := ⟨RX9, "gives", "(II)I"⟩
abbrev cX9_up : ByteArray := prog_11_method_54_code
def yX9_up : MethodName := ⟨RX9, "up", "(I)I"⟩
abbrev cX9_sweep : ByteArray := prog_11_method_55_code
def yX9_sweep : MethodName := ⟨RX9, "sweep", "(II)I"⟩
abbrev cX9_of : ByteArray := prog_11_method_56_code
def yX9_of : MethodName := ⟨RX9, "of", "(II)I"⟩
abbrev cX9_done : ByteArray := prog_11_method_57_code
def yX9_done : MethodName := ⟨RX9, "done", "(I)I"⟩
abbrev cX9_missed : ByteArray := prog_11_method_58_code
def yX9_missed : MethodName := ⟨RX9, "missed", "(I)I"⟩
abbrev cX9_got : ByteArray := prog_11_method_59_code
def yX9_got : MethodName := ⟨RX9, "got", "(II)I"⟩
abbrev cX9_tell : ByteArray := prog_11_method_60_code
def yX9_tell : MethodName := ⟨RX9, "tell", "(I)I"⟩
def RL : String := "ReadAgeLaw"
abbrev cL_law : ByteArray := code
def yL_law : MethodName := ⟨RL, "law", "([I)Z"⟩
abbrev vwCl : List vw_C := [(RX0, TX0, 8), (RX1, TX1, 5), (RX2, TX2, 12), (RX3, TX3, 9), (RX4, TX4, 9), (RX5, TX5, 12), (RX6, TX6, 3), (RX7, TX7, 3), (RX8, TX8, 6), (RX9, TX9, 50)]
