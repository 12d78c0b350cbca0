section
-- ===== PART A: goes FIRST, ahead of the names: the tables' words, and 'selects' of the private methods out of them =====
/-- a private method of a class that the tables say can be made, by its rows of tables_1 -/
def lw_okq (q : MethodName × Nat) : Prop := (q.1.cls ≠ "java/lang/invoke/MethodHandle" ∧ q.1.cls ≠ "java/lang/invoke/VarHandle") ∧ Cond.instantiable q.1.cls q.2 ∈ tables_1 ∧ Cond.privateMethod q.1 ∈ tables_1 ∧ Cond.instanceMethod q.1 ∈ tables_1
theorem lw_p0 : lw_okq (⟨"AgesTens", "refuse", "(I)I"⟩, 14) := ⟨⟨by decide +kernel, by decide +kernel⟩, List.mem_of_getElem? (i := 21) (by decide +kernel), List.mem_of_getElem? (i := 345) (by decide +kernel), List.mem_of_getElem? (i := 346) (by decide +kernel)⟩
theorem lw_p1 : lw_okq (⟨"AgesTens", "refuseAs", "(II)I"⟩, 14) := ⟨⟨by decide +kernel, by decide +kernel⟩, List.mem_of_getElem? (i := 21) (by decide +kernel), List.mem_of_getElem? (i := 349) (by decide +kernel), List.mem_of_getElem? (i := 350) (by decide +kernel)⟩
theorem lw_p2 : lw_okq (⟨"AgesTens", "isPlace", "(II)Z"⟩, 14) := ⟨⟨by decide +kernel, by decide +kernel⟩, List.mem_of_getElem? (i := 21) (by decide +kernel), List.mem_of_getElem? (i := 431) (by decide +kernel), List.mem_of_getElem? (i := 432) (by decide +kernel)⟩
theorem lw_p3 : lw_okq (⟨"AgesTens$Judge", "lastingReason", "(II)I"⟩, 3) := ⟨⟨by decide +kernel, by decide +kernel⟩, List.mem_of_getElem? (i := 189) (by decide +kernel), List.mem_of_getElem? (i := 449) (by decide +kernel), List.mem_of_getElem? (i := 450) (by decide +kernel)⟩
theorem lw_p4 : lw_okq (⟨"AgesTens$Judge", "isLawful", "(II)Z"⟩, 3) := ⟨⟨by decide +kernel, by decide +kernel⟩, List.mem_of_getElem? (i := 189) (by decide +kernel), List.mem_of_getElem? (i := 459) (by decide +kernel), List.mem_of_getElem? (i := 460) (by decide +kernel)⟩
theorem lw_p5 : lw_okq (⟨"AgesTens$Judge", "yearsTogether", "(I)I"⟩, 3) := ⟨⟨by decide +kernel, by decide +kernel⟩, List.mem_of_getElem? (i := 189) (by decide +kernel), List.mem_of_getElem? (i := 463) (by decide +kernel), List.mem_of_getElem? (i := 464) (by decide +kernel)⟩
theorem lw_p6 : lw_okq (⟨"AgesTens$Judge", "isUnlike", "(I)Z"⟩, 3) := ⟨⟨by decide +kernel, by decide +kernel⟩, List.mem_of_getElem? (i := 189) (by decide +kernel), List.mem_of_getElem? (i := 470) (by decide +kernel), List.mem_of_getElem? (i := 471) (by decide +kernel)⟩
theorem lw_p7 : lw_okq (⟨"AgesTens$Reader", "takeToken", "()V"⟩, 6) := ⟨⟨by decide +kernel, by decide +kernel⟩, List.mem_of_getElem? (i := 164) (by decide +kernel), List.mem_of_getElem? (i := 499) (by decide +kernel), List.mem_of_getElem? (i := 500) (by decide +kernel)⟩
theorem lw_p8 : lw_okq (⟨"AgesTens$Reader", "takeContent", "()Z"⟩, 6) := ⟨⟨by decide +kernel, by decide +kernel⟩, List.mem_of_getElem? (i := 164) (by decide +kernel), List.mem_of_getElem? (i := 510) (by decide +kernel), List.mem_of_getElem? (i := 511) (by decide +kernel)⟩
theorem lw_p9 : lw_okq (⟨"AgesTens$Reader", "isWord", "(Ljava/lang/String;)Z"⟩, 6) := ⟨⟨by decide +kernel, by decide +kernel⟩, List.mem_of_getElem? (i := 164) (by decide +kernel), List.mem_of_getElem? (i := 515) (by decide +kernel), List.mem_of_getElem? (i := 516) (by decide +kernel)⟩
theorem lw_p10 : lw_okq (⟨"AgesTens$Reader", "takePerson", "()Z"⟩, 6) := ⟨⟨by decide +kernel, by decide +kernel⟩, List.mem_of_getElem? (i := 164) (by decide +kernel), List.mem_of_getElem? (i := 567) (by decide +kernel), List.mem_of_getElem? (i := 568) (by decide +kernel)⟩
theorem lw_p11 : lw_okq (⟨"AgesTens$Reader", "takeNumber", "(II)Z"⟩, 6) := ⟨⟨by decide +kernel, by decide +kernel⟩, List.mem_of_getElem? (i := 164) (by decide +kernel), List.mem_of_getElem? (i := 571) (by decide +kernel), List.mem_of_getElem? (i := 572) (by decide +kernel)⟩
theorem lw_p12 : lw_okq (⟨"AgesTens$Reader", "takeGate", "()Z"⟩, 6) := ⟨⟨by decide +kernel, by decide +kernel⟩, List.mem_of_getElem? (i := 164) (by decide +kernel), List.mem_of_getElem? (i := 579) (by decide +kernel), List.mem_of_getElem? (i := 580) (by decide +kernel)⟩
theorem lw_p13 : lw_okq (⟨"AgesTens$Reader", "takeTie", "([I)Z"⟩, 6) := ⟨⟨by decide +kernel, by decide +kernel⟩, List.mem_of_getElem? (i := 164) (by decide +kernel), List.mem_of_getElem? (i := 585) (by decide +kernel), List.mem_of_getElem? (i := 586) (by decide +kernel)⟩
theorem lw_p14 : lw_okq (⟨"AgesTens$Reader", "takeSemicolon", "()Z"⟩, 6) := ⟨⟨by decide +kernel, by decide +kernel⟩, List.mem_of_getElem? (i := 164) (by decide +kernel), List.mem_of_getElem? (i := 591) (by decide +kernel), List.mem_of_getElem? (i := 592) (by decide +kernel)⟩
theorem lw_p15 : lw_okq (⟨"AgesTens$Parting", "weigh", "(II)V"⟩, 6) := ⟨⟨by decide +kernel, by decide +kernel⟩, List.mem_of_getElem? (i := 205) (by decide +kernel), List.mem_of_getElem? (i := 618) (by decide +kernel), List.mem_of_getElem? (i := 619) (by decide +kernel)⟩
def lw_privs_1 : List (MethodName × Nat) := [(⟨"AgesTens", "refuse", "(I)I"⟩, 14), (⟨"AgesTens", "refuseAs", "(II)I"⟩, 14), (⟨"AgesTens", "isPlace", "(II)Z"⟩, 14), (⟨"AgesTens$Judge", "lastingReason", "(II)I"⟩, 3), (⟨"AgesTens$Judge", "isLawful", "(II)Z"⟩, 3), (⟨"AgesTens$Judge", "yearsTogether", "(I)I"⟩, 3), (⟨"AgesTens$Judge", "isUnlike", "(I)Z"⟩, 3), (⟨"AgesTens$Reader", "takeToken", "()V"⟩, 6), (⟨"AgesTens$Reader", "takeContent", "()Z"⟩, 6), (⟨"AgesTens$Reader", "isWord", "(Ljava/lang/String;)Z"⟩, 6), (⟨"AgesTens$Reader", "takePerson", "()Z"⟩, 6), (⟨"AgesTens$Reader", "takeNumber", "(II)Z"⟩, 6), (⟨"AgesTens$Reader", "takeGate", "()Z"⟩, 6), (⟨"AgesTens$Reader", "takeTie", "([I)Z"⟩, 6), (⟨"AgesTens$Reader", "takeSemicolon", "()Z"⟩, 6), (⟨"AgesTens$Parting", "weigh", "(II)V"⟩, 6)]
theorem lw_r1 : ∀ q ∈ lw_privs_1, lw_okq q := List.forall_mem_cons.mpr ⟨lw_p0, List.forall_mem_cons.mpr ⟨lw_p1, List.forall_mem_cons.mpr ⟨lw_p2, List.forall_mem_cons.mpr ⟨lw_p3, List.forall_mem_cons.mpr ⟨lw_p4, List.forall_mem_cons.mpr ⟨lw_p5, List.forall_mem_cons.mpr ⟨lw_p6, List.forall_mem_cons.mpr ⟨lw_p7, List.forall_mem_cons.mpr ⟨lw_p8, List.forall_mem_cons.mpr ⟨lw_p9, List.forall_mem_cons.mpr ⟨lw_p10, List.forall_mem_cons.mpr ⟨lw_p11, List.forall_mem_cons.mpr ⟨lw_p12, List.forall_mem_cons.mpr ⟨lw_p13, List.forall_mem_cons.mpr ⟨lw_p14, List.forall_mem_cons.mpr ⟨lw_p15, fun _ h => absurd h List.not_mem_nil⟩⟩⟩⟩⟩⟩⟩⟩⟩⟩⟩⟩⟩⟩⟩⟩
theorem lw_p16 : lw_okq (⟨"AgesTens$Parting", "leastCost", "(I)I"⟩, 6) := ⟨⟨by decide +kernel, by decide +kernel⟩, List.mem_of_getElem? (i := 205) (by decide +kernel), List.mem_of_getElem? (i := 623) (by decide +kernel), List.mem_of_getElem? (i := 624) (by decide +kernel)⟩
theorem lw_p17 : lw_okq (⟨"AgesTens$Parting", "leastBestCompany", "(I)I"⟩, 6) := ⟨⟨by decide +kernel, by decide +kernel⟩, List.mem_of_getElem? (i := 205) (by decide +kernel), List.mem_of_getElem? (i := 630) (by decide +kernel), List.mem_of_getElem? (i := 631) (by decide +kernel)⟩
theorem lw_p18 : lw_okq (⟨"AgesTens$Parting", "leavesNobody", "(II)Z"⟩, 6) := ⟨⟨by decide +kernel, by decide +kernel⟩, List.mem_of_getElem? (i := 205) (by decide +kernel), List.mem_of_getElem? (i := 687) (by decide +kernel), List.mem_of_getElem? (i := 688) (by decide +kernel)⟩
theorem lw_p19 : lw_okq (⟨"AgesTens$Sums", "addOne", "(II)V"⟩, 2) := ⟨⟨by decide +kernel, by decide +kernel⟩, List.mem_of_getElem? (i := 233) (by decide +kernel), List.mem_of_getElem? (i := 704) (by decide +kernel), List.mem_of_getElem? (i := 705) (by decide +kernel)⟩
theorem lw_p20 : lw_okq (⟨"AgesTens$Fits", "begin", "(II)V"⟩, 6) := ⟨⟨by decide +kernel, by decide +kernel⟩, List.mem_of_getElem? (i := 247) (by decide +kernel), List.mem_of_getElem? (i := 748) (by decide +kernel), List.mem_of_getElem? (i := 749) (by decide +kernel)⟩
theorem lw_p21 : lw_okq (⟨"AgesTens$Fits", "countFrom", "(II)I"⟩, 6) := ⟨⟨by decide +kernel, by decide +kernel⟩, List.mem_of_getElem? (i := 247) (by decide +kernel), List.mem_of_getElem? (i := 752) (by decide +kernel), List.mem_of_getElem? (i := 753) (by decide +kernel)⟩
theorem lw_p22 : lw_okq (⟨"AgesTens$Fits", "freeWays", "(I)I"⟩, 6) := ⟨⟨by decide +kernel, by decide +kernel⟩, List.mem_of_getElem? (i := 247) (by decide +kernel), List.mem_of_getElem? (i := 756) (by decide +kernel), List.mem_of_getElem? (i := 757) (by decide +kernel)⟩
theorem lw_p23 : lw_okq (⟨"AgesTens$Fits", "weighFigures", "(I)V"⟩, 6) := ⟨⟨by decide +kernel, by decide +kernel⟩, List.mem_of_getElem? (i := 247) (by decide +kernel), List.mem_of_getElem? (i := 760) (by decide +kernel), List.mem_of_getElem? (i := 761) (by decide +kernel)⟩
theorem lw_p24 : lw_okq (⟨"AgesTens$Fits", "neededFigure", "(II)I"⟩, 6) := ⟨⟨by decide +kernel, by decide +kernel⟩, List.mem_of_getElem? (i := 247) (by decide +kernel), List.mem_of_getElem? (i := 764) (by decide +kernel), List.mem_of_getElem? (i := 765) (by decide +kernel)⟩
theorem lw_p25 : lw_okq (⟨"AgesTens$Fits", "countBehind", "(III)I"⟩, 6) := ⟨⟨by decide +kernel, by decide +kernel⟩, List.mem_of_getElem? (i := 247) (by decide +kernel), List.mem_of_getElem? (i := 768) (by decide +kernel), List.mem_of_getElem? (i := 769) (by decide +kernel)⟩
theorem lw_p26 : lw_okq (⟨"AgesTens", "setFraction", "(II)V"⟩, 14) := ⟨⟨by decide +kernel, by decide +kernel⟩, List.mem_of_getElem? (i := 21) (by decide +kernel), List.mem_of_getElem? (i := 784) (by decide +kernel), List.mem_of_getElem? (i := 785) (by decide +kernel)⟩
theorem lw_p27 : lw_okq (⟨"AgesTensModel", "bad", "(I)I"⟩, 27) := ⟨⟨by decide +kernel, by decide +kernel⟩, List.mem_of_getElem? (i := 836) (by decide +kernel), List.mem_of_getElem? (i := 949) (by decide +kernel), List.mem_of_getElem? (i := 950) (by decide +kernel)⟩
theorem lw_p28 : lw_okq (⟨"AgesTensModel", "takeApart", "(I)V"⟩, 27) := ⟨⟨by decide +kernel, by decide +kernel⟩, List.mem_of_getElem? (i := 836) (by decide +kernel), List.mem_of_getElem? (i := 962) (by decide +kernel), List.mem_of_getElem? (i := 963) (by decide +kernel)⟩
theorem lw_p29 : lw_okq (⟨"AgesTensModel", "full", "()I"⟩, 27) := ⟨⟨by decide +kernel, by decide +kernel⟩, List.mem_of_getElem? (i := 836) (by decide +kernel), List.mem_of_getElem? (i := 973) (by decide +kernel), List.mem_of_getElem? (i := 974) (by decide +kernel)⟩
theorem lw_p30 : lw_okq (⟨"AgesTensModel", "isPerson", "(I)Z"⟩, 27) := ⟨⟨by decide +kernel, by decide +kernel⟩, List.mem_of_getElem? (i := 836) (by decide +kernel), List.mem_of_getElem? (i := 987) (by decide +kernel), List.mem_of_getElem? (i := 988) (by decide +kernel)⟩
theorem lw_p31 : lw_okq (⟨"AgesTensModel", "no", "()I"⟩, 27) := ⟨⟨by decide +kernel, by decide +kernel⟩, List.mem_of_getElem? (i := 836) (by decide +kernel), List.mem_of_getElem? (i := 994) (by decide +kernel), List.mem_of_getElem? (i := 995) (by decide +kernel)⟩
def lw_privs_2 : List (MethodName × Nat) := [(⟨"AgesTens$Parting", "leastCost", "(I)I"⟩, 6), (⟨"AgesTens$Parting", "leastBestCompany", "(I)I"⟩, 6), (⟨"AgesTens$Parting", "leavesNobody", "(II)Z"⟩, 6), (⟨"AgesTens$Sums", "addOne", "(II)V"⟩, 2), (⟨"AgesTens$Fits", "begin", "(II)V"⟩, 6), (⟨"AgesTens$Fits", "countFrom", "(II)I"⟩, 6), (⟨"AgesTens$Fits", "freeWays", "(I)I"⟩, 6), (⟨"AgesTens$Fits", "weighFigures", "(I)V"⟩, 6), (⟨"AgesTens$Fits", "neededFigure", "(II)I"⟩, 6), (⟨"AgesTens$Fits", "countBehind", "(III)I"⟩, 6), (⟨"AgesTens", "setFraction", "(II)V"⟩, 14), (⟨"AgesTensModel", "bad", "(I)I"⟩, 27), (⟨"AgesTensModel", "takeApart", "(I)V"⟩, 27), (⟨"AgesTensModel", "full", "()I"⟩, 27), (⟨"AgesTensModel", "isPerson", "(I)Z"⟩, 27), (⟨"AgesTensModel", "no", "()I"⟩, 27)]
theorem lw_r2 : ∀ q ∈ lw_privs_2, lw_okq q := List.forall_mem_cons.mpr ⟨lw_p16, List.forall_mem_cons.mpr ⟨lw_p17, List.forall_mem_cons.mpr ⟨lw_p18, List.forall_mem_cons.mpr ⟨lw_p19, List.forall_mem_cons.mpr ⟨lw_p20, List.forall_mem_cons.mpr ⟨lw_p21, List.forall_mem_cons.mpr ⟨lw_p22, List.forall_mem_cons.mpr ⟨lw_p23, List.forall_mem_cons.mpr ⟨lw_p24, List.forall_mem_cons.mpr ⟨lw_p25, List.forall_mem_cons.mpr ⟨lw_p26, List.forall_mem_cons.mpr ⟨lw_p27, List.forall_mem_cons.mpr ⟨lw_p28, List.forall_mem_cons.mpr ⟨lw_p29, List.forall_mem_cons.mpr ⟨lw_p30, List.forall_mem_cons.mpr ⟨lw_p31, fun _ h => absurd h List.not_mem_nil⟩⟩⟩⟩⟩⟩⟩⟩⟩⟩⟩⟩⟩⟩⟩⟩
theorem lw_p32 : lw_okq (⟨"AgesTensModel", "look", "(I)V"⟩, 27) := ⟨⟨by decide +kernel, by decide +kernel⟩, List.mem_of_getElem? (i := 836) (by decide +kernel), List.mem_of_getElem? (i := 1002) (by decide +kernel), List.mem_of_getElem? (i := 1003) (by decide +kernel)⟩
theorem lw_p33 : lw_okq (⟨"AgesTensModel", "layBirths", "()V"⟩, 27) := ⟨⟨by decide +kernel, by decide +kernel⟩, List.mem_of_getElem? (i := 836) (by decide +kernel), List.mem_of_getElem? (i := 1006) (by decide +kernel), List.mem_of_getElem? (i := 1007) (by decide +kernel)⟩
theorem lw_p34 : lw_okq (⟨"AgesTensModel", "layAges", "(I)V"⟩, 27) := ⟨⟨by decide +kernel, by decide +kernel⟩, List.mem_of_getElem? (i := 836) (by decide +kernel), List.mem_of_getElem? (i := 1010) (by decide +kernel), List.mem_of_getElem? (i := 1011) (by decide +kernel)⟩
theorem lw_p35 : lw_okq (⟨"AgesTensModel", "isCompany", "(I)Z"⟩, 27) := ⟨⟨by decide +kernel, by decide +kernel⟩, List.mem_of_getElem? (i := 836) (by decide +kernel), List.mem_of_getElem? (i := 1018) (by decide +kernel), List.mem_of_getElem? (i := 1019) (by decide +kernel)⟩
theorem lw_p36 : lw_okq (⟨"AgesTensModel", "isGate", "(I)Z"⟩, 27) := ⟨⟨by decide +kernel, by decide +kernel⟩, List.mem_of_getElem? (i := 836) (by decide +kernel), List.mem_of_getElem? (i := 1022) (by decide +kernel), List.mem_of_getElem? (i := 1023) (by decide +kernel)⟩
theorem lw_p37 : lw_okq (⟨"AgesTensModel", "whyNot", "(II)I"⟩, 27) := ⟨⟨by decide +kernel, by decide +kernel⟩, List.mem_of_getElem? (i := 836) (by decide +kernel), List.mem_of_getElem? (i := 1026) (by decide +kernel), List.mem_of_getElem? (i := 1027) (by decide +kernel)⟩
theorem lw_p38 : lw_okq (⟨"AgesTensModel", "isByLaw", "(II)Z"⟩, 27) := ⟨⟨by decide +kernel, by decide +kernel⟩, List.mem_of_getElem? (i := 836) (by decide +kernel), List.mem_of_getElem? (i := 1033) (by decide +kernel), List.mem_of_getElem? (i := 1034) (by decide +kernel)⟩
theorem lw_p39 : lw_okq (⟨"AgesTensModel", "nextToken", "()V"⟩, 27) := ⟨⟨by decide +kernel, by decide +kernel⟩, List.mem_of_getElem? (i := 836) (by decide +kernel), List.mem_of_getElem? (i := 1050) (by decide +kernel), List.mem_of_getElem? (i := 1051) (by decide +kernel)⟩
theorem lw_p40 : lw_okq (⟨"AgesTensModel", "byteAt", "(I)I"⟩, 27) := ⟨⟨by decide +kernel, by decide +kernel⟩, List.mem_of_getElem? (i := 836) (by decide +kernel), List.mem_of_getElem? (i := 1054) (by decide +kernel), List.mem_of_getElem? (i := 1055) (by decide +kernel)⟩
theorem lw_p41 : lw_okq (⟨"AgesTensModel", "readItem", "()Z"⟩, 27) := ⟨⟨by decide +kernel, by decide +kernel⟩, List.mem_of_getElem? (i := 836) (by decide +kernel), List.mem_of_getElem? (i := 1066) (by decide +kernel), List.mem_of_getElem? (i := 1067) (by decide +kernel)⟩
theorem lw_p42 : lw_okq (⟨"AgesTensModel", "readPerson", "()Z"⟩, 27) := ⟨⟨by decide +kernel, by decide +kernel⟩, List.mem_of_getElem? (i := 836) (by decide +kernel), List.mem_of_getElem? (i := 1071) (by decide +kernel), List.mem_of_getElem? (i := 1072) (by decide +kernel)⟩
theorem lw_p43 : lw_okq (⟨"AgesTensModel", "isNumber", "(II)Z"⟩, 27) := ⟨⟨by decide +kernel, by decide +kernel⟩, List.mem_of_getElem? (i := 836) (by decide +kernel), List.mem_of_getElem? (i := 1075) (by decide +kernel), List.mem_of_getElem? (i := 1076) (by decide +kernel)⟩
theorem lw_p44 : lw_okq (⟨"AgesTensModel", "readGate", "()Z"⟩, 27) := ⟨⟨by decide +kernel, by decide +kernel⟩, List.mem_of_getElem? (i := 836) (by decide +kernel), List.mem_of_getElem? (i := 1080) (by decide +kernel), List.mem_of_getElem? (i := 1081) (by decide +kernel)⟩
theorem lw_p45 : lw_okq (⟨"AgesTensModel", "readPair", "(I)Z"⟩, 27) := ⟨⟨by decide +kernel, by decide +kernel⟩, List.mem_of_getElem? (i := 836) (by decide +kernel), List.mem_of_getElem? (i := 1085) (by decide +kernel), List.mem_of_getElem? (i := 1086) (by decide +kernel)⟩
theorem lw_p46 : lw_okq (⟨"AgesTensModel", "isLook", "(III)Z"⟩, 27) := ⟨⟨by decide +kernel, by decide +kernel⟩, List.mem_of_getElem? (i := 836) (by decide +kernel), List.mem_of_getElem? (i := 1098) (by decide +kernel), List.mem_of_getElem? (i := 1099) (by decide +kernel)⟩
theorem lw_p47 : lw_okq (⟨"AgesTensModel", "isSet", "(I)Z"⟩, 27) := ⟨⟨by decide +kernel, by decide +kernel⟩, List.mem_of_getElem? (i := 836) (by decide +kernel), List.mem_of_getElem? (i := 1102) (by decide +kernel), List.mem_of_getElem? (i := 1103) (by decide +kernel)⟩
def lw_privs_3 : List (MethodName × Nat) := [(⟨"AgesTensModel", "look", "(I)V"⟩, 27), (⟨"AgesTensModel", "layBirths", "()V"⟩, 27), (⟨"AgesTensModel", "layAges", "(I)V"⟩, 27), (⟨"AgesTensModel", "isCompany", "(I)Z"⟩, 27), (⟨"AgesTensModel", "isGate", "(I)Z"⟩, 27), (⟨"AgesTensModel", "whyNot", "(II)I"⟩, 27), (⟨"AgesTensModel", "isByLaw", "(II)Z"⟩, 27), (⟨"AgesTensModel", "nextToken", "()V"⟩, 27), (⟨"AgesTensModel", "byteAt", "(I)I"⟩, 27), (⟨"AgesTensModel", "readItem", "()Z"⟩, 27), (⟨"AgesTensModel", "readPerson", "()Z"⟩, 27), (⟨"AgesTensModel", "isNumber", "(II)Z"⟩, 27), (⟨"AgesTensModel", "readGate", "()Z"⟩, 27), (⟨"AgesTensModel", "readPair", "(I)Z"⟩, 27), (⟨"AgesTensModel", "isLook", "(III)Z"⟩, 27), (⟨"AgesTensModel", "isSet", "(I)Z"⟩, 27)]
theorem lw_r3 : ∀ q ∈ lw_privs_3, lw_okq q := List.forall_mem_cons.mpr ⟨lw_p32, List.forall_mem_cons.mpr ⟨lw_p33, List.forall_mem_cons.mpr ⟨lw_p34, List.forall_mem_cons.mpr ⟨lw_p35, List.forall_mem_cons.mpr ⟨lw_p36, List.forall_mem_cons.mpr ⟨lw_p37, List.forall_mem_cons.mpr ⟨lw_p38, List.forall_mem_cons.mpr ⟨lw_p39, List.forall_mem_cons.mpr ⟨lw_p40, List.forall_mem_cons.mpr ⟨lw_p41, List.forall_mem_cons.mpr ⟨lw_p42, List.forall_mem_cons.mpr ⟨lw_p43, List.forall_mem_cons.mpr ⟨lw_p44, List.forall_mem_cons.mpr ⟨lw_p45, List.forall_mem_cons.mpr ⟨lw_p46, List.forall_mem_cons.mpr ⟨lw_p47, fun _ h => absurd h List.not_mem_nil⟩⟩⟩⟩⟩⟩⟩⟩⟩⟩⟩⟩⟩⟩⟩⟩
theorem lw_p48 : lw_okq (⟨"AgesTensModel", "layParts", "(II)V"⟩, 27) := ⟨⟨by decide +kernel, by decide +kernel⟩, List.mem_of_getElem? (i := 836) (by decide +kernel), List.mem_of_getElem? (i := 1106) (by decide +kernel), List.mem_of_getElem? (i := 1107) (by decide +kernel)⟩
theorem lw_p49 : lw_okq (⟨"AgesTensModel", "takeParts", "(I)V"⟩, 27) := ⟨⟨by decide +kernel, by decide +kernel⟩, List.mem_of_getElem? (i := 836) (by decide +kernel), List.mem_of_getElem? (i := 1116) (by decide +kernel), List.mem_of_getElem? (i := 1117) (by decide +kernel)⟩
theorem lw_p50 : lw_okq (⟨"AgesTensModel", "areOther", "()Z"⟩, 27) := ⟨⟨by decide +kernel, by decide +kernel⟩, List.mem_of_getElem? (i := 836) (by decide +kernel), List.mem_of_getElem? (i := 1145) (by decide +kernel), List.mem_of_getElem? (i := 1146) (by decide +kernel)⟩
theorem lw_p51 : lw_okq (⟨"AgesTensModel", "leavesNobody", "(II)Z"⟩, 27) := ⟨⟨by decide +kernel, by decide +kernel⟩, List.mem_of_getElem? (i := 836) (by decide +kernel), List.mem_of_getElem? (i := 1149) (by decide +kernel), List.mem_of_getElem? (i := 1150) (by decide +kernel)⟩
theorem lw_p52 : lw_okq (⟨"AgesTensModel", "layWays", "()V"⟩, 27) := ⟨⟨by decide +kernel, by decide +kernel⟩, List.mem_of_getElem? (i := 836) (by decide +kernel), List.mem_of_getElem? (i := 1164) (by decide +kernel), List.mem_of_getElem? (i := 1165) (by decide +kernel)⟩
theorem lw_p53 : lw_okq (⟨"AgesTensModel", "fitsAll", "(I)Z"⟩, 27) := ⟨⟨by decide +kernel, by decide +kernel⟩, List.mem_of_getElem? (i := 836) (by decide +kernel), List.mem_of_getElem? (i := 1195) (by decide +kernel), List.mem_of_getElem? (i := 1196) (by decide +kernel)⟩
def lw_privs_4 : List (MethodName × Nat) := [(⟨"AgesTensModel", "layParts", "(II)V"⟩, 27), (⟨"AgesTensModel", "takeParts", "(I)V"⟩, 27), (⟨"AgesTensModel", "areOther", "()Z"⟩, 27), (⟨"AgesTensModel", "leavesNobody", "(II)Z"⟩, 27), (⟨"AgesTensModel", "layWays", "()V"⟩, 27), (⟨"AgesTensModel", "fitsAll", "(I)Z"⟩, 27)]
theorem lw_r4 : ∀ q ∈ lw_privs_4, lw_okq q := List.forall_mem_cons.mpr ⟨lw_p48, List.forall_mem_cons.mpr ⟨lw_p49, List.forall_mem_cons.mpr ⟨lw_p50, List.forall_mem_cons.mpr ⟨lw_p51, List.forall_mem_cons.mpr ⟨lw_p52, List.forall_mem_cons.mpr ⟨lw_p53, fun _ h => absurd h List.not_mem_nil⟩⟩⟩⟩⟩⟩
def lw_privs : List (MethodName × Nat) := lw_privs_1 ++ (lw_privs_2 ++ (lw_privs_3 ++ (lw_privs_4)))
def lw_tbl : List Cond := k2_sels lw_privs ++ tables_1
theorem lw_privs_ok : ∀ q ∈ lw_privs, lw_okq q := by
  show ∀ q ∈ lw_privs_1 ++ (lw_privs_2 ++ (lw_privs_3 ++ (lw_privs_4))), lw_okq q
  exact List.forall_mem_append.mpr ⟨lw_r1, List.forall_mem_append.mpr ⟨lw_r2, List.forall_mem_append.mpr ⟨lw_r3, lw_r4⟩⟩⟩
end
section
/-! ===== BEGIN words of one list among another's, by their places ===== -/
theorem goodIn_r {big : List Cond} (ws : List Cond) (ps : List Nat) (hp : ws = ps.filterMap (fun i => big[i]?)) (h : ws.all goodWord = true) : GoodIn big ws := by
  intro w hw
  have h1 := List.all_eq_true.mp h w hw
  rw [hp] at hw
  obtain ⟨i, -, hi⟩ := List.mem_filterMap.mp hw
  have hm : w ∈ big := by first | exact List.mem_of_getElem? hi | exact List.getElem?_mem hi
  exact ⟨hm, good_of_word h1⟩
theorem goodIn_app {big a b : List Cond} (ha : GoodIn big a) (hb : GoodIn big b) : GoodIn big (a ++ b) := fun w h => (List.mem_append.mp h).elim (ha w) (hb w)
theorem goodIn_ca {big a b : List Cond} {c : Cond} (ha : GoodIn big (c :: a)) (hb : GoodIn big b) : GoodIn big (c :: (a ++ b)) := fun w h => (List.mem_cons.mp h).elim (fun e => ha w (List.mem_cons.mpr (Or.inl e))) (fun h => (List.mem_append.mp h).elim (fun h => ha w (List.mem_cons.mpr (Or.inr h))) (hb w))
theorem goodIn_sub {big ws : List Cond} (hm : ∀ w ∈ ws, w ∈ big) (h : ws.all goodWord = true) : GoodIn big ws := fun w hw => ⟨hm w hw, good_of_word (List.all_eq_true.mp h w hw)⟩
/-! ===== END ===== -/

/-! ===== BEGIN printed: names, fields, word lists, decode rows ===== -/
def RX0 : String := "AgesTens$Book"
def TX0 : u_T := fun k => match k with
  | 0 => ("AgesTens$Book", "length", "I", false)
  | _ => ("AgesTens$Book", "bytes", "[I", true)
def tyX0 : Nat → FieldType := fun k => match k with
  | 0 => .int
  | _ => .array .int
abbrev wsX00 : List Cond := u_ws RX0 TX0 2
theorem nmX0 : ∀ a, a < 2 → ∀ b, b < 2 → a ≠ b → (TX0 a).2.1 ≠ (TX0 b).2.1 := by decide +kernel
theorem tyX0_ok : ∀ k, k < 2 → parseFieldDescriptor (TX0 k).2.2.1 = some (tyX0 k) := by decide +kernel
abbrev cX0_init : ByteArray := prog_2_method_1_code
def yX0_init : MethodName := ⟨RX0, "<init>", "()V"⟩
abbrev cX0_append : ByteArray := prog_2_method_2_code
def yX0_append : MethodName := ⟨RX0, "append", "(JI)I"⟩
abbrev cX0_at : ByteArray := prog_2_method_3_code
def yX0_at : MethodName := ⟨RX0, "at", "(I)I"⟩
abbrev cX0_copyFrom : ByteArray := prog_2_method_4_code
def yX0_copyFrom : MethodName := ⟨RX0, "copyFrom", "(LAgesTens$Book;)V"⟩
def RX1 : String := "AgesTens$Calendar"
def TX1 : u_T := fun k => match k with
  | _ => ("", "", "", false)
def tyX1 : Nat → FieldType := fun k => match k with
  | _ => .int
abbrev wsX10 : List Cond := u_ws RX1 TX1 0
theorem nmX1 : ∀ a, a < 0 → ∀ b, b < 0 → a ≠ b → (TX1 a).2.1 ≠ (TX1 b).2.1 := by decide +kernel
theorem tyX1_ok : ∀ k, k < 0 → parseFieldDescriptor (TX1 k).2.2.1 = some (tyX1 k) := by decide +kernel
abbrev cX1_isDay : ByteArray := prog_3_method_2_code
def yX1_isDay : MethodName := ⟨RX1, "isDay", "(I)Z"⟩
abbrev cX1_isYear : ByteArray := prog_3_method_3_code
def yX1_isYear : MethodName := ⟨RX1, "isYear", "(I)Z"⟩
abbrev cX1_has : ByteArray := prog_3_method_4_code
def yX1_has : MethodName := ⟨RX1, "has", "(III)Z"⟩
abbrev cX1_isLeap : ByteArray := prog_3_method_5_code
def yX1_isLeap : MethodName := ⟨RX1, "isLeap", "(I)Z"⟩
abbrev cX1_daysOfMonth : ByteArray := prog_3_method_6_code
def yX1_daysOfMonth : MethodName := ⟨RX1, "daysOfMonth", "(II)I"⟩
abbrev cX1_placeOfMonth : ByteArray := prog_3_method_7_code
def yX1_placeOfMonth : MethodName := ⟨RX1, "placeOfMonth", "(I)I"⟩
abbrev cX1_firstDayOf : ByteArray := prog_3_method_8_code
def yX1_firstDayOf : MethodName := ⟨RX1, "firstDayOf", "(I)I"⟩
abbrev cX1_numberOf : ByteArray := prog_3_method_9_code
def yX1_numberOf : MethodName := ⟨RX1, "numberOf", "(III)I"⟩
abbrev cX1_dayInYear : ByteArray := prog_3_method_10_code
def yX1_dayInYear : MethodName := ⟨RX1, "dayInYear", "(II)I"⟩
abbrev cX1_yearOf : ByteArray := prog_3_method_11_code
def yX1_yearOf : MethodName := ⟨RX1, "yearOf", "(I)I"⟩
abbrev cX1_placeOf : ByteArray := prog_3_method_12_code
def yX1_placeOf : MethodName := ⟨RX1, "placeOf", "(II)I"⟩
abbrev cX1_monthOf : ByteArray := prog_3_method_13_code
def yX1_monthOf : MethodName := ⟨RX1, "monthOf", "(I)I"⟩
def RX2 : String := "AgesTens$Fits"
def TX2 : u_T := fun k => match k with
  | 0 => ("AgesTens$Fits", "passings", "LAgesTens$Passings;", true)
  | 1 => ("AgesTens$Fits", "figures", "[I", true)
  | 2 => ("AgesTens$Fits", "undecided", "[I", true)
  | 3 => ("AgesTens$Fits", "wrongs", "[I", true)
  | 4 => ("AgesTens$Fits", "fixedOne", "I", false)
  | _ => ("AgesTens$Fits", "fixedFigure", "I", false)
def tyX2 : Nat → FieldType := fun k => match k with
  | 0 => .object "AgesTens$Passings"
  | 1 => .array .int
  | 2 => .array .int
  | 3 => .array .int
  | 4 => .int
  | _ => .int
abbrev wsX20 : List Cond := u_ws RX2 TX2 6
theorem nmX2 : ∀ a, a < 6 → ∀ b, b < 6 → a ≠ b → (TX2 a).2.1 ≠ (TX2 b).2.1 := by decide +kernel
theorem tyX2_ok : ∀ k, k < 6 → parseFieldDescriptor (TX2 k).2.2.1 = some (tyX2 k) := by decide +kernel
abbrev cX2_init : ByteArray := prog_4_method_1_code
def yX2_init : MethodName := ⟨RX2, "<init>", "(LAgesTens$Passings;)V"⟩
abbrev cX2_countAll : ByteArray := prog_4_method_2_code
def yX2_countAll : MethodName := ⟨RX2, "countAll", "()I"⟩
abbrev cX2_countWith : ByteArray := prog_4_method_3_code
def yX2_countWith : MethodName := ⟨RX2, "countWith", "(II)I"⟩
abbrev cX2_pick : ByteArray := prog_4_method_4_code
def yX2_pick : MethodName := ⟨RX2, "pick", "(I)I"⟩
abbrev cX2_begin : ByteArray := prog_4_method_5_code
def yX2_begin : MethodName := ⟨RX2, "begin", "(II)V"⟩
abbrev cX2_countFrom : ByteArray := prog_4_method_6_code
def yX2_countFrom : MethodName := ⟨RX2, "countFrom", "(II)I"⟩
abbrev cX2_countBehind : ByteArray := prog_4_method_7_code
def yX2_countBehind : MethodName := ⟨RX2, "countBehind", "(III)I"⟩
abbrev cX2_freeWays : ByteArray := prog_4_method_8_code
def yX2_freeWays : MethodName := ⟨RX2, "freeWays", "(I)I"⟩
abbrev cX2_weighFigures : ByteArray := prog_4_method_9_code
def yX2_weighFigures : MethodName := ⟨RX2, "weighFigures", "(I)V"⟩
abbrev cX2_neededFigure : ByteArray := prog_4_method_10_code
def yX2_neededFigure : MethodName := ⟨RX2, "neededFigure", "(II)I"⟩
def RX3 : String := "AgesTens$Judge"
def TX3 : u_T := fun k => match k with
  | 0 => ("AgesTens$Judge", "roll", "LAgesTens$Roll;", true)
  | 1 => ("AgesTens$Judge", "ages", "[I", true)
  | _ => ("AgesTens$Judge", "unborn", "I", false)
def tyX3 : Nat → FieldType := fun k => match k with
  | 0 => .object "AgesTens$Roll"
  | 1 => .array .int
  | _ => .int
abbrev wsX30 : List Cond := u_ws RX3 TX3 3
theorem nmX3 : ∀ a, a < 3 → ∀ b, b < 3 → a ≠ b → (TX3 a).2.1 ≠ (TX3 b).2.1 := by decide +kernel
theorem tyX3_ok : ∀ k, k < 3 → parseFieldDescriptor (TX3 k).2.2.1 = some (tyX3 k) := by decide +kernel
abbrev cX3_init : ByteArray := prog_5_method_1_code
def yX3_init : MethodName := ⟨RX3, "<init>", "(LAgesTens$Roll;)V"⟩
abbrev cX3_standOn : ByteArray := prog_5_method_2_code
def yX3_standOn : MethodName := ⟨RX3, "standOn", "(I)V"⟩
abbrev cX3_reason : ByteArray := prog_5_method_3_code
def yX3_reason : MethodName := ⟨RX3, "reason", "(II)I"⟩
abbrev cX3_lastingReason : ByteArray := prog_5_method_4_code
def yX3_lastingReason : MethodName := ⟨RX3, "lastingReason", "(II)I"⟩
abbrev cX3_isLawful : ByteArray := prog_5_method_5_code
def yX3_isLawful : MethodName := ⟨RX3, "isLawful", "(II)Z"⟩
abbrev cX3_yearsTogether : ByteArray := prog_5_method_6_code
def yX3_yearsTogether : MethodName := ⟨RX3, "yearsTogether", "(I)I"⟩
abbrev cX3_isSquare : ByteArray := prog_5_method_7_code
def yX3_isSquare : MethodName := ⟨RX3, "isSquare", "(I)Z"⟩
abbrev cX3_isUnlike : ByteArray := prog_5_method_8_code
def yX3_isUnlike : MethodName := ⟨RX3, "isUnlike", "(I)Z"⟩
abbrev cX3_changeBehind : ByteArray := prog_5_method_9_code
def yX3_changeBehind : MethodName := ⟨RX3, "changeBehind", "(II)I"⟩
abbrev cX3_firstDay : ByteArray := prog_5_method_10_code
def yX3_firstDay : MethodName := ⟨RX3, "firstDay", "(III)I"⟩
abbrev cX3_daysOfYear : ByteArray := prog_5_method_11_code
def yX3_daysOfYear : MethodName := ⟨RX3, "daysOfYear", "(III)I"⟩
def RX4 : String := "AgesTens$Parting"
def TX4 : u_T := fun k => match k with
  | 0 => ("AgesTens$Parting", "judge", "LAgesTens$Judge;", true)
  | 1 => ("AgesTens$Parting", "may", "[Z", true)
  | 2 => ("AgesTens$Parting", "cost", "[I", true)
  | 3 => ("AgesTens$Parting", "companies", "[I", true)
  | 4 => ("AgesTens$Parting", "many", "I", false)
  | _ => ("AgesTens$Parting", "left", "I", false)
def tyX4 : Nat → FieldType := fun k => match k with
  | 0 => .object "AgesTens$Judge"
  | 1 => .array .boolean
  | 2 => .array .int
  | 3 => .array .int
  | 4 => .int
  | _ => .int
abbrev wsX40 : List Cond := u_ws RX4 TX4 6
theorem nmX4 : ∀ a, a < 6 → ∀ b, b < 6 → a ≠ b → (TX4 a).2.1 ≠ (TX4 b).2.1 := by decide +kernel
theorem tyX4_ok : ∀ k, k < 6 → parseFieldDescriptor (TX4 k).2.2.1 = some (tyX4 k) := by decide +kernel
abbrev cX4_init : ByteArray := prog_6_method_1_code
def yX4_init : MethodName := ⟨RX4, "<init>", "(LAgesTens$Judge;)V"⟩
abbrev cX4_weigh : ByteArray := prog_6_method_2_code
def yX4_weigh : MethodName := ⟨RX4, "weigh", "(II)V"⟩
abbrev cX4_leastCost : ByteArray := prog_6_method_3_code
def yX4_leastCost : MethodName := ⟨RX4, "leastCost", "(I)I"⟩
abbrev cX4_deal : ByteArray := prog_6_method_4_code
def yX4_deal : MethodName := ⟨RX4, "deal", "(II)V"⟩
abbrev cX4_leastBestCompany : ByteArray := prog_6_method_5_code
def yX4_leastBestCompany : MethodName := ⟨RX4, "leastBestCompany", "(I)I"⟩
abbrev cX4_leavesNobody : ByteArray := prog_6_method_6_code
def yX4_leavesNobody : MethodName := ⟨RX4, "leavesNobody", "(II)Z"⟩
abbrev cX4_firstDayForBoth : ByteArray := prog_6_method_7_code
def yX4_firstDayForBoth : MethodName := ⟨RX4, "firstDayForBoth", "(IIII)I"⟩
def RX5 : String := "AgesTens$Passings"
def TX5 : u_T := fun k => match k with
  | 0 => ("AgesTens$Passings", "many", "I", false)
  | 1 => ("AgesTens$Passings", "liars", "I", false)
  | 2 => ("AgesTens$Passings", "counted", "I", false)
  | 3 => ("AgesTens$Passings", "sets", "[I", true)
  | 4 => ("AgesTens$Passings", "known", "[I", true)
  | _ => ("AgesTens$Passings", "let", "[Z", true)
def tyX5 : Nat → FieldType := fun k => match k with
  | 0 => .int
  | 1 => .int
  | 2 => .int
  | 3 => .array .int
  | 4 => .array .int
  | _ => .array .boolean
abbrev wsX50 : List Cond := u_ws RX5 TX5 6
theorem nmX5 : ∀ a, a < 6 → ∀ b, b < 6 → a ≠ b → (TX5 a).2.1 ≠ (TX5 b).2.1 := by decide +kernel
theorem tyX5_ok : ∀ k, k < 6 → parseFieldDescriptor (TX5 k).2.2.1 = some (tyX5 k) := by decide +kernel
abbrev cX5_init : ByteArray := prog_7_method_1_code
def yX5_init : MethodName := ⟨RX5, "<init>", "()V"⟩
abbrev cX5_append : ByteArray := prog_7_method_2_code
def yX5_append : MethodName := ⟨RX5, "append", "(IIZ)I"⟩
abbrev cX5_drop : ByteArray := prog_7_method_3_code
def yX5_drop : MethodName := ⟨RX5, "drop", "()I"⟩
abbrev cX5_allow : ByteArray := prog_7_method_4_code
def yX5_allow : MethodName := ⟨RX5, "allow", "(I)I"⟩
abbrev cX5_copyFrom : ByteArray := prog_7_method_5_code
def yX5_copyFrom : MethodName := ⟨RX5, "copyFrom", "(LAgesTens$Passings;)V"⟩
def RX6 : String := "AgesTens$Reader"
def TX6 : u_T := fun k => match k with
  | 0 => ("AgesTens$Reader", "book", "LAgesTens$Book;", true)
  | 1 => ("AgesTens$Reader", "draft", "LAgesTens$Roll;", true)
  | 2 => ("AgesTens$Reader", "start", "I", false)
  | 3 => ("AgesTens$Reader", "end", "I", false)
  | 4 => ("AgesTens$Reader", "kind", "I", false)
  | _ => ("AgesTens$Reader", "value", "I", false)
def tyX6 : Nat → FieldType := fun k => match k with
  | 0 => .object "AgesTens$Book"
  | 1 => .object "AgesTens$Roll"
  | 2 => .int
  | 3 => .int
  | 4 => .int
  | _ => .int
abbrev wsX60 : List Cond := u_ws RX6 TX6 6
theorem nmX6 : ∀ a, a < 6 → ∀ b, b < 6 → a ≠ b → (TX6 a).2.1 ≠ (TX6 b).2.1 := by decide +kernel
theorem tyX6_ok : ∀ k, k < 6 → parseFieldDescriptor (TX6 k).2.2.1 = some (tyX6 k) := by decide +kernel
abbrev cX6_init : ByteArray := prog_8_method_1_code
def yX6_init : MethodName := ⟨RX6, "<init>", "(LAgesTens$Book;LAgesTens$Roll;)V"⟩
abbrev cX6_takeBook : ByteArray := prog_8_method_2_code
def yX6_takeBook : MethodName := ⟨RX6, "takeBook", "()I"⟩
abbrev cX6_takeContent : ByteArray := prog_8_method_3_code
def yX6_takeContent : MethodName := ⟨RX6, "takeContent", "()Z"⟩
abbrev cX6_takePerson : ByteArray := prog_8_method_4_code
def yX6_takePerson : MethodName := ⟨RX6, "takePerson", "()Z"⟩
abbrev cX6_takeGate : ByteArray := prog_8_method_5_code
def yX6_takeGate : MethodName := ⟨RX6, "takeGate", "()Z"⟩
abbrev cX6_takeTie : ByteArray := prog_8_method_6_code
def yX6_takeTie : MethodName := ⟨RX6, "takeTie", "([I)Z"⟩
abbrev cX6_takeSemicolon : ByteArray := prog_8_method_7_code
def yX6_takeSemicolon : MethodName := ⟨RX6, "takeSemicolon", "()Z"⟩
abbrev cX6_takeNumber : ByteArray := prog_8_method_8_code
def yX6_takeNumber : MethodName := ⟨RX6, "takeNumber", "(II)Z"⟩
abbrev cX6_isWord : ByteArray := prog_8_method_9_code
def yX6_isWord : MethodName := ⟨RX6, "isWord", "(Ljava/lang/String;)Z"⟩
abbrev cX6_takeToken : ByteArray := prog_8_method_10_code
def yX6_takeToken : MethodName := ⟨RX6, "takeToken", "()V"⟩
abbrev cX6_kindOf : ByteArray := prog_8_method_11_code
def yX6_kindOf : MethodName := ⟨RX6, "kindOf", "(I)I"⟩
def RX7 : String := "AgesTens$Roll"
def TX7 : u_T := fun k => match k with
  | 0 => ("AgesTens$Roll", "people", "I", false)
  | 1 => ("AgesTens$Roll", "gates", "I", false)
  | 2 => ("AgesTens$Roll", "born", "[I", true)
  | 3 => ("AgesTens$Roll", "bornYear", "[I", true)
  | 4 => ("AgesTens$Roll", "bornPlace", "[I", true)
  | 5 => ("AgesTens$Roll", "with", "[I", true)
  | 6 => ("AgesTens$Roll", "apart", "[I", true)
  | 7 => ("AgesTens$Roll", "law", "[I", true)
  | _ => ("AgesTens$Roll", "seats", "[I", true)
def tyX7 : Nat → FieldType := fun k => match k with
  | 0 => .int
  | 1 => .int
  | 2 => .array .int
  | 3 => .array .int
  | 4 => .array .int
  | 5 => .array .int
  | 6 => .array .int
  | 7 => .array .int
  | _ => .array .int
abbrev wsX70 : List Cond := u_ws RX7 TX7 9
theorem nmX7 : ∀ a, a < 9 → ∀ b, b < 9 → a ≠ b → (TX7 a).2.1 ≠ (TX7 b).2.1 := by decide +kernel
theorem tyX7_ok : ∀ k, k < 9 → parseFieldDescriptor (TX7 k).2.2.1 = some (tyX7 k) := by decide +kernel
abbrev cX7_init : ByteArray := prog_9_method_1_code
def yX7_init : MethodName := ⟨RX7, "<init>", "()V"⟩
abbrev cX7_isLaw : ByteArray := prog_9_method_2_code
def yX7_isLaw : MethodName := ⟨RX7, "isLaw", "(I)Z"⟩
abbrev cX7_isSeats : ByteArray := prog_9_method_3_code
def yX7_isSeats : MethodName := ⟨RX7, "isSeats", "(I)Z"⟩
abbrev cX7_hasPerson : ByteArray := prog_9_method_4_code
def yX7_hasPerson : MethodName := ⟨RX7, "hasPerson", "(I)Z"⟩
abbrev cX7_hasGate : ByteArray := prog_9_method_5_code
def yX7_hasGate : MethodName := ⟨RX7, "hasGate", "(I)Z"⟩
abbrev cX7_everyone : ByteArray := prog_9_method_6_code
def yX7_everyone : MethodName := ⟨RX7, "everyone", "()I"⟩
abbrev cX7_hasSet : ByteArray := prog_9_method_7_code
def yX7_hasSet : MethodName := ⟨RX7, "hasSet", "(I)Z"⟩
abbrev cX7_hasCompany : ByteArray := prog_9_method_8_code
def yX7_hasCompany : MethodName := ⟨RX7, "hasCompany", "(I)Z"⟩
abbrev cX7_empty : ByteArray := prog_9_method_9_code
def yX7_empty : MethodName := ⟨RX7, "empty", "()V"⟩
abbrev cX7_addPerson : ByteArray := prog_9_method_10_code
def yX7_addPerson : MethodName := ⟨RX7, "addPerson", "(I)I"⟩
abbrev cX7_addGate : ByteArray := prog_9_method_11_code
def yX7_addGate : MethodName := ⟨RX7, "addGate", "(II)I"⟩
abbrev cX7_tie : ByteArray := prog_9_method_12_code
def yX7_tie : MethodName := ⟨RX7, "tie", "([III)Z"⟩
abbrev cX7_yearsOf : ByteArray := prog_9_method_13_code
def yX7_yearsOf : MethodName := ⟨RX7, "yearsOf", "(III)I"⟩
abbrev cX7_birthdayBehind : ByteArray := prog_9_method_14_code
def yX7_birthdayBehind : MethodName := ⟨RX7, "birthdayBehind", "(III)I"⟩
abbrev cX7_copyFrom : ByteArray := prog_9_method_15_code
def yX7_copyFrom : MethodName := ⟨RX7, "copyFrom", "(LAgesTens$Roll;)V"⟩
def RX8 : String := "AgesTens$State"
def TX8 : u_T := fun k => match k with
  | 0 => ("AgesTens$State", "roll", "LAgesTens$Roll;", true)
  | 1 => ("AgesTens$State", "book", "LAgesTens$Book;", true)
  | 2 => ("AgesTens$State", "crowds", "[I", true)
  | _ => ("AgesTens$State", "passings", "LAgesTens$Passings;", true)
def tyX8 : Nat → FieldType := fun k => match k with
  | 0 => .object "AgesTens$Roll"
  | 1 => .object "AgesTens$Book"
  | 2 => .array .int
  | _ => .object "AgesTens$Passings"
abbrev wsX80 : List Cond := u_ws RX8 TX8 4
theorem nmX8 : ∀ a, a < 4 → ∀ b, b < 4 → a ≠ b → (TX8 a).2.1 ≠ (TX8 b).2.1 := by decide +kernel
theorem tyX8_ok : ∀ k, k < 4 → parseFieldDescriptor (TX8 k).2.2.1 = some (tyX8 k) := by decide +kernel
abbrev cX8_init : ByteArray := prog_10_method_1_code
def yX8_init : MethodName := ⟨RX8, "<init>", "()V"⟩
abbrev cX8_copyFrom : ByteArray := prog_10_method_2_code
def yX8_copyFrom : MethodName := ⟨RX8, "copyFrom", "(LAgesTens$State;)V"⟩
abbrev cX8_digestFrom : ByteArray := prog_10_method_3_code
def yX8_digestFrom : MethodName := ⟨RX8, "digestFrom", "(J)J"⟩
def RX9 : String := "AgesTens$Sums"
def TX9 : u_T := fun k => match k with
  | 0 => ("AgesTens$Sums", "crowds", "[I", true)
  | _ => ("AgesTens$Sums", "sets", "[J", true)
def tyX9 : Nat → FieldType := fun k => match k with
  | 0 => .array .int
  | _ => .array .long
abbrev wsX90 : List Cond := u_ws RX9 TX9 2
theorem nmX9 : ∀ a, a < 2 → ∀ b, b < 2 → a ≠ b → (TX9 a).2.1 ≠ (TX9 b).2.1 := by decide +kernel
theorem tyX9_ok : ∀ k, k < 2 → parseFieldDescriptor (TX9 k).2.2.1 = some (tyX9 k) := by decide +kernel
abbrev cX9_init : ByteArray := prog_11_method_1_code
def yX9_init : MethodName := ⟨RX9, "<init>", "([I)V"⟩
abbrev cX9_countSets : ByteArray := prog_11_method_2_code
def yX9_countSets : MethodName := ⟨RX9, "countSets", "()I"⟩
abbrev cX9_addOne : ByteArray := prog_11_method_3_code
def yX9_addOne : MethodName := ⟨RX9, "addOne", "(II)V"⟩
abbrev cX9_setsOfTens : ByteArray := prog_11_method_4_code
def yX9_setsOfTens : MethodName := ⟨RX9, "setsOfTens", "(I)J"⟩
def RX10 : String := "AgesTens"
def TX10 : u_T := fun k => match k with
  | 0 => ("AgesTens", "now", "LAgesTens$State;", true)
  | 1 => ("AgesTens", "images", "[LAgesTens$State;", true)
  | 2 => ("AgesTens", "kept", "[Z", true)
  | 3 => ("AgesTens", "draft", "LAgesTens$Roll;", true)
  | 4 => ("AgesTens", "reader", "LAgesTens$Reader;", true)
  | 5 => ("AgesTens", "judge", "LAgesTens$Judge;", true)
  | 6 => ("AgesTens", "parting", "LAgesTens$Parting;", true)
  | 7 => ("AgesTens", "sums", "LAgesTens$Sums;", true)
  | 8 => ("AgesTens", "ways", "LAgesTens$Fits;", true)
  | 9 => ("AgesTens", "above", "I", false)
  | 10 => ("AgesTens", "below", "I", false)
  | 11 => ("AgesTens", "refusedBad", "I", false)
  | 12 => ("AgesTens", "refusedNo", "I", false)
  | _ => ("AgesTens", "refusedFull", "I", false)
def tyX10 : Nat → FieldType := fun k => match k with
  | 0 => .object "AgesTens$State"
  | 1 => .array (.object "AgesTens$State")
  | 2 => .array .boolean
  | 3 => .object "AgesTens$Roll"
  | 4 => .object "AgesTens$Reader"
  | 5 => .object "AgesTens$Judge"
  | 6 => .object "AgesTens$Parting"
  | 7 => .object "AgesTens$Sums"
  | 8 => .object "AgesTens$Fits"
  | 9 => .int
  | 10 => .int
  | 11 => .int
  | 12 => .int
  | _ => .int
abbrev wsX100 : List Cond := u_ws RX10 TX10 14
theorem nmX10 : ∀ a, a < 14 → ∀ b, b < 14 → a ≠ b → (TX10 a).2.1 ≠ (TX10 b).2.1 := by decide +kernel
theorem tyX10_ok : ∀ k, k < 14 → parseFieldDescriptor (TX10 k).2.2.1 = some (tyX10 k) := by decide +kernel
abbrev cX10_init : ByteArray := prog_1_method_1_code
def yX10_init : MethodName := ⟨RX10, "<init>", "()V"⟩
abbrev cX10_day : ByteArray := prog_1_method_2_code
def yX10_day : MethodName := ⟨RX10, "day", "(III)I"⟩
abbrev cX10_date : ByteArray := prog_1_method_3_code
def yX10_date : MethodName := ⟨RX10, "date", "(II)I"⟩
abbrev cX10_person : ByteArray := prog_1_method_4_code
def yX10_person : MethodName := ⟨RX10, "person", "(I)I"⟩
abbrev cX10_gate : ByteArray := prog_1_method_5_code
def yX10_gate : MethodName := ⟨RX10, "gate", "(II)I"⟩
abbrev cX10_pair : ByteArray := prog_1_method_6_code
def yX10_pair : MethodName := ⟨RX10, "pair", "(III)I"⟩
abbrev cX10_age : ByteArray := prog_1_method_7_code
def yX10_age : MethodName := ⟨RX10, "age", "(II)I"⟩
abbrev cX10_why : ByteArray := prog_1_method_8_code
def yX10_why : MethodName := ⟨RX10, "why", "(III)I"⟩
abbrev cX10_type : ByteArray := prog_1_method_9_code
def yX10_type : MethodName := ⟨RX10, "type", "(JI)I"⟩
abbrev cX10_clear : ByteArray := prog_1_method_10_code
def yX10_clear : MethodName := ⟨RX10, "clear", "()I"⟩
abbrev cX10_read : ByteArray := prog_1_method_11_code
def yX10_read : MethodName := ⟨RX10, "read", "()I"⟩
abbrev cX10_can : ByteArray := prog_1_method_12_code
def yX10_can : MethodName := ⟨RX10, "can", "(IIII)I"⟩
abbrev cX10_over : ByteArray := prog_1_method_13_code
def yX10_over : MethodName := ⟨RX10, "over", "(IIII)I"⟩
abbrev cX10_parts : ByteArray := prog_1_method_14_code
def yX10_parts : MethodName := ⟨RX10, "parts", "(IIII)I"⟩
abbrev cX10_lent : ByteArray := prog_1_method_15_code
def yX10_lent : MethodName := ⟨RX10, "lent", "(III)I"⟩
abbrev cX10_worth : ByteArray := prog_1_method_16_code
def yX10_worth : MethodName := ⟨RX10, "worth", "(III)I"⟩
abbrev cX10_dates : ByteArray := prog_1_method_17_code
def yX10_dates : MethodName := ⟨RX10, "dates", "(III)I"⟩
abbrev cX10_next : ByteArray := prog_1_method_18_code
def yX10_next : MethodName := ⟨RX10, "next", "(III)I"⟩
abbrev cX10_wedding : ByteArray := prog_1_method_19_code
def yX10_wedding : MethodName := ⟨RX10, "wedding", "(IIII)I"⟩
abbrev cX10_crowd : ByteArray := prog_1_method_20_code
def yX10_crowd : MethodName := ⟨RX10, "crowd", "(II)I"⟩
abbrev cX10_tens : ByteArray := prog_1_method_21_code
def yX10_tens : MethodName := ⟨RX10, "tens", "(I)J"⟩
abbrev cX10_spare : ByteArray := prog_1_method_22_code
def yX10_spare : MethodName := ⟨RX10, "spare", "()I"⟩
abbrev cX10_passing : ByteArray := prog_1_method_23_code
def yX10_passing : MethodName := ⟨RX10, "passing", "(IIZ)I"⟩
abbrev cX10_forget : ByteArray := prog_1_method_24_code
def yX10_forget : MethodName := ⟨RX10, "forget", "()I"⟩
abbrev cX10_liars : ByteArray := prog_1_method_25_code
def yX10_liars : MethodName := ⟨RX10, "liars", "(I)I"⟩
abbrev cX10_fits : ByteArray := prog_1_method_26_code
def yX10_fits : MethodName := ⟨RX10, "fits", "(I)I"⟩
abbrev cX10_untold : ByteArray := prog_1_method_27_code
def yX10_untold : MethodName := ⟨RX10, "untold", "(II)I"⟩
abbrev cX10_part : ByteArray := prog_1_method_28_code
def yX10_part : MethodName := ⟨RX10, "part", "(I)I"⟩
abbrev cX10_image : ByteArray := prog_1_method_29_code
def yX10_image : MethodName := ⟨RX10, "image", "(I)I"⟩
abbrev cX10_from : ByteArray := prog_1_method_30_code
def yX10_from : MethodName := ⟨RX10, "from", "(I)I"⟩
abbrev cX10_status : ByteArray := prog_1_method_31_code
def yX10_status : MethodName := ⟨RX10, "status", "(I)I"⟩
abbrev cX10_count : ByteArray := prog_1_method_32_code
def yX10_count : MethodName := ⟨RX10, "count", "(I)I"⟩
abbrev cX10_digest : ByteArray := prog_1_method_33_code
def yX10_digest : MethodName := ⟨RX10, "digest", "()J"⟩
abbrev cX10_isPlace : ByteArray := prog_1_method_34_code
def yX10_isPlace : MethodName := ⟨RX10, "isPlace", "(II)Z"⟩
abbrev cX10_refuse : ByteArray := prog_1_method_35_code
def yX10_refuse : MethodName := ⟨RX10, "refuse", "(I)I"⟩
abbrev cX10_refuseAs : ByteArray := prog_1_method_36_code
def yX10_refuseAs : MethodName := ⟨RX10, "refuseAs", "(II)I"⟩
abbrev cX10_setFraction : ByteArray := prog_1_method_37_code
def yX10_setFraction : MethodName := ⟨RX10, "setFraction", "(II)V"⟩
def RX11 : String := "AgesTensModel"
def TX11 : u_T := fun k => match k with
  | 0 => ("AgesTensModel", "now", "[I", true)
  | 1 => ("AgesTensModel", "image0", "[I", true)
  | 2 => ("AgesTensModel", "image1", "[I", true)
  | 3 => ("AgesTensModel", "has0", "Z", false)
  | 4 => ("AgesTensModel", "has1", "Z", false)
  | 5 => ("AgesTensModel", "above", "J", false)
  | 6 => ("AgesTensModel", "below", "J", false)
  | 7 => ("AgesTensModel", "refused", "[I", true)
  | 8 => ("AgesTensModel", "year", "I", false)
  | 9 => ("AgesTensModel", "month", "I", false)
  | 10 => ("AgesTensModel", "dayIn", "I", false)
  | 11 => ("AgesTensModel", "birthYear", "[I", true)
  | 12 => ("AgesTensModel", "birthDay", "[I", true)
  | 13 => ("AgesTensModel", "ages", "[I", true)
  | 14 => ("AgesTensModel", "begins", "I", false)
  | 15 => ("AgesTensModel", "behind", "I", false)
  | 16 => ("AgesTensModel", "kind", "I", false)
  | 17 => ("AgesTensModel", "worth", "J", false)
  | 18 => ("AgesTensModel", "read", "[I", true)
  | 19 => ("AgesTensModel", "may", "[Z", true)
  | 20 => ("AgesTensModel", "best", "[I", true)
  | 21 => ("AgesTensModel", "leftSet", "I", false)
  | 22 => ("AgesTensModel", "partMany", "I", false)
  | 23 => ("AgesTensModel", "parts", "[I", true)
  | 24 => ("AgesTensModel", "agesAhead", "[I", true)
  | 25 => ("AgesTensModel", "ways", "[J", true)
  | _ => ("AgesTensModel", "more", "[J", true)
def tyX11 : Nat → FieldType := fun k => match k with
  | 0 => .array .int
  | 1 => .array .int
  | 2 => .array .int
  | 3 => .boolean
  | 4 => .boolean
  | 5 => .long
  | 6 => .long
  | 7 => .array .int
  | 8 => .int
  | 9 => .int
  | 10 => .int
  | 11 => .array .int
  | 12 => .array .int
  | 13 => .array .int
  | 14 => .int
  | 15 => .int
  | 16 => .int
  | 17 => .long
  | 18 => .array .int
  | 19 => .array .boolean
  | 20 => .array .int
  | 21 => .int
  | 22 => .int
  | 23 => .array .int
  | 24 => .array .int
  | 25 => .array .long
  | _ => .array .long
abbrev wsX110 : List Cond := u_ws RX11 TX11 27
theorem nmX11 : ∀ a, a < 27 → ∀ b, b < 27 → a ≠ b → (TX11 a).2.1 ≠ (TX11 b).2.1 := by decide +kernel
theorem tyX11_ok : ∀ k, k < 27 → parseFieldDescriptor (TX11 k).2.2.1 = some (tyX11 k) := by decide +kernel
abbrev cX11_init : ByteArray := prog_13_method_1_code
def yX11_init : MethodName := ⟨RX11, "<init>", "()V"⟩
abbrev cX11_in : ByteArray := prog_13_method_2_code
def yX11_in : MethodName := ⟨RX11, "in", "(JJJ)Z"⟩
abbrev cX11_has : ByteArray := prog_13_method_3_code
def yX11_has : MethodName := ⟨RX11, "has", "(II)Z"⟩
abbrev cX11_bad : ByteArray := prog_13_method_4_code
def yX11_bad : MethodName := ⟨RX11, "bad", "(I)I"⟩
abbrev cX11_no : ByteArray := prog_13_method_5_code
def yX11_no : MethodName := ⟨RX11, "no", "()I"⟩
abbrev cX11_full : ByteArray := prog_13_method_6_code
def yX11_full : MethodName := ⟨RX11, "full", "()I"⟩
abbrev cX11_isLeap : ByteArray := prog_13_method_7_code
def yX11_isLeap : MethodName := ⟨RX11, "isLeap", "(I)Z"⟩
abbrev cX11_monthLong : ByteArray := prog_13_method_8_code
def yX11_monthLong : MethodName := ⟨RX11, "monthLong", "(II)I"⟩
abbrev cX11_isDate : ByteArray := prog_13_method_9_code
def yX11_isDate : MethodName := ⟨RX11, "isDate", "(III)Z"⟩
abbrev cX11_yearBegin : ByteArray := prog_13_method_10_code
def yX11_yearBegin : MethodName := ⟨RX11, "yearBegin", "(I)I"⟩
abbrev cX11_numberOf : ByteArray := prog_13_method_11_code
def yX11_numberOf : MethodName := ⟨RX11, "numberOf", "(III)I"⟩
abbrev cX11_yearOf : ByteArray := prog_13_method_12_code
def yX11_yearOf : MethodName := ⟨RX11, "yearOf", "(I)I"⟩
abbrev cX11_takeApart : ByteArray := prog_13_method_13_code
def yX11_takeApart : MethodName := ⟨RX11, "takeApart", "(I)V"⟩
abbrev cX11_isDay : ByteArray := prog_13_method_14_code
def yX11_isDay : MethodName := ⟨RX11, "isDay", "(I)Z"⟩
abbrev cX11_day : ByteArray := prog_13_method_15_code
def yX11_day : MethodName := ⟨RX11, "day", "(III)I"⟩
abbrev cX11_date : ByteArray := prog_13_method_16_code
def yX11_date : MethodName := ⟨RX11, "date", "(II)I"⟩
abbrev cX11_isPerson : ByteArray := prog_13_method_17_code
def yX11_isPerson : MethodName := ⟨RX11, "isPerson", "(I)Z"⟩
abbrev cX11_isGate : ByteArray := prog_13_method_18_code
def yX11_isGate : MethodName := ⟨RX11, "isGate", "(I)Z"⟩
abbrev cX11_person : ByteArray := prog_13_method_19_code
def yX11_person : MethodName := ⟨RX11, "person", "(I)I"⟩
abbrev cX11_gate : ByteArray := prog_13_method_20_code
def yX11_gate : MethodName := ⟨RX11, "gate", "(II)I"⟩
abbrev cX11_pair : ByteArray := prog_13_method_21_code
def yX11_pair : MethodName := ⟨RX11, "pair", "(III)I"⟩
abbrev cX11_layBirths : ByteArray := prog_13_method_22_code
def yX11_layBirths : MethodName := ⟨RX11, "layBirths", "()V"⟩
abbrev cX11_layAges : ByteArray := prog_13_method_23_code
def yX11_layAges : MethodName := ⟨RX11, "layAges", "(I)V"⟩
abbrev cX11_look : ByteArray := prog_13_method_24_code
def yX11_look : MethodName := ⟨RX11, "look", "(I)V"⟩
abbrev cX11_age : ByteArray := prog_13_method_25_code
def yX11_age : MethodName := ⟨RX11, "age", "(II)I"⟩
abbrev cX11_bits : ByteArray := prog_13_method_26_code
def yX11_bits : MethodName := ⟨RX11, "bits", "(I)I"⟩
abbrev cX11_isByLaw : ByteArray := prog_13_method_27_code
def yX11_isByLaw : MethodName := ⟨RX11, "isByLaw", "(II)Z"⟩
abbrev cX11_whyNot : ByteArray := prog_13_method_28_code
def yX11_whyNot : MethodName := ⟨RX11, "whyNot", "(II)I"⟩
abbrev cX11_isCompany : ByteArray := prog_13_method_29_code
def yX11_isCompany : MethodName := ⟨RX11, "isCompany", "(I)Z"⟩
abbrev cX11_why : ByteArray := prog_13_method_30_code
def yX11_why : MethodName := ⟨RX11, "why", "(III)I"⟩
abbrev cX11_type : ByteArray := prog_13_method_31_code
def yX11_type : MethodName := ⟨RX11, "type", "(JI)I"⟩
abbrev cX11_clear : ByteArray := prog_13_method_32_code
def yX11_clear : MethodName := ⟨RX11, "clear", "()I"⟩
abbrev cX11_byteAt : ByteArray := prog_13_method_33_code
def yX11_byteAt : MethodName := ⟨RX11, "byteAt", "(I)I"⟩
abbrev cX11_nextToken : ByteArray := prog_13_method_34_code
def yX11_nextToken : MethodName := ⟨RX11, "nextToken", "()V"⟩
abbrev cX11_isNumber : ByteArray := prog_13_method_35_code
def yX11_isNumber : MethodName := ⟨RX11, "isNumber", "(II)Z"⟩
abbrev cX11_readPerson : ByteArray := prog_13_method_36_code
def yX11_readPerson : MethodName := ⟨RX11, "readPerson", "()Z"⟩
abbrev cX11_readGate : ByteArray := prog_13_method_37_code
def yX11_readGate : MethodName := ⟨RX11, "readGate", "()Z"⟩
abbrev cX11_readPair : ByteArray := prog_13_method_38_code
def yX11_readPair : MethodName := ⟨RX11, "readPair", "(I)Z"⟩
abbrev cX11_readItem : ByteArray := prog_13_method_39_code
def yX11_readItem : MethodName := ⟨RX11, "readItem", "()Z"⟩
abbrev cX11_read : ByteArray := prog_13_method_40_code
def yX11_read : MethodName := ⟨RX11, "read", "()I"⟩
abbrev cX11_can : ByteArray := prog_13_method_41_code
def yX11_can : MethodName := ⟨RX11, "can", "(IIII)I"⟩
abbrev cX11_least : ByteArray := prog_13_method_42_code
def yX11_least : MethodName := ⟨RX11, "least", "(I)I"⟩
abbrev cX11_isPart : ByteArray := prog_13_method_43_code
def yX11_isPart : MethodName := ⟨RX11, "isPart", "(II)Z"⟩
abbrev cX11_layParts : ByteArray := prog_13_method_44_code
def yX11_layParts : MethodName := ⟨RX11, "layParts", "(II)V"⟩
abbrev cX11_takeParts : ByteArray := prog_13_method_45_code
def yX11_takeParts : MethodName := ⟨RX11, "takeParts", "(I)V"⟩
abbrev cX11_isSet : ByteArray := prog_13_method_46_code
def yX11_isSet : MethodName := ⟨RX11, "isSet", "(I)Z"⟩
abbrev cX11_isLook : ByteArray := prog_13_method_47_code
def yX11_isLook : MethodName := ⟨RX11, "isLook", "(III)Z"⟩
abbrev cX11_over : ByteArray := prog_13_method_48_code
def yX11_over : MethodName := ⟨RX11, "over", "(IIII)I"⟩
abbrev cX11_parts : ByteArray := prog_13_method_49_code
def yX11_parts : MethodName := ⟨RX11, "parts", "(IIII)I"⟩
abbrev cX11_lent : ByteArray := prog_13_method_50_code
def yX11_lent : MethodName := ⟨RX11, "lent", "(III)I"⟩
abbrev cX11_worth : ByteArray := prog_13_method_51_code
def yX11_worth : MethodName := ⟨RX11, "worth", "(III)I"⟩
abbrev cX11_dates : ByteArray := prog_13_method_52_code
def yX11_dates : MethodName := ⟨RX11, "dates", "(III)I"⟩
abbrev cX11_next : ByteArray := prog_13_method_53_code
def yX11_next : MethodName := ⟨RX11, "next", "(III)I"⟩
abbrev cX11_areOther : ByteArray := prog_13_method_54_code
def yX11_areOther : MethodName := ⟨RX11, "areOther", "()Z"⟩
abbrev cX11_leavesNobody : ByteArray := prog_13_method_55_code
def yX11_leavesNobody : MethodName := ⟨RX11, "leavesNobody", "(II)Z"⟩
abbrev cX11_wedding : ByteArray := prog_13_method_56_code
def yX11_wedding : MethodName := ⟨RX11, "wedding", "(IIII)I"⟩
abbrev cX11_crowd : ByteArray := prog_13_method_57_code
def yX11_crowd : MethodName := ⟨RX11, "crowd", "(II)I"⟩
abbrev cX11_choose : ByteArray := prog_13_method_58_code
def yX11_choose : MethodName := ⟨RX11, "choose", "(II)I"⟩
abbrev cX11_layWays : ByteArray := prog_13_method_59_code
def yX11_layWays : MethodName := ⟨RX11, "layWays", "()V"⟩
abbrev cX11_tens : ByteArray := prog_13_method_60_code
def yX11_tens : MethodName := ⟨RX11, "tens", "(I)J"⟩
abbrev cX11_spare : ByteArray := prog_13_method_61_code
def yX11_spare : MethodName := ⟨RX11, "spare", "()I"⟩
abbrev cX11_passing : ByteArray := prog_13_method_62_code
def yX11_passing : MethodName := ⟨RX11, "passing", "(IIZ)I"⟩
abbrev cX11_forget : ByteArray := prog_13_method_63_code
def yX11_forget : MethodName := ⟨RX11, "forget", "()I"⟩
abbrev cX11_liars : ByteArray := prog_13_method_64_code
def yX11_liars : MethodName := ⟨RX11, "liars", "(I)I"⟩
abbrev cX11_figure : ByteArray := prog_13_method_65_code
def yX11_figure : MethodName := ⟨RX11, "figure", "(II)I"⟩
abbrev cX11_fitsAll : ByteArray := prog_13_method_66_code
def yX11_fitsAll : MethodName := ⟨RX11, "fitsAll", "(I)Z"⟩
abbrev cX11_fits : ByteArray := prog_13_method_67_code
def yX11_fits : MethodName := ⟨RX11, "fits", "(I)I"⟩
abbrev cX11_untold : ByteArray := prog_13_method_68_code
def yX11_untold : MethodName := ⟨RX11, "untold", "(II)I"⟩
abbrev cX11_part : ByteArray := prog_13_method_69_code
def yX11_part : MethodName := ⟨RX11, "part", "(I)I"⟩
abbrev cX11_image : ByteArray := prog_13_method_70_code
def yX11_image : MethodName := ⟨RX11, "image", "(I)I"⟩
abbrev cX11_from : ByteArray := prog_13_method_71_code
def yX11_from : MethodName := ⟨RX11, "from", "(I)I"⟩
abbrev cX11_status : ByteArray := prog_13_method_72_code
def yX11_status : MethodName := ⟨RX11, "status", "(I)I"⟩
abbrev cX11_count : ByteArray := prog_13_method_73_code
def yX11_count : MethodName := ⟨RX11, "count", "(I)I"⟩
abbrev cX11_digest : ByteArray := prog_13_method_74_code
def yX11_digest : MethodName := ⟨RX11, "digest", "()J"⟩
def RJ6 : String := "java/lang/Integer"
def TJ6 : u_T := fun k => match k with
  | _ => ("", "", "", false)
def tyJ6 : Nat → FieldType := fun k => match k with
  | _ => .int
abbrev wsJ60 : List Cond := u_ws RJ6 TJ6 0
theorem nmJ6 : ∀ a, a < 0 → ∀ b, b < 0 → a ≠ b → (TJ6 a).2.1 ≠ (TJ6 b).2.1 := by decide +kernel
theorem tyJ6_ok : ∀ k, k < 0 → parseFieldDescriptor (TJ6 k).2.2.1 = some (tyJ6 k) := by decide +kernel
abbrev cJ6_bitCount_0f7a4 : ByteArray := prog_14_method_49_code
def yJ6_bitCount_0f7a4 : MethodName := ⟨RJ6, "bitCount", "(I)I"⟩
def RJ9 : String := "java/lang/Math"
def TJ9 : u_T := fun k => match k with
  | _ => ("", "", "", false)
def tyJ9 : Nat → FieldType := fun k => match k with
  | _ => .int
abbrev wsJ90 : List Cond := u_ws RJ9 TJ9 0
theorem nmJ9 : ∀ a, a < 0 → ∀ b, b < 0 → a ≠ b → (TJ9 a).2.1 ≠ (TJ9 b).2.1 := by decide +kernel
theorem tyJ9_ok : ∀ k, k < 0 → parseFieldDescriptor (TJ9 k).2.2.1 = some (tyJ9 k) := by decide +kernel
abbrev cJ9_min_7cf53 : ByteArray := prog_15_method_69_code
def yJ9_min_7cf53 : MethodName := ⟨RJ9, "min", "(II)I"⟩
def RJ0 : String := "java/lang/String"
def TJ0 : u_T := fun k => match k with
  | _ => ("", "", "", false)
def tyJ0 : Nat → FieldType := fun k => match k with
  | _ => .int
abbrev wsJ00 : List Cond := u_ws RJ0 TJ0 0
theorem nmJ0 : ∀ a, a < 0 → ∀ b, b < 0 → a ≠ b → (TJ0 a).2.1 ≠ (TJ0 b).2.1 := by decide +kernel
theorem tyJ0_ok : ∀ k, k < 0 → parseFieldDescriptor (TJ0 k).2.2.1 = some (tyJ0 k) := by decide +kernel
abbrev cJ0_length_8abf5 : ByteArray := prog_16_method_54_code
def yJ0_length_8abf5 : MethodName := ⟨RJ0, "length", "()I"⟩
abbrev cJ0_charAt_5068e : ByteArray := prog_16_method_56_code
def yJ0_charAt_5068e : MethodName := ⟨RJ0, "charAt", "(I)C"⟩
abbrev cJ0_coder_7d493 : ByteArray := prog_16_method_152_code
def yJ0_coder_7d493 : MethodName := ⟨RJ0, "coder", "()B"⟩
abbrev cJ0_isLatin1_aae02 : ByteArray := prog_16_method_154_code
def yJ0_isLatin1_aae02 : MethodName := ⟨RJ0, "isLatin1", "()Z"⟩
abbrev cJ0_checkIndex_df160 : ByteArray := prog_16_method_155_code
def yJ0_checkIndex_df160 : MethodName := ⟨RJ0, "checkIndex", "(II)V"⟩
def RJ1 : String := "java/lang/StringLatin1"
def TJ1 : u_T := fun k => match k with
  | _ => ("", "", "", false)
def tyJ1 : Nat → FieldType := fun k => match k with
  | _ => .int
abbrev wsJ10 : List Cond := u_ws RJ1 TJ1 0
theorem nmJ1 : ∀ a, a < 0 → ∀ b, b < 0 → a ≠ b → (TJ1 a).2.1 ≠ (TJ1 b).2.1 := by decide +kernel
theorem tyJ1_ok : ∀ k, k < 0 → parseFieldDescriptor (TJ1 k).2.2.1 = some (tyJ1 k) := by decide +kernel
abbrev cJ1_charAt_3b067 : ByteArray := prog_17_method_2_code
def yJ1_charAt_3b067 : MethodName := ⟨RJ1, "charAt", "([BI)C"⟩
def RJ2 : String := "java/lang/StringUTF16"
def TJ2 : u_T := fun k => match k with
  | _ => ("", "", "", false)
def tyJ2 : Nat → FieldType := fun k => match k with
  | _ => .int
abbrev wsJ20 : List Cond := u_ws RJ2 TJ2 0
theorem nmJ2 : ∀ a, a < 0 → ∀ b, b < 0 → a ≠ b → (TJ2 a).2.1 ≠ (TJ2 b).2.1 := by decide +kernel
theorem tyJ2_ok : ∀ k, k < 0 → parseFieldDescriptor (TJ2 k).2.2.1 = some (tyJ2 k) := by decide +kernel
abbrev cJ2_getChar_3b067 : ByteArray := prog_18_method_5_code
def yJ2_getChar_3b067 : MethodName := ⟨RJ2, "getChar", "([BI)C"⟩
abbrev cJ2_length_9d52b : ByteArray := prog_18_method_6_code
def yJ2_length_9d52b : MethodName := ⟨RJ2, "length", "([B)I"⟩
abbrev cJ2_charAt_3b067 : ByteArray := prog_18_method_83_code
def yJ2_charAt_3b067 : MethodName := ⟨RJ2, "charAt", "([BI)C"⟩
abbrev cJ2_checkIndex_2214a : ByteArray := prog_18_method_91_code
def yJ2_checkIndex_2214a : MethodName := ⟨RJ2, "checkIndex", "(I[B)V"⟩
def RJ10 : String := "java/lang/System"
def TJ10 : u_T := fun k => match k with
  | _ => ("", "", "", false)
def tyJ10 : Nat → FieldType := fun k => match k with
  | _ => .int
abbrev wsJ100 : List Cond := u_ws RJ10 TJ10 0
theorem nmJ10 : ∀ a, a < 0 → ∀ b, b < 0 → a ≠ b → (TJ10 a).2.1 ≠ (TJ10 b).2.1 := by decide +kernel
theorem tyJ10_ok : ∀ k, k < 0 → parseFieldDescriptor (TJ10 k).2.2.1 = some (tyJ10 k) := by decide +kernel
def RJ3 : String := "jdk/internal/util/Preconditions"
def TJ3 : u_T := fun k => match k with
  | _ => ("", "", "", false)
def tyJ3 : Nat → FieldType := fun k => match k with
  | _ => .int
abbrev wsJ30 : List Cond := u_ws RJ3 TJ3 0
theorem nmJ3 : ∀ a, a < 0 → ∀ b, b < 0 → a ≠ b → (TJ3 a).2.1 ≠ (TJ3 b).2.1 := by decide +kernel
theorem tyJ3_ok : ∀ k, k < 0 → parseFieldDescriptor (TJ3 k).2.2.1 = some (tyJ3 k) := by decide +kernel
abbrev cJ3_checkIndex_8e157 : ByteArray := prog_20_method_11_code
def yJ3_checkIndex_8e157 : MethodName := ⟨RJ3, "checkIndex", "(IILjava/util/function/BiFunction;)I"⟩
def RL : String := "AgesTensLaw"
abbrev cL_law : ByteArray := code
def yL_law : MethodName := ⟨RL, "law", "([I)Z"⟩
abbrev vwCl : List vw_C := [(RX0, TX0, 2), (RX2, TX2, 6), (RX3, TX3, 3), (RX4, TX4, 6), (RX5, TX5, 6), (RX6, TX6, 6), (RX7, TX7, 9), (RX8, TX8, 4), (RX9, TX9, 2), (RX10, TX10, 14), (RX11, TX11, 27)]
end
section
theorem dX0_init_0 : decode cX0_init 0 = .ok (.aload_n 0, 1) := by decide +kernel
theorem dX0_init_1 : decode cX0_init 1 = .ok (.invokespecial 3, 3) := by decide +kernel
theorem dX0_init_4 : decode cX0_init 4 = .ok (.aload_n 0, 1) := by decide +kernel
theorem dX0_init_5 : decode cX0_init 5 = .ok (.sipush 200, 3) := by decide +kernel
theorem dX0_init_8 : decode cX0_init 8 = .ok (.newarray .int, 2) := by decide +kernel
theorem dX0_init_10 : decode cX0_init 10 = .ok (.putfield 11, 3) := by decide +kernel
theorem dX0_init_13 : decode cX0_init 13 = .ok (.return_, 1) := by decide +kernel
theorem dX0_append_0 : decode cX0_append 0 = .ok (.iload_n 3, 1) := by decide +kernel
theorem dX0_append_1 : decode cX0_append 1 = .ok (.iconst 1, 1) := by decide +kernel
theorem dX0_append_2 : decode cX0_append 2 = .ok (.isub, 1) := by decide +kernel
theorem dX0_append_3 : decode cX0_append 3 = .ok (.istore 4, 2) := by decide +kernel
theorem dX0_append_5 : decode cX0_append 5 = .ok (.iload 4, 2) := by decide +kernel
theorem dX0_append_7 : decode cX0_append 7 = .ok (.ifCond .lt 50, 3) := by decide +kernel
theorem dX0_append_10 : decode cX0_append 10 = .ok (.aload_n 0, 1) := by decide +kernel
theorem dX0_append_11 : decode cX0_append 11 = .ok (.getfield 15, 3) := by decide +kernel
theorem dX0_append_14 : decode cX0_append 14 = .ok (.sipush 200, 3) := by decide +kernel
theorem dX0_append_17 : decode cX0_append 17 = .ok (.if_icmp .ge 40, 3) := by decide +kernel
theorem dX0_append_20 : decode cX0_append 20 = .ok (.aload_n 0, 1) := by decide +kernel
theorem dX0_append_21 : decode cX0_append 21 = .ok (.getfield 11, 3) := by decide +kernel
theorem dX0_append_24 : decode cX0_append 24 = .ok (.aload_n 0, 1) := by decide +kernel
theorem dX0_append_25 : decode cX0_append 25 = .ok (.getfield 15, 3) := by decide +kernel
theorem dX0_append_28 : decode cX0_append 28 = .ok (.lload_n 1, 1) := by decide +kernel
theorem dX0_append_29 : decode cX0_append 29 = .ok (.bipush 8, 2) := by decide +kernel
theorem dX0_append_31 : decode cX0_append 31 = .ok (.iload 4, 2) := by decide +kernel
theorem dX0_append_33 : decode cX0_append 33 = .ok (.imul, 1) := by decide +kernel
theorem dX0_append_34 : decode cX0_append 34 = .ok (.lshr, 1) := by decide +kernel
theorem dX0_append_35 : decode cX0_append 35 = .ok (.ldc2_w 19, 3) := by decide +kernel
theorem dX0_append_38 : decode cX0_append 38 = .ok (.land, 1) := by decide +kernel
theorem dX0_append_39 : decode cX0_append 39 = .ok (.l2i, 1) := by decide +kernel
theorem dX0_append_40 : decode cX0_append 40 = .ok (.iastore, 1) := by decide +kernel
theorem dX0_append_41 : decode cX0_append 41 = .ok (.aload_n 0, 1) := by decide +kernel
theorem dX0_append_42 : decode cX0_append 42 = .ok (.dup, 1) := by decide +kernel
theorem dX0_append_43 : decode cX0_append 43 = .ok (.getfield 15, 3) := by decide +kernel
theorem dX0_append_46 : decode cX0_append 46 = .ok (.iconst 1, 1) := by decide +kernel
theorem dX0_append_47 : decode cX0_append 47 = .ok (.iadd, 1) := by decide +kernel
theorem dX0_append_48 : decode cX0_append 48 = .ok (.putfield 15, 3) := by decide +kernel
theorem dX0_append_51 : decode cX0_append 51 = .ok (.iinc 4 (-1), 3) := by decide +kernel
theorem dX0_append_54 : decode cX0_append 54 = .ok (.goto (-49), 3) := by decide +kernel
theorem dX0_append_57 : decode cX0_append 57 = .ok (.aload_n 0, 1) := by decide +kernel
theorem dX0_append_58 : decode cX0_append 58 = .ok (.getfield 15, 3) := by decide +kernel
theorem dX0_append_61 : decode cX0_append 61 = .ok (.ireturn, 1) := by decide +kernel
theorem dX0_at_0 : decode cX0_at 0 = .ok (.iload_n 1, 1) := by decide +kernel
theorem dX0_at_1 : decode cX0_at 1 = .ok (.ifCond .lt 20, 3) := by decide +kernel
theorem dX0_at_4 : decode cX0_at 4 = .ok (.iload_n 1, 1) := by decide +kernel
theorem dX0_at_5 : decode cX0_at 5 = .ok (.aload_n 0, 1) := by decide +kernel
theorem dX0_at_6 : decode cX0_at 6 = .ok (.getfield 15, 3) := by decide +kernel
theorem dX0_at_9 : decode cX0_at 9 = .ok (.if_icmp .ge 12, 3) := by decide +kernel
theorem dX0_at_12 : decode cX0_at 12 = .ok (.aload_n 0, 1) := by decide +kernel
theorem dX0_at_13 : decode cX0_at 13 = .ok (.getfield 11, 3) := by decide +kernel
theorem dX0_at_16 : decode cX0_at 16 = .ok (.iload_n 1, 1) := by decide +kernel
theorem dX0_at_17 : decode cX0_at 17 = .ok (.iaload, 1) := by decide +kernel
theorem dX0_at_18 : decode cX0_at 18 = .ok (.goto 4, 3) := by decide +kernel
theorem dX0_at_21 : decode cX0_at 21 = .ok (.iconst (-1), 1) := by decide +kernel
theorem dX0_at_22 : decode cX0_at 22 = .ok (.ireturn, 1) := by decide +kernel
theorem dX0_copyFrom_0 : decode cX0_copyFrom 0 = .ok (.aload_n 0, 1) := by decide +kernel
theorem dX0_copyFrom_1 : decode cX0_copyFrom 1 = .ok (.aload_n 1, 1) := by decide +kernel
theorem dX0_copyFrom_2 : decode cX0_copyFrom 2 = .ok (.getfield 15, 3) := by decide +kernel
theorem dX0_copyFrom_5 : decode cX0_copyFrom 5 = .ok (.putfield 15, 3) := by decide +kernel
theorem dX0_copyFrom_8 : decode cX0_copyFrom 8 = .ok (.aload_n 1, 1) := by decide +kernel
theorem dX0_copyFrom_9 : decode cX0_copyFrom 9 = .ok (.getfield 11, 3) := by decide +kernel
theorem dX0_copyFrom_12 : decode cX0_copyFrom 12 = .ok (.iconst 0, 1) := by decide +kernel
theorem dX0_copyFrom_13 : decode cX0_copyFrom 13 = .ok (.aload_n 0, 1) := by decide +kernel
theorem dX0_copyFrom_14 : decode cX0_copyFrom 14 = .ok (.getfield 11, 3) := by decide +kernel
theorem dX0_copyFrom_17 : decode cX0_copyFrom 17 = .ok (.iconst 0, 1) := by decide +kernel
theorem dX0_copyFrom_18 : decode cX0_copyFrom 18 = .ok (.sipush 200, 3) := by decide +kernel
theorem dX0_copyFrom_21 : decode cX0_copyFrom 21 = .ok (.invokestatic 21, 3) := by decide +kernel
theorem dX0_copyFrom_24 : decode cX0_copyFrom 24 = .ok (.return_, 1) := by decide +kernel
theorem dX1_isDay_0 : decode cX1_isDay 0 = .ok (.iload_n 0, 1) := by decide +kernel
theorem dX1_isDay_1 : decode cX1_isDay 1 = .ok (.ifCond .lt 13, 3) := by decide +kernel
theorem dX1_isDay_4 : decode cX1_isDay 4 = .ok (.iload_n 0, 1) := by decide +kernel
theorem dX1_isDay_5 : decode cX1_isDay 5 = .ok (.ldc 9, 2) := by decide +kernel
theorem dX1_isDay_7 : decode cX1_isDay 7 = .ok (.if_icmp .gt 7, 3) := by decide +kernel
theorem dX1_isDay_10 : decode cX1_isDay 10 = .ok (.iconst 1, 1) := by decide +kernel
theorem dX1_isDay_11 : decode cX1_isDay 11 = .ok (.goto 4, 3) := by decide +kernel
theorem dX1_isDay_14 : decode cX1_isDay 14 = .ok (.iconst 0, 1) := by decide +kernel
theorem dX1_isDay_15 : decode cX1_isDay 15 = .ok (.ireturn, 1) := by decide +kernel
theorem dX1_isYear_0 : decode cX1_isYear 0 = .ok (.iload_n 0, 1) := by decide +kernel
theorem dX1_isYear_1 : decode cX1_isYear 1 = .ok (.sipush 1800, 3) := by decide +kernel
theorem dX1_isYear_4 : decode cX1_isYear 4 = .ok (.if_icmp .lt 14, 3) := by decide +kernel
theorem dX1_isYear_7 : decode cX1_isYear 7 = .ok (.iload_n 0, 1) := by decide +kernel
theorem dX1_isYear_8 : decode cX1_isYear 8 = .ok (.sipush 2199, 3) := by decide +kernel
theorem dX1_isYear_11 : decode cX1_isYear 11 = .ok (.if_icmp .gt 7, 3) := by decide +kernel
theorem dX1_isYear_14 : decode cX1_isYear 14 = .ok (.iconst 1, 1) := by decide +kernel
theorem dX1_isYear_15 : decode cX1_isYear 15 = .ok (.goto 4, 3) := by decide +kernel
theorem dX1_isYear_18 : decode cX1_isYear 18 = .ok (.iconst 0, 1) := by decide +kernel
theorem dX1_isYear_19 : decode cX1_isYear 19 = .ok (.ireturn, 1) := by decide +kernel
theorem dX1_has_0 : decode cX1_has 0 = .ok (.iload_n 0, 1) := by decide +kernel
theorem dX1_has_1 : decode cX1_has 1 = .ok (.invokestatic 10, 3) := by decide +kernel
theorem dX1_has_4 : decode cX1_has 4 = .ok (.ifCond .eq 32, 3) := by decide +kernel
theorem dX1_has_7 : decode cX1_has 7 = .ok (.iload_n 1, 1) := by decide +kernel
theorem dX1_has_8 : decode cX1_has 8 = .ok (.iconst 1, 1) := by decide +kernel
theorem dX1_has_9 : decode cX1_has 9 = .ok (.if_icmp .lt 27, 3) := by decide +kernel
theorem dX1_has_12 : decode cX1_has 12 = .ok (.iload_n 1, 1) := by decide +kernel
theorem dX1_has_13 : decode cX1_has 13 = .ok (.bipush 12, 2) := by decide +kernel
theorem dX1_has_15 : decode cX1_has 15 = .ok (.if_icmp .gt 21, 3) := by decide +kernel
theorem dX1_has_18 : decode cX1_has 18 = .ok (.iload_n 2, 1) := by decide +kernel
theorem dX1_has_19 : decode cX1_has 19 = .ok (.iconst 1, 1) := by decide +kernel
theorem dX1_has_20 : decode cX1_has 20 = .ok (.if_icmp .lt 16, 3) := by decide +kernel
theorem dX1_has_23 : decode cX1_has 23 = .ok (.iload_n 2, 1) := by decide +kernel
theorem dX1_has_24 : decode cX1_has 24 = .ok (.iload_n 0, 1) := by decide +kernel
theorem dX1_has_25 : decode cX1_has 25 = .ok (.iload_n 1, 1) := by decide +kernel
theorem dX1_has_26 : decode cX1_has 26 = .ok (.invokestatic 14, 3) := by decide +kernel
theorem dX1_has_29 : decode cX1_has 29 = .ok (.if_icmp .gt 7, 3) := by decide +kernel
theorem dX1_has_32 : decode cX1_has 32 = .ok (.iconst 1, 1) := by decide +kernel
theorem dX1_has_33 : decode cX1_has 33 = .ok (.goto 4, 3) := by decide +kernel
theorem dX1_has_36 : decode cX1_has 36 = .ok (.iconst 0, 1) := by decide +kernel
theorem dX1_has_37 : decode cX1_has 37 = .ok (.ireturn, 1) := by decide +kernel
theorem dX1_isLeap_0 : decode cX1_isLeap 0 = .ok (.iload_n 0, 1) := by decide +kernel
theorem dX1_isLeap_1 : decode cX1_isLeap 1 = .ok (.iconst 4, 1) := by decide +kernel
theorem dX1_isLeap_2 : decode cX1_isLeap 2 = .ok (.irem, 1) := by decide +kernel
theorem dX1_isLeap_3 : decode cX1_isLeap 3 = .ok (.ifCond .ne 22, 3) := by decide +kernel
theorem dX1_isLeap_6 : decode cX1_isLeap 6 = .ok (.iload_n 0, 1) := by decide +kernel
theorem dX1_isLeap_7 : decode cX1_isLeap 7 = .ok (.bipush 100, 2) := by decide +kernel
theorem dX1_isLeap_9 : decode cX1_isLeap 9 = .ok (.irem, 1) := by decide +kernel
theorem dX1_isLeap_10 : decode cX1_isLeap 10 = .ok (.ifCond .ne 11, 3) := by decide +kernel
theorem dX1_isLeap_13 : decode cX1_isLeap 13 = .ok (.iload_n 0, 1) := by decide +kernel
theorem dX1_isLeap_14 : decode cX1_isLeap 14 = .ok (.sipush 400, 3) := by decide +kernel
theorem dX1_isLeap_17 : decode cX1_isLeap 17 = .ok (.irem, 1) := by decide +kernel
theorem dX1_isLeap_18 : decode cX1_isLeap 18 = .ok (.ifCond .ne 7, 3) := by decide +kernel
theorem dX1_isLeap_21 : decode cX1_isLeap 21 = .ok (.iconst 1, 1) := by decide +kernel
theorem dX1_isLeap_22 : decode cX1_isLeap 22 = .ok (.goto 4, 3) := by decide +kernel
theorem dX1_isLeap_25 : decode cX1_isLeap 25 = .ok (.iconst 0, 1) := by decide +kernel
theorem dX1_isLeap_26 : decode cX1_isLeap 26 = .ok (.ireturn, 1) := by decide +kernel
theorem dX1_daysOfMonth_0 : decode cX1_daysOfMonth 0 = .ok (.iload_n 1, 1) := by decide +kernel
theorem dX1_daysOfMonth_1 : decode cX1_daysOfMonth 1 = .ok (.iconst 1, 1) := by decide +kernel
theorem dX1_daysOfMonth_2 : decode cX1_daysOfMonth 2 = .ok (.iadd, 1) := by decide +kernel
theorem dX1_daysOfMonth_3 : decode cX1_daysOfMonth 3 = .ok (.invokestatic 18, 3) := by decide +kernel
theorem dX1_daysOfMonth_6 : decode cX1_daysOfMonth 6 = .ok (.iload_n 1, 1) := by decide +kernel
theorem dX1_daysOfMonth_7 : decode cX1_daysOfMonth 7 = .ok (.invokestatic 18, 3) := by decide +kernel
theorem dX1_daysOfMonth_10 : decode cX1_daysOfMonth 10 = .ok (.isub, 1) := by decide +kernel
theorem dX1_daysOfMonth_11 : decode cX1_daysOfMonth 11 = .ok (.istore_n 2, 1) := by decide +kernel
theorem dX1_daysOfMonth_12 : decode cX1_daysOfMonth 12 = .ok (.iload_n 1, 1) := by decide +kernel
theorem dX1_daysOfMonth_13 : decode cX1_daysOfMonth 13 = .ok (.iconst 2, 1) := by decide +kernel
theorem dX1_daysOfMonth_14 : decode cX1_daysOfMonth 14 = .ok (.if_icmp .ne 16, 3) := by decide +kernel
theorem dX1_daysOfMonth_17 : decode cX1_daysOfMonth 17 = .ok (.iload_n 0, 1) := by decide +kernel
theorem dX1_daysOfMonth_18 : decode cX1_daysOfMonth 18 = .ok (.invokestatic 22, 3) := by decide +kernel
theorem dX1_daysOfMonth_21 : decode cX1_daysOfMonth 21 = .ok (.ifCond .ne 9, 3) := by decide +kernel
theorem dX1_daysOfMonth_24 : decode cX1_daysOfMonth 24 = .ok (.iload_n 2, 1) := by decide +kernel
theorem dX1_daysOfMonth_25 : decode cX1_daysOfMonth 25 = .ok (.iconst 1, 1) := by decide +kernel
theorem dX1_daysOfMonth_26 : decode cX1_daysOfMonth 26 = .ok (.isub, 1) := by decide +kernel
theorem dX1_daysOfMonth_27 : decode cX1_daysOfMonth 27 = .ok (.goto 4, 3) := by decide +kernel
theorem dX1_daysOfMonth_30 : decode cX1_daysOfMonth 30 = .ok (.iload_n 2, 1) := by decide +kernel
theorem dX1_daysOfMonth_31 : decode cX1_daysOfMonth 31 = .ok (.ireturn, 1) := by decide +kernel
theorem dX1_placeOfMonth_0 : decode cX1_placeOfMonth 0 = .ok (.iload_n 0, 1) := by decide +kernel
theorem dX1_placeOfMonth_1 : decode cX1_placeOfMonth 1 = .ok (.iconst 1, 1) := by decide +kernel
theorem dX1_placeOfMonth_2 : decode cX1_placeOfMonth 2 = .ok (.if_icmp .lt 19, 3) := by decide +kernel
theorem dX1_placeOfMonth_5 : decode cX1_placeOfMonth 5 = .ok (.iload_n 0, 1) := by decide +kernel
theorem dX1_placeOfMonth_6 : decode cX1_placeOfMonth 6 = .ok (.bipush 13, 2) := by decide +kernel
theorem dX1_placeOfMonth_8 : decode cX1_placeOfMonth 8 = .ok (.if_icmp .gt 13, 3) := by decide +kernel
theorem dX1_placeOfMonth_11 : decode cX1_placeOfMonth 11 = .ok (.getstatic 25, 3) := by decide +kernel
theorem dX1_placeOfMonth_14 : decode cX1_placeOfMonth 14 = .ok (.iload_n 0, 1) := by decide +kernel
theorem dX1_placeOfMonth_15 : decode cX1_placeOfMonth 15 = .ok (.iconst 1, 1) := by decide +kernel
theorem dX1_placeOfMonth_16 : decode cX1_placeOfMonth 16 = .ok (.isub, 1) := by decide +kernel
theorem dX1_placeOfMonth_17 : decode cX1_placeOfMonth 17 = .ok (.iaload, 1) := by decide +kernel
theorem dX1_placeOfMonth_18 : decode cX1_placeOfMonth 18 = .ok (.goto 4, 3) := by decide +kernel
theorem dX1_placeOfMonth_21 : decode cX1_placeOfMonth 21 = .ok (.iconst 0, 1) := by decide +kernel
theorem dX1_placeOfMonth_22 : decode cX1_placeOfMonth 22 = .ok (.ireturn, 1) := by decide +kernel
theorem dX1_firstDayOf_0 : decode cX1_firstDayOf 0 = .ok (.iload_n 0, 1) := by decide +kernel
theorem dX1_firstDayOf_1 : decode cX1_firstDayOf 1 = .ok (.iconst 1, 1) := by decide +kernel
theorem dX1_firstDayOf_2 : decode cX1_firstDayOf 2 = .ok (.isub, 1) := by decide +kernel
theorem dX1_firstDayOf_3 : decode cX1_firstDayOf 3 = .ok (.istore_n 1, 1) := by decide +kernel
theorem dX1_firstDayOf_4 : decode cX1_firstDayOf 4 = .ok (.iload_n 1, 1) := by decide +kernel
theorem dX1_firstDayOf_5 : decode cX1_firstDayOf 5 = .ok (.iconst 4, 1) := by decide +kernel
theorem dX1_firstDayOf_6 : decode cX1_firstDayOf 6 = .ok (.idiv, 1) := by decide +kernel
theorem dX1_firstDayOf_7 : decode cX1_firstDayOf 7 = .ok (.iload_n 1, 1) := by decide +kernel
theorem dX1_firstDayOf_8 : decode cX1_firstDayOf 8 = .ok (.bipush 100, 2) := by decide +kernel
theorem dX1_firstDayOf_10 : decode cX1_firstDayOf 10 = .ok (.idiv, 1) := by decide +kernel
theorem dX1_firstDayOf_11 : decode cX1_firstDayOf 11 = .ok (.isub, 1) := by decide +kernel
theorem dX1_firstDayOf_12 : decode cX1_firstDayOf 12 = .ok (.iload_n 1, 1) := by decide +kernel
theorem dX1_firstDayOf_13 : decode cX1_firstDayOf 13 = .ok (.sipush 400, 3) := by decide +kernel
theorem dX1_firstDayOf_16 : decode cX1_firstDayOf 16 = .ok (.idiv, 1) := by decide +kernel
theorem dX1_firstDayOf_17 : decode cX1_firstDayOf 17 = .ok (.iadd, 1) := by decide +kernel
theorem dX1_firstDayOf_18 : decode cX1_firstDayOf 18 = .ok (.istore_n 2, 1) := by decide +kernel
theorem dX1_firstDayOf_19 : decode cX1_firstDayOf 19 = .ok (.sipush 365, 3) := by decide +kernel
theorem dX1_firstDayOf_22 : decode cX1_firstDayOf 22 = .ok (.iload_n 0, 1) := by decide +kernel
theorem dX1_firstDayOf_23 : decode cX1_firstDayOf 23 = .ok (.sipush 1800, 3) := by decide +kernel
theorem dX1_firstDayOf_26 : decode cX1_firstDayOf 26 = .ok (.isub, 1) := by decide +kernel
theorem dX1_firstDayOf_27 : decode cX1_firstDayOf 27 = .ok (.imul, 1) := by decide +kernel
theorem dX1_firstDayOf_28 : decode cX1_firstDayOf 28 = .ok (.iload_n 2, 1) := by decide +kernel
theorem dX1_firstDayOf_29 : decode cX1_firstDayOf 29 = .ok (.iadd, 1) := by decide +kernel
theorem dX1_firstDayOf_30 : decode cX1_firstDayOf 30 = .ok (.sipush 436, 3) := by decide +kernel
theorem dX1_firstDayOf_33 : decode cX1_firstDayOf 33 = .ok (.isub, 1) := by decide +kernel
theorem dX1_firstDayOf_34 : decode cX1_firstDayOf 34 = .ok (.ireturn, 1) := by decide +kernel
theorem dX1_numberOf_0 : decode cX1_numberOf 0 = .ok (.iload_n 0, 1) := by decide +kernel
theorem dX1_numberOf_1 : decode cX1_numberOf 1 = .ok (.iload_n 1, 1) := by decide +kernel
theorem dX1_numberOf_2 : decode cX1_numberOf 2 = .ok (.invokestatic 18, 3) := by decide +kernel
theorem dX1_numberOf_5 : decode cX1_numberOf 5 = .ok (.iload_n 2, 1) := by decide +kernel
theorem dX1_numberOf_6 : decode cX1_numberOf 6 = .ok (.iadd, 1) := by decide +kernel
theorem dX1_numberOf_7 : decode cX1_numberOf 7 = .ok (.iconst 1, 1) := by decide +kernel
theorem dX1_numberOf_8 : decode cX1_numberOf 8 = .ok (.isub, 1) := by decide +kernel
theorem dX1_numberOf_9 : decode cX1_numberOf 9 = .ok (.invokestatic 29, 3) := by decide +kernel
theorem dX1_numberOf_12 : decode cX1_numberOf 12 = .ok (.ireturn, 1) := by decide +kernel
theorem dX1_dayInYear_0 : decode cX1_dayInYear 0 = .ok (.iload_n 1, 1) := by decide +kernel
theorem dX1_dayInYear_1 : decode cX1_dayInYear 1 = .ok (.bipush 59, 2) := by decide +kernel
theorem dX1_dayInYear_3 : decode cX1_dayInYear 3 = .ok (.if_icmp .le 16, 3) := by decide +kernel
theorem dX1_dayInYear_6 : decode cX1_dayInYear 6 = .ok (.iload_n 0, 1) := by decide +kernel
theorem dX1_dayInYear_7 : decode cX1_dayInYear 7 = .ok (.invokestatic 22, 3) := by decide +kernel
theorem dX1_dayInYear_10 : decode cX1_dayInYear 10 = .ok (.ifCond .ne 9, 3) := by decide +kernel
theorem dX1_dayInYear_13 : decode cX1_dayInYear 13 = .ok (.iload_n 1, 1) := by decide +kernel
theorem dX1_dayInYear_14 : decode cX1_dayInYear 14 = .ok (.iconst 1, 1) := by decide +kernel
theorem dX1_dayInYear_15 : decode cX1_dayInYear 15 = .ok (.isub, 1) := by decide +kernel
theorem dX1_dayInYear_16 : decode cX1_dayInYear 16 = .ok (.goto 4, 3) := by decide +kernel
theorem dX1_dayInYear_19 : decode cX1_dayInYear 19 = .ok (.iload_n 1, 1) := by decide +kernel
theorem dX1_dayInYear_20 : decode cX1_dayInYear 20 = .ok (.istore_n 2, 1) := by decide +kernel
theorem dX1_dayInYear_21 : decode cX1_dayInYear 21 = .ok (.iload_n 0, 1) := by decide +kernel
theorem dX1_dayInYear_22 : decode cX1_dayInYear 22 = .ok (.invokestatic 32, 3) := by decide +kernel
theorem dX1_dayInYear_25 : decode cX1_dayInYear 25 = .ok (.iload_n 2, 1) := by decide +kernel
theorem dX1_dayInYear_26 : decode cX1_dayInYear 26 = .ok (.iadd, 1) := by decide +kernel
theorem dX1_dayInYear_27 : decode cX1_dayInYear 27 = .ok (.ireturn, 1) := by decide +kernel
theorem dX1_yearOf_0 : decode cX1_yearOf 0 = .ok (.sipush 1800, 3) := by decide +kernel
theorem dX1_yearOf_3 : decode cX1_yearOf 3 = .ok (.iload_n 0, 1) := by decide +kernel
theorem dX1_yearOf_4 : decode cX1_yearOf 4 = .ok (.sipush 366, 3) := by decide +kernel
theorem dX1_yearOf_7 : decode cX1_yearOf 7 = .ok (.idiv, 1) := by decide +kernel
theorem dX1_yearOf_8 : decode cX1_yearOf 8 = .ok (.iadd, 1) := by decide +kernel
theorem dX1_yearOf_9 : decode cX1_yearOf 9 = .ok (.istore_n 1, 1) := by decide +kernel
theorem dX1_yearOf_10 : decode cX1_yearOf 10 = .ok (.iconst 0, 1) := by decide +kernel
theorem dX1_yearOf_11 : decode cX1_yearOf 11 = .ok (.istore_n 2, 1) := by decide +kernel
theorem dX1_yearOf_12 : decode cX1_yearOf 12 = .ok (.iload_n 2, 1) := by decide +kernel
theorem dX1_yearOf_13 : decode cX1_yearOf 13 = .ok (.iconst 2, 1) := by decide +kernel
theorem dX1_yearOf_14 : decode cX1_yearOf 14 = .ok (.if_icmp .ge 22, 3) := by decide +kernel
theorem dX1_yearOf_17 : decode cX1_yearOf 17 = .ok (.iload_n 1, 1) := by decide +kernel
theorem dX1_yearOf_18 : decode cX1_yearOf 18 = .ok (.iconst 1, 1) := by decide +kernel
theorem dX1_yearOf_19 : decode cX1_yearOf 19 = .ok (.iadd, 1) := by decide +kernel
theorem dX1_yearOf_20 : decode cX1_yearOf 20 = .ok (.invokestatic 32, 3) := by decide +kernel
theorem dX1_yearOf_23 : decode cX1_yearOf 23 = .ok (.iload_n 0, 1) := by decide +kernel
theorem dX1_yearOf_24 : decode cX1_yearOf 24 = .ok (.if_icmp .gt 12, 3) := by decide +kernel
theorem dX1_yearOf_27 : decode cX1_yearOf 27 = .ok (.iinc 1 1, 3) := by decide +kernel
theorem dX1_yearOf_30 : decode cX1_yearOf 30 = .ok (.iinc 2 1, 3) := by decide +kernel
theorem dX1_yearOf_33 : decode cX1_yearOf 33 = .ok (.goto (-21), 3) := by decide +kernel
theorem dX1_yearOf_36 : decode cX1_yearOf 36 = .ok (.iload_n 1, 1) := by decide +kernel
theorem dX1_yearOf_37 : decode cX1_yearOf 37 = .ok (.ireturn, 1) := by decide +kernel
theorem dX1_placeOf_0 : decode cX1_placeOf 0 = .ok (.iload_n 0, 1) := by decide +kernel
theorem dX1_placeOf_1 : decode cX1_placeOf 1 = .ok (.iload_n 1, 1) := by decide +kernel
theorem dX1_placeOf_2 : decode cX1_placeOf 2 = .ok (.invokestatic 32, 3) := by decide +kernel
theorem dX1_placeOf_5 : decode cX1_placeOf 5 = .ok (.isub, 1) := by decide +kernel
theorem dX1_placeOf_6 : decode cX1_placeOf 6 = .ok (.istore_n 2, 1) := by decide +kernel
theorem dX1_placeOf_7 : decode cX1_placeOf 7 = .ok (.iload_n 2, 1) := by decide +kernel
theorem dX1_placeOf_8 : decode cX1_placeOf 8 = .ok (.bipush 59, 2) := by decide +kernel
theorem dX1_placeOf_10 : decode cX1_placeOf 10 = .ok (.if_icmp .lt 16, 3) := by decide +kernel
theorem dX1_placeOf_13 : decode cX1_placeOf 13 = .ok (.iload_n 1, 1) := by decide +kernel
theorem dX1_placeOf_14 : decode cX1_placeOf 14 = .ok (.invokestatic 22, 3) := by decide +kernel
theorem dX1_placeOf_17 : decode cX1_placeOf 17 = .ok (.ifCond .ne 9, 3) := by decide +kernel
theorem dX1_placeOf_20 : decode cX1_placeOf 20 = .ok (.iload_n 2, 1) := by decide +kernel
theorem dX1_placeOf_21 : decode cX1_placeOf 21 = .ok (.iconst 1, 1) := by decide +kernel
theorem dX1_placeOf_22 : decode cX1_placeOf 22 = .ok (.iadd, 1) := by decide +kernel
theorem dX1_placeOf_23 : decode cX1_placeOf 23 = .ok (.goto 4, 3) := by decide +kernel
theorem dX1_placeOf_26 : decode cX1_placeOf 26 = .ok (.iload_n 2, 1) := by decide +kernel
theorem dX1_placeOf_27 : decode cX1_placeOf 27 = .ok (.ireturn, 1) := by decide +kernel
theorem dX1_monthOf_0 : decode cX1_monthOf 0 = .ok (.iconst 1, 1) := by decide +kernel
theorem dX1_monthOf_1 : decode cX1_monthOf 1 = .ok (.istore_n 1, 1) := by decide +kernel
theorem dX1_monthOf_2 : decode cX1_monthOf 2 = .ok (.iload_n 1, 1) := by decide +kernel
theorem dX1_monthOf_3 : decode cX1_monthOf 3 = .ok (.bipush 12, 2) := by decide +kernel
theorem dX1_monthOf_5 : decode cX1_monthOf 5 = .ok (.if_icmp .ge 19, 3) := by decide +kernel
theorem dX1_monthOf_8 : decode cX1_monthOf 8 = .ok (.iload_n 1, 1) := by decide +kernel
theorem dX1_monthOf_9 : decode cX1_monthOf 9 = .ok (.iconst 1, 1) := by decide +kernel
theorem dX1_monthOf_10 : decode cX1_monthOf 10 = .ok (.iadd, 1) := by decide +kernel
theorem dX1_monthOf_11 : decode cX1_monthOf 11 = .ok (.invokestatic 18, 3) := by decide +kernel
theorem dX1_monthOf_14 : decode cX1_monthOf 14 = .ok (.iload_n 0, 1) := by decide +kernel
theorem dX1_monthOf_15 : decode cX1_monthOf 15 = .ok (.if_icmp .gt 9, 3) := by decide +kernel
theorem dX1_monthOf_18 : decode cX1_monthOf 18 = .ok (.iinc 1 1, 3) := by decide +kernel
theorem dX1_monthOf_21 : decode cX1_monthOf 21 = .ok (.goto (-19), 3) := by decide +kernel
theorem dX1_monthOf_24 : decode cX1_monthOf 24 = .ok (.iload_n 1, 1) := by decide +kernel
theorem dX1_monthOf_25 : decode cX1_monthOf 25 = .ok (.ireturn, 1) := by decide +kernel
theorem dX2_init_0 : decode cX2_init 0 = .ok (.aload_n 0, 1) := by decide +kernel
theorem dX2_init_1 : decode cX2_init 1 = .ok (.invokespecial 3, 3) := by decide +kernel
theorem dX2_init_4 : decode cX2_init 4 = .ok (.aload_n 0, 1) := by decide +kernel
theorem dX2_init_5 : decode cX2_init 5 = .ok (.iconst 5, 1) := by decide +kernel
theorem dX2_init_6 : decode cX2_init 6 = .ok (.newarray .int, 2) := by decide +kernel
theorem dX2_init_8 : decode cX2_init 8 = .ok (.putfield 11, 3) := by decide +kernel
theorem dX2_init_11 : decode cX2_init 11 = .ok (.aload_n 0, 1) := by decide +kernel
theorem dX2_init_12 : decode cX2_init 12 = .ok (.iconst 5, 1) := by decide +kernel
theorem dX2_init_13 : decode cX2_init 13 = .ok (.newarray .int, 2) := by decide +kernel
theorem dX2_init_15 : decode cX2_init 15 = .ok (.putfield 17, 3) := by decide +kernel
theorem dX2_init_18 : decode cX2_init 18 = .ok (.aload_n 0, 1) := by decide +kernel
theorem dX2_init_19 : decode cX2_init 19 = .ok (.bipush 50, 2) := by decide +kernel
theorem dX2_init_21 : decode cX2_init 21 = .ok (.newarray .int, 2) := by decide +kernel
theorem dX2_init_23 : decode cX2_init 23 = .ok (.putfield 20, 3) := by decide +kernel
theorem dX2_init_26 : decode cX2_init 26 = .ok (.aload_n 0, 1) := by decide +kernel
theorem dX2_init_27 : decode cX2_init 27 = .ok (.aload_n 1, 1) := by decide +kernel
theorem dX2_init_28 : decode cX2_init 28 = .ok (.putfield 23, 3) := by decide +kernel
theorem dX2_init_31 : decode cX2_init 31 = .ok (.return_, 1) := by decide +kernel
theorem dX2_countAll_0 : decode cX2_countAll 0 = .ok (.aload_n 0, 1) := by decide +kernel
theorem dX2_countAll_1 : decode cX2_countAll 1 = .ok (.getfield 23, 3) := by decide +kernel
theorem dX2_countAll_4 : decode cX2_countAll 4 = .ok (.getfield 27, 3) := by decide +kernel
theorem dX2_countAll_7 : decode cX2_countAll 7 = .ok (.iconst (-1), 1) := by decide +kernel
theorem dX2_countAll_8 : decode cX2_countAll 8 = .ok (.if_icmp .ne 22, 3) := by decide +kernel
theorem dX2_countAll_11 : decode cX2_countAll 11 = .ok (.aload_n 0, 1) := by decide +kernel
theorem dX2_countAll_12 : decode cX2_countAll 12 = .ok (.iconst (-1), 1) := by decide +kernel
theorem dX2_countAll_13 : decode cX2_countAll 13 = .ok (.iconst (-1), 1) := by decide +kernel
theorem dX2_countAll_14 : decode cX2_countAll 14 = .ok (.invokevirtual 31, 3) := by decide +kernel
theorem dX2_countAll_17 : decode cX2_countAll 17 = .ok (.aload_n 0, 1) := by decide +kernel
theorem dX2_countAll_18 : decode cX2_countAll 18 = .ok (.getfield 23, 3) := by decide +kernel
theorem dX2_countAll_21 : decode cX2_countAll 21 = .ok (.aload_n 0, 1) := by decide +kernel
theorem dX2_countAll_22 : decode cX2_countAll 22 = .ok (.iconst 0, 1) := by decide +kernel
theorem dX2_countAll_23 : decode cX2_countAll 23 = .ok (.iconst 0, 1) := by decide +kernel
theorem dX2_countAll_24 : decode cX2_countAll 24 = .ok (.invokevirtual 35, 3) := by decide +kernel
theorem dX2_countAll_27 : decode cX2_countAll 27 = .ok (.putfield 27, 3) := by decide +kernel
theorem dX2_countAll_30 : decode cX2_countAll 30 = .ok (.aload_n 0, 1) := by decide +kernel
theorem dX2_countAll_31 : decode cX2_countAll 31 = .ok (.getfield 23, 3) := by decide +kernel
theorem dX2_countAll_34 : decode cX2_countAll 34 = .ok (.getfield 27, 3) := by decide +kernel
theorem dX2_countAll_37 : decode cX2_countAll 37 = .ok (.ireturn, 1) := by decide +kernel
theorem dX2_countWith_0 : decode cX2_countWith 0 = .ok (.aload_n 0, 1) := by decide +kernel
theorem dX2_countWith_1 : decode cX2_countWith 1 = .ok (.iload_n 1, 1) := by decide +kernel
theorem dX2_countWith_2 : decode cX2_countWith 2 = .ok (.iload_n 2, 1) := by decide +kernel
theorem dX2_countWith_3 : decode cX2_countWith 3 = .ok (.invokevirtual 31, 3) := by decide +kernel
theorem dX2_countWith_6 : decode cX2_countWith 6 = .ok (.aload_n 0, 1) := by decide +kernel
theorem dX2_countWith_7 : decode cX2_countWith 7 = .ok (.iconst 0, 1) := by decide +kernel
theorem dX2_countWith_8 : decode cX2_countWith 8 = .ok (.iconst 0, 1) := by decide +kernel
theorem dX2_countWith_9 : decode cX2_countWith 9 = .ok (.invokevirtual 35, 3) := by decide +kernel
theorem dX2_countWith_12 : decode cX2_countWith 12 = .ok (.ireturn, 1) := by decide +kernel
theorem dX2_pick_0 : decode cX2_pick 0 = .ok (.aload_n 0, 1) := by decide +kernel
theorem dX2_pick_1 : decode cX2_pick 1 = .ok (.iconst (-1), 1) := by decide +kernel
theorem dX2_pick_2 : decode cX2_pick 2 = .ok (.iconst (-1), 1) := by decide +kernel
theorem dX2_pick_3 : decode cX2_pick 3 = .ok (.invokevirtual 31, 3) := by decide +kernel
theorem dX2_pick_6 : decode cX2_pick 6 = .ok (.iload_n 1, 1) := by decide +kernel
theorem dX2_pick_7 : decode cX2_pick 7 = .ok (.istore_n 2, 1) := by decide +kernel
theorem dX2_pick_8 : decode cX2_pick 8 = .ok (.iconst 0, 1) := by decide +kernel
theorem dX2_pick_9 : decode cX2_pick 9 = .ok (.istore_n 3, 1) := by decide +kernel
theorem dX2_pick_10 : decode cX2_pick 10 = .ok (.iconst 0, 1) := by decide +kernel
theorem dX2_pick_11 : decode cX2_pick 11 = .ok (.istore 4, 2) := by decide +kernel
theorem dX2_pick_13 : decode cX2_pick 13 = .ok (.iconst 0, 1) := by decide +kernel
theorem dX2_pick_14 : decode cX2_pick 14 = .ok (.istore 5, 2) := by decide +kernel
theorem dX2_pick_16 : decode cX2_pick 16 = .ok (.iload 5, 2) := by decide +kernel
theorem dX2_pick_18 : decode cX2_pick 18 = .ok (.iconst 5, 1) := by decide +kernel
theorem dX2_pick_19 : decode cX2_pick 19 = .ok (.if_icmp .ge 90, 3) := by decide +kernel
theorem dX2_pick_22 : decode cX2_pick 22 = .ok (.aload_n 0, 1) := by decide +kernel
theorem dX2_pick_23 : decode cX2_pick 23 = .ok (.iload 5, 2) := by decide +kernel
theorem dX2_pick_25 : decode cX2_pick 25 = .ok (.invokevirtual 39, 3) := by decide +kernel
theorem dX2_pick_28 : decode cX2_pick 28 = .ok (.iconst 0, 1) := by decide +kernel
theorem dX2_pick_29 : decode cX2_pick 29 = .ok (.istore 6, 2) := by decide +kernel
theorem dX2_pick_31 : decode cX2_pick 31 = .ok (.aload_n 0, 1) := by decide +kernel
theorem dX2_pick_32 : decode cX2_pick 32 = .ok (.iload 5, 2) := by decide +kernel
theorem dX2_pick_34 : decode cX2_pick 34 = .ok (.iload 6, 2) := by decide +kernel
theorem dX2_pick_36 : decode cX2_pick 36 = .ok (.iload_n 3, 1) := by decide +kernel
theorem dX2_pick_37 : decode cX2_pick 37 = .ok (.invokevirtual 43, 3) := by decide +kernel
theorem dX2_pick_40 : decode cX2_pick 40 = .ok (.istore 7, 2) := by decide +kernel
theorem dX2_pick_42 : decode cX2_pick 42 = .ok (.iload 6, 2) := by decide +kernel
theorem dX2_pick_44 : decode cX2_pick 44 = .ok (.bipush 9, 2) := by decide +kernel
theorem dX2_pick_46 : decode cX2_pick 46 = .ok (.if_icmp .ge 31, 3) := by decide +kernel
theorem dX2_pick_49 : decode cX2_pick 49 = .ok (.iload_n 2, 1) := by decide +kernel
theorem dX2_pick_50 : decode cX2_pick 50 = .ok (.iload 7, 2) := by decide +kernel
theorem dX2_pick_52 : decode cX2_pick 52 = .ok (.if_icmp .lt 25, 3) := by decide +kernel
theorem dX2_pick_55 : decode cX2_pick 55 = .ok (.iload_n 2, 1) := by decide +kernel
theorem dX2_pick_56 : decode cX2_pick 56 = .ok (.iload 7, 2) := by decide +kernel
theorem dX2_pick_58 : decode cX2_pick 58 = .ok (.isub, 1) := by decide +kernel
theorem dX2_pick_59 : decode cX2_pick 59 = .ok (.istore_n 2, 1) := by decide +kernel
theorem dX2_pick_60 : decode cX2_pick 60 = .ok (.iinc 6 1, 3) := by decide +kernel
theorem dX2_pick_63 : decode cX2_pick 63 = .ok (.aload_n 0, 1) := by decide +kernel
theorem dX2_pick_64 : decode cX2_pick 64 = .ok (.iload 5, 2) := by decide +kernel
theorem dX2_pick_66 : decode cX2_pick 66 = .ok (.iload 6, 2) := by decide +kernel
theorem dX2_pick_68 : decode cX2_pick 68 = .ok (.iload_n 3, 1) := by decide +kernel
theorem dX2_pick_69 : decode cX2_pick 69 = .ok (.invokevirtual 43, 3) := by decide +kernel
theorem dX2_pick_72 : decode cX2_pick 72 = .ok (.istore 7, 2) := by decide +kernel
theorem dX2_pick_74 : decode cX2_pick 74 = .ok (.goto (-32), 3) := by decide +kernel
theorem dX2_pick_77 : decode cX2_pick 77 = .ok (.iload_n 3, 1) := by decide +kernel
theorem dX2_pick_78 : decode cX2_pick 78 = .ok (.aload_n 0, 1) := by decide +kernel
theorem dX2_pick_79 : decode cX2_pick 79 = .ok (.getfield 20, 3) := by decide +kernel
theorem dX2_pick_82 : decode cX2_pick 82 = .ok (.iload 5, 2) := by decide +kernel
theorem dX2_pick_84 : decode cX2_pick 84 = .ok (.bipush 10, 2) := by decide +kernel
theorem dX2_pick_86 : decode cX2_pick 86 = .ok (.imul, 1) := by decide +kernel
theorem dX2_pick_87 : decode cX2_pick 87 = .ok (.iload 6, 2) := by decide +kernel
theorem dX2_pick_89 : decode cX2_pick 89 = .ok (.iadd, 1) := by decide +kernel
theorem dX2_pick_90 : decode cX2_pick 90 = .ok (.iaload, 1) := by decide +kernel
theorem dX2_pick_91 : decode cX2_pick 91 = .ok (.iadd, 1) := by decide +kernel
theorem dX2_pick_92 : decode cX2_pick 92 = .ok (.istore_n 3, 1) := by decide +kernel
theorem dX2_pick_93 : decode cX2_pick 93 = .ok (.bipush 10, 2) := by decide +kernel
theorem dX2_pick_95 : decode cX2_pick 95 = .ok (.iload 4, 2) := by decide +kernel
theorem dX2_pick_97 : decode cX2_pick 97 = .ok (.imul, 1) := by decide +kernel
theorem dX2_pick_98 : decode cX2_pick 98 = .ok (.iload 6, 2) := by decide +kernel
theorem dX2_pick_100 : decode cX2_pick 100 = .ok (.iadd, 1) := by decide +kernel
theorem dX2_pick_101 : decode cX2_pick 101 = .ok (.istore 4, 2) := by decide +kernel
theorem dX2_pick_103 : decode cX2_pick 103 = .ok (.iinc 5 1, 3) := by decide +kernel
theorem dX2_pick_106 : decode cX2_pick 106 = .ok (.goto (-90), 3) := by decide +kernel
theorem dX2_pick_109 : decode cX2_pick 109 = .ok (.iload 4, 2) := by decide +kernel
theorem dX2_pick_111 : decode cX2_pick 111 = .ok (.ireturn, 1) := by decide +kernel
theorem dX2_begin_0 : decode cX2_begin 0 = .ok (.aload_n 0, 1) := by decide +kernel
theorem dX2_begin_1 : decode cX2_begin 1 = .ok (.iload_n 1, 1) := by decide +kernel
theorem dX2_begin_2 : decode cX2_begin 2 = .ok (.putfield 47, 3) := by decide +kernel
theorem dX2_begin_5 : decode cX2_begin 5 = .ok (.aload_n 0, 1) := by decide +kernel
theorem dX2_begin_6 : decode cX2_begin 6 = .ok (.iload_n 2, 1) := by decide +kernel
theorem dX2_begin_7 : decode cX2_begin 7 = .ok (.putfield 50, 3) := by decide +kernel
theorem dX2_begin_10 : decode cX2_begin 10 = .ok (.iconst 0, 1) := by decide +kernel
theorem dX2_begin_11 : decode cX2_begin 11 = .ok (.istore_n 3, 1) := by decide +kernel
theorem dX2_begin_12 : decode cX2_begin 12 = .ok (.iload_n 3, 1) := by decide +kernel
theorem dX2_begin_13 : decode cX2_begin 13 = .ok (.iconst 5, 1) := by decide +kernel
theorem dX2_begin_14 : decode cX2_begin 14 = .ok (.if_icmp .ge 66, 3) := by decide +kernel
theorem dX2_begin_17 : decode cX2_begin 17 = .ok (.aload_n 0, 1) := by decide +kernel
theorem dX2_begin_18 : decode cX2_begin 18 = .ok (.getfield 17, 3) := by decide +kernel
theorem dX2_begin_21 : decode cX2_begin 21 = .ok (.iload_n 3, 1) := by decide +kernel
theorem dX2_begin_22 : decode cX2_begin 22 = .ok (.iconst 0, 1) := by decide +kernel
theorem dX2_begin_23 : decode cX2_begin 23 = .ok (.iastore, 1) := by decide +kernel
theorem dX2_begin_24 : decode cX2_begin 24 = .ok (.iconst 0, 1) := by decide +kernel
theorem dX2_begin_25 : decode cX2_begin 25 = .ok (.istore 4, 2) := by decide +kernel
theorem dX2_begin_27 : decode cX2_begin 27 = .ok (.iload 4, 2) := by decide +kernel
theorem dX2_begin_29 : decode cX2_begin 29 = .ok (.aload_n 0, 1) := by decide +kernel
theorem dX2_begin_30 : decode cX2_begin 30 = .ok (.getfield 23, 3) := by decide +kernel
theorem dX2_begin_33 : decode cX2_begin 33 = .ok (.getfield 53, 3) := by decide +kernel
theorem dX2_begin_36 : decode cX2_begin 36 = .ok (.if_icmp .ge 38, 3) := by decide +kernel
theorem dX2_begin_39 : decode cX2_begin 39 = .ok (.aload_n 0, 1) := by decide +kernel
theorem dX2_begin_40 : decode cX2_begin 40 = .ok (.getfield 17, 3) := by decide +kernel
theorem dX2_begin_43 : decode cX2_begin 43 = .ok (.iload_n 3, 1) := by decide +kernel
theorem dX2_begin_44 : decode cX2_begin 44 = .ok (.dup2, 1) := by decide +kernel
theorem dX2_begin_45 : decode cX2_begin 45 = .ok (.iaload, 1) := by decide +kernel
theorem dX2_begin_46 : decode cX2_begin 46 = .ok (.aload_n 0, 1) := by decide +kernel
theorem dX2_begin_47 : decode cX2_begin 47 = .ok (.getfield 23, 3) := by decide +kernel
theorem dX2_begin_50 : decode cX2_begin 50 = .ok (.getfield 56, 3) := by decide +kernel
theorem dX2_begin_53 : decode cX2_begin 53 = .ok (.iload 4, 2) := by decide +kernel
theorem dX2_begin_55 : decode cX2_begin 55 = .ok (.iaload, 1) := by decide +kernel
theorem dX2_begin_56 : decode cX2_begin 56 = .ok (.iload_n 3, 1) := by decide +kernel
theorem dX2_begin_57 : decode cX2_begin 57 = .ok (.ishr, 1) := by decide +kernel
theorem dX2_begin_58 : decode cX2_begin 58 = .ok (.ifCond .eq 7, 3) := by decide +kernel
theorem dX2_begin_61 : decode cX2_begin 61 = .ok (.iconst 1, 1) := by decide +kernel
theorem dX2_begin_62 : decode cX2_begin 62 = .ok (.goto 4, 3) := by decide +kernel
theorem dX2_begin_65 : decode cX2_begin 65 = .ok (.iconst 0, 1) := by decide +kernel
theorem dX2_begin_66 : decode cX2_begin 66 = .ok (.iadd, 1) := by decide +kernel
theorem dX2_begin_67 : decode cX2_begin 67 = .ok (.iastore, 1) := by decide +kernel
theorem dX2_begin_68 : decode cX2_begin 68 = .ok (.iinc 4 1, 3) := by decide +kernel
theorem dX2_begin_71 : decode cX2_begin 71 = .ok (.goto (-44), 3) := by decide +kernel
theorem dX2_begin_74 : decode cX2_begin 74 = .ok (.iinc 3 1, 3) := by decide +kernel
theorem dX2_begin_77 : decode cX2_begin 77 = .ok (.goto (-65), 3) := by decide +kernel
theorem dX2_begin_80 : decode cX2_begin 80 = .ok (.return_, 1) := by decide +kernel
theorem dX2_countFrom_0 : decode cX2_countFrom 0 = .ok (.iload_n 2, 1) := by decide +kernel
theorem dX2_countFrom_1 : decode cX2_countFrom 1 = .ok (.aload_n 0, 1) := by decide +kernel
theorem dX2_countFrom_2 : decode cX2_countFrom 2 = .ok (.getfield 23, 3) := by decide +kernel
theorem dX2_countFrom_5 : decode cX2_countFrom 5 = .ok (.getfield 59, 3) := by decide +kernel
theorem dX2_countFrom_8 : decode cX2_countFrom 8 = .ok (.if_icmp .le 5, 3) := by decide +kernel
theorem dX2_countFrom_11 : decode cX2_countFrom 11 = .ok (.iconst 0, 1) := by decide +kernel
theorem dX2_countFrom_12 : decode cX2_countFrom 12 = .ok (.ireturn, 1) := by decide +kernel
theorem dX2_countFrom_13 : decode cX2_countFrom 13 = .ok (.iload_n 1, 1) := by decide +kernel
theorem dX2_countFrom_14 : decode cX2_countFrom 14 = .ok (.iconst 5, 1) := by decide +kernel
theorem dX2_countFrom_15 : decode cX2_countFrom 15 = .ok (.if_icmp .ge 21, 3) := by decide +kernel
theorem dX2_countFrom_18 : decode cX2_countFrom 18 = .ok (.iload_n 2, 1) := by decide +kernel
theorem dX2_countFrom_19 : decode cX2_countFrom 19 = .ok (.aload_n 0, 1) := by decide +kernel
theorem dX2_countFrom_20 : decode cX2_countFrom 20 = .ok (.getfield 17, 3) := by decide +kernel
theorem dX2_countFrom_23 : decode cX2_countFrom 23 = .ok (.iload_n 1, 1) := by decide +kernel
theorem dX2_countFrom_24 : decode cX2_countFrom 24 = .ok (.iaload, 1) := by decide +kernel
theorem dX2_countFrom_25 : decode cX2_countFrom 25 = .ok (.iadd, 1) := by decide +kernel
theorem dX2_countFrom_26 : decode cX2_countFrom 26 = .ok (.aload_n 0, 1) := by decide +kernel
theorem dX2_countFrom_27 : decode cX2_countFrom 27 = .ok (.getfield 23, 3) := by decide +kernel
theorem dX2_countFrom_30 : decode cX2_countFrom 30 = .ok (.getfield 59, 3) := by decide +kernel
theorem dX2_countFrom_33 : decode cX2_countFrom 33 = .ok (.if_icmp .gt 9, 3) := by decide +kernel
theorem dX2_countFrom_36 : decode cX2_countFrom 36 = .ok (.aload_n 0, 1) := by decide +kernel
theorem dX2_countFrom_37 : decode cX2_countFrom 37 = .ok (.iload_n 1, 1) := by decide +kernel
theorem dX2_countFrom_38 : decode cX2_countFrom 38 = .ok (.invokevirtual 62, 3) := by decide +kernel
theorem dX2_countFrom_41 : decode cX2_countFrom 41 = .ok (.ireturn, 1) := by decide +kernel
theorem dX2_countFrom_42 : decode cX2_countFrom 42 = .ok (.aload_n 0, 1) := by decide +kernel
theorem dX2_countFrom_43 : decode cX2_countFrom 43 = .ok (.iload_n 1, 1) := by decide +kernel
theorem dX2_countFrom_44 : decode cX2_countFrom 44 = .ok (.invokevirtual 39, 3) := by decide +kernel
theorem dX2_countFrom_47 : decode cX2_countFrom 47 = .ok (.iconst 0, 1) := by decide +kernel
theorem dX2_countFrom_48 : decode cX2_countFrom 48 = .ok (.istore_n 3, 1) := by decide +kernel
theorem dX2_countFrom_49 : decode cX2_countFrom 49 = .ok (.iconst 0, 1) := by decide +kernel
theorem dX2_countFrom_50 : decode cX2_countFrom 50 = .ok (.istore 4, 2) := by decide +kernel
theorem dX2_countFrom_52 : decode cX2_countFrom 52 = .ok (.iload 4, 2) := by decide +kernel
theorem dX2_countFrom_54 : decode cX2_countFrom 54 = .ok (.bipush 10, 2) := by decide +kernel
theorem dX2_countFrom_56 : decode cX2_countFrom 56 = .ok (.if_icmp .ge 37, 3) := by decide +kernel
theorem dX2_countFrom_59 : decode cX2_countFrom 59 = .ok (.iload_n 1, 1) := by decide +kernel
theorem dX2_countFrom_60 : decode cX2_countFrom 60 = .ok (.aload_n 0, 1) := by decide +kernel
theorem dX2_countFrom_61 : decode cX2_countFrom 61 = .ok (.getfield 47, 3) := by decide +kernel
theorem dX2_countFrom_64 : decode cX2_countFrom 64 = .ok (.if_icmp .ne 12, 3) := by decide +kernel
theorem dX2_countFrom_67 : decode cX2_countFrom 67 = .ok (.iload 4, 2) := by decide +kernel
theorem dX2_countFrom_69 : decode cX2_countFrom 69 = .ok (.aload_n 0, 1) := by decide +kernel
theorem dX2_countFrom_70 : decode cX2_countFrom 70 = .ok (.getfield 50, 3) := by decide +kernel
theorem dX2_countFrom_73 : decode cX2_countFrom 73 = .ok (.if_icmp .ne 14, 3) := by decide +kernel
theorem dX2_countFrom_76 : decode cX2_countFrom 76 = .ok (.iload_n 3, 1) := by decide +kernel
theorem dX2_countFrom_77 : decode cX2_countFrom 77 = .ok (.aload_n 0, 1) := by decide +kernel
theorem dX2_countFrom_78 : decode cX2_countFrom 78 = .ok (.iload_n 1, 1) := by decide +kernel
theorem dX2_countFrom_79 : decode cX2_countFrom 79 = .ok (.iload 4, 2) := by decide +kernel
theorem dX2_countFrom_81 : decode cX2_countFrom 81 = .ok (.iload_n 2, 1) := by decide +kernel
theorem dX2_countFrom_82 : decode cX2_countFrom 82 = .ok (.invokevirtual 43, 3) := by decide +kernel
theorem dX2_countFrom_85 : decode cX2_countFrom 85 = .ok (.iadd, 1) := by decide +kernel
theorem dX2_countFrom_86 : decode cX2_countFrom 86 = .ok (.istore_n 3, 1) := by decide +kernel
theorem dX2_countFrom_87 : decode cX2_countFrom 87 = .ok (.iinc 4 1, 3) := by decide +kernel
theorem dX2_countFrom_90 : decode cX2_countFrom 90 = .ok (.goto (-38), 3) := by decide +kernel
theorem dX2_countFrom_93 : decode cX2_countFrom 93 = .ok (.iload_n 3, 1) := by decide +kernel
theorem dX2_countFrom_94 : decode cX2_countFrom 94 = .ok (.ireturn, 1) := by decide +kernel
theorem dX2_countBehind_0 : decode cX2_countBehind 0 = .ok (.aload_n 0, 1) := by decide +kernel
theorem dX2_countBehind_1 : decode cX2_countBehind 1 = .ok (.getfield 11, 3) := by decide +kernel
theorem dX2_countBehind_4 : decode cX2_countBehind 4 = .ok (.iload_n 1, 1) := by decide +kernel
theorem dX2_countBehind_5 : decode cX2_countBehind 5 = .ok (.iload_n 2, 1) := by decide +kernel
theorem dX2_countBehind_6 : decode cX2_countBehind 6 = .ok (.iastore, 1) := by decide +kernel
theorem dX2_countBehind_7 : decode cX2_countBehind 7 = .ok (.aload_n 0, 1) := by decide +kernel
theorem dX2_countBehind_8 : decode cX2_countBehind 8 = .ok (.iload_n 1, 1) := by decide +kernel
theorem dX2_countBehind_9 : decode cX2_countBehind 9 = .ok (.iconst 1, 1) := by decide +kernel
theorem dX2_countBehind_10 : decode cX2_countBehind 10 = .ok (.iadd, 1) := by decide +kernel
theorem dX2_countBehind_11 : decode cX2_countBehind 11 = .ok (.iload_n 3, 1) := by decide +kernel
theorem dX2_countBehind_12 : decode cX2_countBehind 12 = .ok (.aload_n 0, 1) := by decide +kernel
theorem dX2_countBehind_13 : decode cX2_countBehind 13 = .ok (.getfield 20, 3) := by decide +kernel
theorem dX2_countBehind_16 : decode cX2_countBehind 16 = .ok (.iload_n 1, 1) := by decide +kernel
theorem dX2_countBehind_17 : decode cX2_countBehind 17 = .ok (.bipush 10, 2) := by decide +kernel
theorem dX2_countBehind_19 : decode cX2_countBehind 19 = .ok (.imul, 1) := by decide +kernel
theorem dX2_countBehind_20 : decode cX2_countBehind 20 = .ok (.iload_n 2, 1) := by decide +kernel
theorem dX2_countBehind_21 : decode cX2_countBehind 21 = .ok (.iadd, 1) := by decide +kernel
theorem dX2_countBehind_22 : decode cX2_countBehind 22 = .ok (.iaload, 1) := by decide +kernel
theorem dX2_countBehind_23 : decode cX2_countBehind 23 = .ok (.iadd, 1) := by decide +kernel
theorem dX2_countBehind_24 : decode cX2_countBehind 24 = .ok (.invokevirtual 35, 3) := by decide +kernel
theorem dX2_countBehind_27 : decode cX2_countBehind 27 = .ok (.ireturn, 1) := by decide +kernel
theorem dX2_freeWays_0 : decode cX2_freeWays 0 = .ok (.iconst 1, 1) := by decide +kernel
theorem dX2_freeWays_1 : decode cX2_freeWays 1 = .ok (.istore_n 2, 1) := by decide +kernel
theorem dX2_freeWays_2 : decode cX2_freeWays 2 = .ok (.iload_n 1, 1) := by decide +kernel
theorem dX2_freeWays_3 : decode cX2_freeWays 3 = .ok (.istore_n 3, 1) := by decide +kernel
theorem dX2_freeWays_4 : decode cX2_freeWays 4 = .ok (.iload_n 3, 1) := by decide +kernel
theorem dX2_freeWays_5 : decode cX2_freeWays 5 = .ok (.iconst 5, 1) := by decide +kernel
theorem dX2_freeWays_6 : decode cX2_freeWays 6 = .ok (.if_icmp .ge 26, 3) := by decide +kernel
theorem dX2_freeWays_9 : decode cX2_freeWays 9 = .ok (.iload_n 2, 1) := by decide +kernel
theorem dX2_freeWays_10 : decode cX2_freeWays 10 = .ok (.iload_n 3, 1) := by decide +kernel
theorem dX2_freeWays_11 : decode cX2_freeWays 11 = .ok (.aload_n 0, 1) := by decide +kernel
theorem dX2_freeWays_12 : decode cX2_freeWays 12 = .ok (.getfield 47, 3) := by decide +kernel
theorem dX2_freeWays_15 : decode cX2_freeWays 15 = .ok (.if_icmp .ne 7, 3) := by decide +kernel
theorem dX2_freeWays_18 : decode cX2_freeWays 18 = .ok (.iconst 1, 1) := by decide +kernel
theorem dX2_freeWays_19 : decode cX2_freeWays 19 = .ok (.goto 5, 3) := by decide +kernel
theorem dX2_freeWays_22 : decode cX2_freeWays 22 = .ok (.bipush 10, 2) := by decide +kernel
theorem dX2_freeWays_24 : decode cX2_freeWays 24 = .ok (.imul, 1) := by decide +kernel
theorem dX2_freeWays_25 : decode cX2_freeWays 25 = .ok (.istore_n 2, 1) := by decide +kernel
theorem dX2_freeWays_26 : decode cX2_freeWays 26 = .ok (.iinc 3 1, 3) := by decide +kernel
theorem dX2_freeWays_29 : decode cX2_freeWays 29 = .ok (.goto (-25), 3) := by decide +kernel
theorem dX2_freeWays_32 : decode cX2_freeWays 32 = .ok (.iload_n 2, 1) := by decide +kernel
theorem dX2_freeWays_33 : decode cX2_freeWays 33 = .ok (.ireturn, 1) := by decide +kernel
theorem dX2_weighFigures_0 : decode cX2_weighFigures 0 = .ok (.iload_n 1, 1) := by decide +kernel
theorem dX2_weighFigures_1 : decode cX2_weighFigures 1 = .ok (.bipush 10, 2) := by decide +kernel
theorem dX2_weighFigures_3 : decode cX2_weighFigures 3 = .ok (.imul, 1) := by decide +kernel
theorem dX2_weighFigures_4 : decode cX2_weighFigures 4 = .ok (.istore_n 2, 1) := by decide +kernel
theorem dX2_weighFigures_5 : decode cX2_weighFigures 5 = .ok (.iconst 0, 1) := by decide +kernel
theorem dX2_weighFigures_6 : decode cX2_weighFigures 6 = .ok (.istore_n 3, 1) := by decide +kernel
theorem dX2_weighFigures_7 : decode cX2_weighFigures 7 = .ok (.iload_n 3, 1) := by decide +kernel
theorem dX2_weighFigures_8 : decode cX2_weighFigures 8 = .ok (.bipush 10, 2) := by decide +kernel
theorem dX2_weighFigures_10 : decode cX2_weighFigures 10 = .ok (.if_icmp .ge 18, 3) := by decide +kernel
theorem dX2_weighFigures_13 : decode cX2_weighFigures 13 = .ok (.aload_n 0, 1) := by decide +kernel
theorem dX2_weighFigures_14 : decode cX2_weighFigures 14 = .ok (.getfield 20, 3) := by decide +kernel
theorem dX2_weighFigures_17 : decode cX2_weighFigures 17 = .ok (.iload_n 2, 1) := by decide +kernel
theorem dX2_weighFigures_18 : decode cX2_weighFigures 18 = .ok (.iload_n 3, 1) := by decide +kernel
theorem dX2_weighFigures_19 : decode cX2_weighFigures 19 = .ok (.iadd, 1) := by decide +kernel
theorem dX2_weighFigures_20 : decode cX2_weighFigures 20 = .ok (.iconst 0, 1) := by decide +kernel
theorem dX2_weighFigures_21 : decode cX2_weighFigures 21 = .ok (.iastore, 1) := by decide +kernel
theorem dX2_weighFigures_22 : decode cX2_weighFigures 22 = .ok (.iinc 3 1, 3) := by decide +kernel
theorem dX2_weighFigures_25 : decode cX2_weighFigures 25 = .ok (.goto (-18), 3) := by decide +kernel
theorem dX2_weighFigures_28 : decode cX2_weighFigures 28 = .ok (.iconst 0, 1) := by decide +kernel
theorem dX2_weighFigures_29 : decode cX2_weighFigures 29 = .ok (.istore_n 3, 1) := by decide +kernel
theorem dX2_weighFigures_30 : decode cX2_weighFigures 30 = .ok (.iconst 0, 1) := by decide +kernel
theorem dX2_weighFigures_31 : decode cX2_weighFigures 31 = .ok (.istore 4, 2) := by decide +kernel
theorem dX2_weighFigures_33 : decode cX2_weighFigures 33 = .ok (.iload 4, 2) := by decide +kernel
theorem dX2_weighFigures_35 : decode cX2_weighFigures 35 = .ok (.aload_n 0, 1) := by decide +kernel
theorem dX2_weighFigures_36 : decode cX2_weighFigures 36 = .ok (.getfield 23, 3) := by decide +kernel
theorem dX2_weighFigures_39 : decode cX2_weighFigures 39 = .ok (.getfield 53, 3) := by decide +kernel
theorem dX2_weighFigures_42 : decode cX2_weighFigures 42 = .ok (.if_icmp .ge 81, 3) := by decide +kernel
theorem dX2_weighFigures_45 : decode cX2_weighFigures 45 = .ok (.aload_n 0, 1) := by decide +kernel
theorem dX2_weighFigures_46 : decode cX2_weighFigures 46 = .ok (.getfield 23, 3) := by decide +kernel
theorem dX2_weighFigures_49 : decode cX2_weighFigures 49 = .ok (.getfield 56, 3) := by decide +kernel
theorem dX2_weighFigures_52 : decode cX2_weighFigures 52 = .ok (.iload 4, 2) := by decide +kernel
theorem dX2_weighFigures_54 : decode cX2_weighFigures 54 = .ok (.iaload, 1) := by decide +kernel
theorem dX2_weighFigures_55 : decode cX2_weighFigures 55 = .ok (.iload_n 1, 1) := by decide +kernel
theorem dX2_weighFigures_56 : decode cX2_weighFigures 56 = .ok (.ishr, 1) := by decide +kernel
theorem dX2_weighFigures_57 : decode cX2_weighFigures 57 = .ok (.iconst 1, 1) := by decide +kernel
theorem dX2_weighFigures_58 : decode cX2_weighFigures 58 = .ok (.if_icmp .ne 59, 3) := by decide +kernel
theorem dX2_weighFigures_61 : decode cX2_weighFigures 61 = .ok (.aload_n 0, 1) := by decide +kernel
theorem dX2_weighFigures_62 : decode cX2_weighFigures 62 = .ok (.getfield 20, 3) := by decide +kernel
theorem dX2_weighFigures_65 : decode cX2_weighFigures 65 = .ok (.iload_n 2, 1) := by decide +kernel
theorem dX2_weighFigures_66 : decode cX2_weighFigures 66 = .ok (.aload_n 0, 1) := by decide +kernel
theorem dX2_weighFigures_67 : decode cX2_weighFigures 67 = .ok (.iload 4, 2) := by decide +kernel
theorem dX2_weighFigures_69 : decode cX2_weighFigures 69 = .ok (.iload_n 1, 1) := by decide +kernel
theorem dX2_weighFigures_70 : decode cX2_weighFigures 70 = .ok (.invokevirtual 66, 3) := by decide +kernel
theorem dX2_weighFigures_73 : decode cX2_weighFigures 73 = .ok (.iadd, 1) := by decide +kernel
theorem dX2_weighFigures_74 : decode cX2_weighFigures 74 = .ok (.dup2, 1) := by decide +kernel
theorem dX2_weighFigures_75 : decode cX2_weighFigures 75 = .ok (.iaload, 1) := by decide +kernel
theorem dX2_weighFigures_76 : decode cX2_weighFigures 76 = .ok (.aload_n 0, 1) := by decide +kernel
theorem dX2_weighFigures_77 : decode cX2_weighFigures 77 = .ok (.getfield 23, 3) := by decide +kernel
theorem dX2_weighFigures_80 : decode cX2_weighFigures 80 = .ok (.getfield 69, 3) := by decide +kernel
theorem dX2_weighFigures_83 : decode cX2_weighFigures 83 = .ok (.iload 4, 2) := by decide +kernel
theorem dX2_weighFigures_85 : decode cX2_weighFigures 85 = .ok (.baload, 1) := by decide +kernel
theorem dX2_weighFigures_86 : decode cX2_weighFigures 86 = .ok (.ifCond .eq 7, 3) := by decide +kernel
theorem dX2_weighFigures_89 : decode cX2_weighFigures 89 = .ok (.iconst (-1), 1) := by decide +kernel
theorem dX2_weighFigures_90 : decode cX2_weighFigures 90 = .ok (.goto 4, 3) := by decide +kernel
theorem dX2_weighFigures_93 : decode cX2_weighFigures 93 = .ok (.iconst 1, 1) := by decide +kernel
theorem dX2_weighFigures_94 : decode cX2_weighFigures 94 = .ok (.iadd, 1) := by decide +kernel
theorem dX2_weighFigures_95 : decode cX2_weighFigures 95 = .ok (.iastore, 1) := by decide +kernel
theorem dX2_weighFigures_96 : decode cX2_weighFigures 96 = .ok (.iload_n 3, 1) := by decide +kernel
theorem dX2_weighFigures_97 : decode cX2_weighFigures 97 = .ok (.aload_n 0, 1) := by decide +kernel
theorem dX2_weighFigures_98 : decode cX2_weighFigures 98 = .ok (.getfield 23, 3) := by decide +kernel
theorem dX2_weighFigures_101 : decode cX2_weighFigures 101 = .ok (.getfield 69, 3) := by decide +kernel
theorem dX2_weighFigures_104 : decode cX2_weighFigures 104 = .ok (.iload 4, 2) := by decide +kernel
theorem dX2_weighFigures_106 : decode cX2_weighFigures 106 = .ok (.baload, 1) := by decide +kernel
theorem dX2_weighFigures_107 : decode cX2_weighFigures 107 = .ok (.ifCond .eq 7, 3) := by decide +kernel
theorem dX2_weighFigures_110 : decode cX2_weighFigures 110 = .ok (.iconst 1, 1) := by decide +kernel
theorem dX2_weighFigures_111 : decode cX2_weighFigures 111 = .ok (.goto 4, 3) := by decide +kernel
theorem dX2_weighFigures_114 : decode cX2_weighFigures 114 = .ok (.iconst 0, 1) := by decide +kernel
theorem dX2_weighFigures_115 : decode cX2_weighFigures 115 = .ok (.iadd, 1) := by decide +kernel
theorem dX2_weighFigures_116 : decode cX2_weighFigures 116 = .ok (.istore_n 3, 1) := by decide +kernel
theorem dX2_weighFigures_117 : decode cX2_weighFigures 117 = .ok (.iinc 4 1, 3) := by decide +kernel
theorem dX2_weighFigures_120 : decode cX2_weighFigures 120 = .ok (.goto (-87), 3) := by decide +kernel
theorem dX2_weighFigures_123 : decode cX2_weighFigures 123 = .ok (.iconst 0, 1) := by decide +kernel
theorem dX2_weighFigures_124 : decode cX2_weighFigures 124 = .ok (.istore 4, 2) := by decide +kernel
theorem dX2_weighFigures_126 : decode cX2_weighFigures 126 = .ok (.iload 4, 2) := by decide +kernel
theorem dX2_weighFigures_128 : decode cX2_weighFigures 128 = .ok (.bipush 10, 2) := by decide +kernel
theorem dX2_weighFigures_130 : decode cX2_weighFigures 130 = .ok (.if_icmp .ge 22, 3) := by decide +kernel
theorem dX2_weighFigures_133 : decode cX2_weighFigures 133 = .ok (.aload_n 0, 1) := by decide +kernel
theorem dX2_weighFigures_134 : decode cX2_weighFigures 134 = .ok (.getfield 20, 3) := by decide +kernel
theorem dX2_weighFigures_137 : decode cX2_weighFigures 137 = .ok (.iload_n 2, 1) := by decide +kernel
theorem dX2_weighFigures_138 : decode cX2_weighFigures 138 = .ok (.iload 4, 2) := by decide +kernel
theorem dX2_weighFigures_140 : decode cX2_weighFigures 140 = .ok (.iadd, 1) := by decide +kernel
theorem dX2_weighFigures_141 : decode cX2_weighFigures 141 = .ok (.dup2, 1) := by decide +kernel
theorem dX2_weighFigures_142 : decode cX2_weighFigures 142 = .ok (.iaload, 1) := by decide +kernel
theorem dX2_weighFigures_143 : decode cX2_weighFigures 143 = .ok (.iload_n 3, 1) := by decide +kernel
theorem dX2_weighFigures_144 : decode cX2_weighFigures 144 = .ok (.iadd, 1) := by decide +kernel
theorem dX2_weighFigures_145 : decode cX2_weighFigures 145 = .ok (.iastore, 1) := by decide +kernel
theorem dX2_weighFigures_146 : decode cX2_weighFigures 146 = .ok (.iinc 4 1, 3) := by decide +kernel
theorem dX2_weighFigures_149 : decode cX2_weighFigures 149 = .ok (.goto (-23), 3) := by decide +kernel
theorem dX2_weighFigures_152 : decode cX2_weighFigures 152 = .ok (.return_, 1) := by decide +kernel
theorem dX2_neededFigure_0 : decode cX2_neededFigure 0 = .ok (.aload_n 0, 1) := by decide +kernel
theorem dX2_neededFigure_1 : decode cX2_neededFigure 1 = .ok (.getfield 23, 3) := by decide +kernel
theorem dX2_neededFigure_4 : decode cX2_neededFigure 4 = .ok (.getfield 73, 3) := by decide +kernel
theorem dX2_neededFigure_7 : decode cX2_neededFigure 7 = .ok (.iload_n 1, 1) := by decide +kernel
theorem dX2_neededFigure_8 : decode cX2_neededFigure 8 = .ok (.iaload, 1) := by decide +kernel
theorem dX2_neededFigure_9 : decode cX2_neededFigure 9 = .ok (.istore_n 3, 1) := by decide +kernel
theorem dX2_neededFigure_10 : decode cX2_neededFigure 10 = .ok (.iconst 0, 1) := by decide +kernel
theorem dX2_neededFigure_11 : decode cX2_neededFigure 11 = .ok (.istore 4, 2) := by decide +kernel
theorem dX2_neededFigure_13 : decode cX2_neededFigure 13 = .ok (.iload 4, 2) := by decide +kernel
theorem dX2_neededFigure_15 : decode cX2_neededFigure 15 = .ok (.iload_n 2, 1) := by decide +kernel
theorem dX2_neededFigure_16 : decode cX2_neededFigure 16 = .ok (.if_icmp .ge 36, 3) := by decide +kernel
theorem dX2_neededFigure_19 : decode cX2_neededFigure 19 = .ok (.aload_n 0, 1) := by decide +kernel
theorem dX2_neededFigure_20 : decode cX2_neededFigure 20 = .ok (.getfield 23, 3) := by decide +kernel
theorem dX2_neededFigure_23 : decode cX2_neededFigure 23 = .ok (.getfield 56, 3) := by decide +kernel
theorem dX2_neededFigure_26 : decode cX2_neededFigure 26 = .ok (.iload_n 1, 1) := by decide +kernel
theorem dX2_neededFigure_27 : decode cX2_neededFigure 27 = .ok (.iaload, 1) := by decide +kernel
theorem dX2_neededFigure_28 : decode cX2_neededFigure 28 = .ok (.iload 4, 2) := by decide +kernel
theorem dX2_neededFigure_30 : decode cX2_neededFigure 30 = .ok (.ishr, 1) := by decide +kernel
theorem dX2_neededFigure_31 : decode cX2_neededFigure 31 = .ok (.iconst 1, 1) := by decide +kernel
theorem dX2_neededFigure_32 : decode cX2_neededFigure 32 = .ok (.iand, 1) := by decide +kernel
theorem dX2_neededFigure_33 : decode cX2_neededFigure 33 = .ok (.ifCond .eq 13, 3) := by decide +kernel
theorem dX2_neededFigure_36 : decode cX2_neededFigure 36 = .ok (.iload_n 3, 1) := by decide +kernel
theorem dX2_neededFigure_37 : decode cX2_neededFigure 37 = .ok (.aload_n 0, 1) := by decide +kernel
theorem dX2_neededFigure_38 : decode cX2_neededFigure 38 = .ok (.getfield 11, 3) := by decide +kernel
theorem dX2_neededFigure_41 : decode cX2_neededFigure 41 = .ok (.iload 4, 2) := by decide +kernel
theorem dX2_neededFigure_43 : decode cX2_neededFigure 43 = .ok (.iaload, 1) := by decide +kernel
theorem dX2_neededFigure_44 : decode cX2_neededFigure 44 = .ok (.iadd, 1) := by decide +kernel
theorem dX2_neededFigure_45 : decode cX2_neededFigure 45 = .ok (.istore_n 3, 1) := by decide +kernel
theorem dX2_neededFigure_46 : decode cX2_neededFigure 46 = .ok (.iinc 4 1, 3) := by decide +kernel
theorem dX2_neededFigure_49 : decode cX2_neededFigure 49 = .ok (.goto (-36), 3) := by decide +kernel
theorem dX2_neededFigure_52 : decode cX2_neededFigure 52 = .ok (.bipush 10, 2) := by decide +kernel
theorem dX2_neededFigure_54 : decode cX2_neededFigure 54 = .ok (.iload_n 3, 1) := by decide +kernel
theorem dX2_neededFigure_55 : decode cX2_neededFigure 55 = .ok (.bipush 10, 2) := by decide +kernel
theorem dX2_neededFigure_57 : decode cX2_neededFigure 57 = .ok (.irem, 1) := by decide +kernel
theorem dX2_neededFigure_58 : decode cX2_neededFigure 58 = .ok (.isub, 1) := by decide +kernel
theorem dX2_neededFigure_59 : decode cX2_neededFigure 59 = .ok (.bipush 10, 2) := by decide +kernel
theorem dX2_neededFigure_61 : decode cX2_neededFigure 61 = .ok (.irem, 1) := by decide +kernel
theorem dX2_neededFigure_62 : decode cX2_neededFigure 62 = .ok (.ireturn, 1) := by decide +kernel
theorem dX3_init_0 : decode cX3_init 0 = .ok (.aload_n 0, 1) := by decide +kernel
theorem dX3_init_1 : decode cX3_init 1 = .ok (.invokespecial 3, 3) := by decide +kernel
theorem dX3_init_4 : decode cX3_init 4 = .ok (.aload_n 0, 1) := by decide +kernel
theorem dX3_init_5 : decode cX3_init 5 = .ok (.bipush 8, 2) := by decide +kernel
theorem dX3_init_7 : decode cX3_init 7 = .ok (.newarray .int, 2) := by decide +kernel
theorem dX3_init_9 : decode cX3_init 9 = .ok (.putfield 11, 3) := by decide +kernel
theorem dX3_init_12 : decode cX3_init 12 = .ok (.aload_n 0, 1) := by decide +kernel
theorem dX3_init_13 : decode cX3_init 13 = .ok (.aload_n 1, 1) := by decide +kernel
theorem dX3_init_14 : decode cX3_init 14 = .ok (.putfield 17, 3) := by decide +kernel
theorem dX3_init_17 : decode cX3_init 17 = .ok (.return_, 1) := by decide +kernel
theorem dX3_standOn_0 : decode cX3_standOn 0 = .ok (.iload_n 1, 1) := by decide +kernel
theorem dX3_standOn_1 : decode cX3_standOn 1 = .ok (.invokestatic 21, 3) := by decide +kernel
theorem dX3_standOn_4 : decode cX3_standOn 4 = .ok (.istore_n 2, 1) := by decide +kernel
theorem dX3_standOn_5 : decode cX3_standOn 5 = .ok (.aload_n 0, 1) := by decide +kernel
theorem dX3_standOn_6 : decode cX3_standOn 6 = .ok (.iconst 0, 1) := by decide +kernel
theorem dX3_standOn_7 : decode cX3_standOn 7 = .ok (.putfield 27, 3) := by decide +kernel
theorem dX3_standOn_10 : decode cX3_standOn 10 = .ok (.iconst 0, 1) := by decide +kernel
theorem dX3_standOn_11 : decode cX3_standOn 11 = .ok (.istore_n 3, 1) := by decide +kernel
theorem dX3_standOn_12 : decode cX3_standOn 12 = .ok (.iload_n 3, 1) := by decide +kernel
theorem dX3_standOn_13 : decode cX3_standOn 13 = .ok (.aload_n 0, 1) := by decide +kernel
theorem dX3_standOn_14 : decode cX3_standOn 14 = .ok (.getfield 17, 3) := by decide +kernel
theorem dX3_standOn_17 : decode cX3_standOn 17 = .ok (.getfield 31, 3) := by decide +kernel
theorem dX3_standOn_20 : decode cX3_standOn 20 = .ok (.if_icmp .ge 46, 3) := by decide +kernel
theorem dX3_standOn_23 : decode cX3_standOn 23 = .ok (.aload_n 0, 1) := by decide +kernel
theorem dX3_standOn_24 : decode cX3_standOn 24 = .ok (.getfield 11, 3) := by decide +kernel
theorem dX3_standOn_27 : decode cX3_standOn 27 = .ok (.iload_n 3, 1) := by decide +kernel
theorem dX3_standOn_28 : decode cX3_standOn 28 = .ok (.aload_n 0, 1) := by decide +kernel
theorem dX3_standOn_29 : decode cX3_standOn 29 = .ok (.getfield 17, 3) := by decide +kernel
theorem dX3_standOn_32 : decode cX3_standOn 32 = .ok (.iload_n 3, 1) := by decide +kernel
theorem dX3_standOn_33 : decode cX3_standOn 33 = .ok (.iload_n 1, 1) := by decide +kernel
theorem dX3_standOn_34 : decode cX3_standOn 34 = .ok (.iload_n 2, 1) := by decide +kernel
theorem dX3_standOn_35 : decode cX3_standOn 35 = .ok (.invokevirtual 34, 3) := by decide +kernel
theorem dX3_standOn_38 : decode cX3_standOn 38 = .ok (.iastore, 1) := by decide +kernel
theorem dX3_standOn_39 : decode cX3_standOn 39 = .ok (.aload_n 0, 1) := by decide +kernel
theorem dX3_standOn_40 : decode cX3_standOn 40 = .ok (.getfield 11, 3) := by decide +kernel
theorem dX3_standOn_43 : decode cX3_standOn 43 = .ok (.iload_n 3, 1) := by decide +kernel
theorem dX3_standOn_44 : decode cX3_standOn 44 = .ok (.iaload, 1) := by decide +kernel
theorem dX3_standOn_45 : decode cX3_standOn 45 = .ok (.ifCond .ge 15, 3) := by decide +kernel
theorem dX3_standOn_48 : decode cX3_standOn 48 = .ok (.aload_n 0, 1) := by decide +kernel
theorem dX3_standOn_49 : decode cX3_standOn 49 = .ok (.dup, 1) := by decide +kernel
theorem dX3_standOn_50 : decode cX3_standOn 50 = .ok (.getfield 27, 3) := by decide +kernel
theorem dX3_standOn_53 : decode cX3_standOn 53 = .ok (.iconst 1, 1) := by decide +kernel
theorem dX3_standOn_54 : decode cX3_standOn 54 = .ok (.iload_n 3, 1) := by decide +kernel
theorem dX3_standOn_55 : decode cX3_standOn 55 = .ok (.ishl, 1) := by decide +kernel
theorem dX3_standOn_56 : decode cX3_standOn 56 = .ok (.ior, 1) := by decide +kernel
theorem dX3_standOn_57 : decode cX3_standOn 57 = .ok (.putfield 27, 3) := by decide +kernel
theorem dX3_standOn_60 : decode cX3_standOn 60 = .ok (.iinc 3 1, 3) := by decide +kernel
theorem dX3_standOn_63 : decode cX3_standOn 63 = .ok (.goto (-51), 3) := by decide +kernel
theorem dX3_standOn_66 : decode cX3_standOn 66 = .ok (.return_, 1) := by decide +kernel
theorem dX3_reason_0 : decode cX3_reason 0 = .ok (.iload_n 1, 1) := by decide +kernel
theorem dX3_reason_1 : decode cX3_reason 1 = .ok (.aload_n 0, 1) := by decide +kernel
theorem dX3_reason_2 : decode cX3_reason 2 = .ok (.getfield 27, 3) := by decide +kernel
theorem dX3_reason_5 : decode cX3_reason 5 = .ok (.iand, 1) := by decide +kernel
theorem dX3_reason_6 : decode cX3_reason 6 = .ok (.ifCond .eq 5, 3) := by decide +kernel
theorem dX3_reason_9 : decode cX3_reason 9 = .ok (.iconst 1, 1) := by decide +kernel
theorem dX3_reason_10 : decode cX3_reason 10 = .ok (.ireturn, 1) := by decide +kernel
theorem dX3_reason_11 : decode cX3_reason 11 = .ok (.aload_n 0, 1) := by decide +kernel
theorem dX3_reason_12 : decode cX3_reason 12 = .ok (.iload_n 1, 1) := by decide +kernel
theorem dX3_reason_13 : decode cX3_reason 13 = .ok (.iload_n 2, 1) := by decide +kernel
theorem dX3_reason_14 : decode cX3_reason 14 = .ok (.invokevirtual 38, 3) := by decide +kernel
theorem dX3_reason_17 : decode cX3_reason 17 = .ok (.istore_n 3, 1) := by decide +kernel
theorem dX3_reason_18 : decode cX3_reason 18 = .ok (.iload_n 3, 1) := by decide +kernel
theorem dX3_reason_19 : decode cX3_reason 19 = .ok (.ifCond .eq 5, 3) := by decide +kernel
theorem dX3_reason_22 : decode cX3_reason 22 = .ok (.iload_n 3, 1) := by decide +kernel
theorem dX3_reason_23 : decode cX3_reason 23 = .ok (.ireturn, 1) := by decide +kernel
theorem dX3_reason_24 : decode cX3_reason 24 = .ok (.aload_n 0, 1) := by decide +kernel
theorem dX3_reason_25 : decode cX3_reason 25 = .ok (.iload_n 1, 1) := by decide +kernel
theorem dX3_reason_26 : decode cX3_reason 26 = .ok (.aload_n 0, 1) := by decide +kernel
theorem dX3_reason_27 : decode cX3_reason 27 = .ok (.getfield 17, 3) := by decide +kernel
theorem dX3_reason_30 : decode cX3_reason 30 = .ok (.getfield 42, 3) := by decide +kernel
theorem dX3_reason_33 : decode cX3_reason 33 = .ok (.iload_n 2, 1) := by decide +kernel
theorem dX3_reason_34 : decode cX3_reason 34 = .ok (.iaload, 1) := by decide +kernel
theorem dX3_reason_35 : decode cX3_reason 35 = .ok (.invokevirtual 45, 3) := by decide +kernel
theorem dX3_reason_38 : decode cX3_reason 38 = .ok (.ifCond .eq 7, 3) := by decide +kernel
theorem dX3_reason_41 : decode cX3_reason 41 = .ok (.iconst 0, 1) := by decide +kernel
theorem dX3_reason_42 : decode cX3_reason 42 = .ok (.goto 4, 3) := by decide +kernel
theorem dX3_reason_45 : decode cX3_reason 45 = .ok (.iconst 5, 1) := by decide +kernel
theorem dX3_reason_46 : decode cX3_reason 46 = .ok (.ireturn, 1) := by decide +kernel
theorem dX3_lastingReason_0 : decode cX3_lastingReason 0 = .ok (.iload_n 1, 1) := by decide +kernel
theorem dX3_lastingReason_1 : decode cX3_lastingReason 1 = .ok (.invokestatic 49, 3) := by decide +kernel
theorem dX3_lastingReason_4 : decode cX3_lastingReason 4 = .ok (.aload_n 0, 1) := by decide +kernel
theorem dX3_lastingReason_5 : decode cX3_lastingReason 5 = .ok (.getfield 17, 3) := by decide +kernel
theorem dX3_lastingReason_8 : decode cX3_lastingReason 8 = .ok (.getfield 54, 3) := by decide +kernel
theorem dX3_lastingReason_11 : decode cX3_lastingReason 11 = .ok (.iload_n 2, 1) := by decide +kernel
theorem dX3_lastingReason_12 : decode cX3_lastingReason 12 = .ok (.iaload, 1) := by decide +kernel
theorem dX3_lastingReason_13 : decode cX3_lastingReason 13 = .ok (.if_icmp .le 5, 3) := by decide +kernel
theorem dX3_lastingReason_16 : decode cX3_lastingReason 16 = .ok (.iconst 2, 1) := by decide +kernel
theorem dX3_lastingReason_17 : decode cX3_lastingReason 17 = .ok (.ireturn, 1) := by decide +kernel
theorem dX3_lastingReason_18 : decode cX3_lastingReason 18 = .ok (.iconst 0, 1) := by decide +kernel
theorem dX3_lastingReason_19 : decode cX3_lastingReason 19 = .ok (.istore_n 3, 1) := by decide +kernel
theorem dX3_lastingReason_20 : decode cX3_lastingReason 20 = .ok (.iconst 0, 1) := by decide +kernel
theorem dX3_lastingReason_21 : decode cX3_lastingReason 21 = .ok (.istore 4, 2) := by decide +kernel
theorem dX3_lastingReason_23 : decode cX3_lastingReason 23 = .ok (.iconst 0, 1) := by decide +kernel
theorem dX3_lastingReason_24 : decode cX3_lastingReason 24 = .ok (.istore 5, 2) := by decide +kernel
theorem dX3_lastingReason_26 : decode cX3_lastingReason 26 = .ok (.iload 5, 2) := by decide +kernel
theorem dX3_lastingReason_28 : decode cX3_lastingReason 28 = .ok (.aload_n 0, 1) := by decide +kernel
theorem dX3_lastingReason_29 : decode cX3_lastingReason 29 = .ok (.getfield 17, 3) := by decide +kernel
theorem dX3_lastingReason_32 : decode cX3_lastingReason 32 = .ok (.getfield 31, 3) := by decide +kernel
theorem dX3_lastingReason_35 : decode cX3_lastingReason 35 = .ok (.if_icmp .ge 46, 3) := by decide +kernel
theorem dX3_lastingReason_38 : decode cX3_lastingReason 38 = .ok (.iload_n 1, 1) := by decide +kernel
theorem dX3_lastingReason_39 : decode cX3_lastingReason 39 = .ok (.iload 5, 2) := by decide +kernel
theorem dX3_lastingReason_41 : decode cX3_lastingReason 41 = .ok (.ishr, 1) := by decide +kernel
theorem dX3_lastingReason_42 : decode cX3_lastingReason 42 = .ok (.iconst 1, 1) := by decide +kernel
theorem dX3_lastingReason_43 : decode cX3_lastingReason 43 = .ok (.iand, 1) := by decide +kernel
theorem dX3_lastingReason_44 : decode cX3_lastingReason 44 = .ok (.ifCond .eq 31, 3) := by decide +kernel
theorem dX3_lastingReason_47 : decode cX3_lastingReason 47 = .ok (.iload_n 3, 1) := by decide +kernel
theorem dX3_lastingReason_48 : decode cX3_lastingReason 48 = .ok (.aload_n 0, 1) := by decide +kernel
theorem dX3_lastingReason_49 : decode cX3_lastingReason 49 = .ok (.getfield 17, 3) := by decide +kernel
theorem dX3_lastingReason_52 : decode cX3_lastingReason 52 = .ok (.getfield 57, 3) := by decide +kernel
theorem dX3_lastingReason_55 : decode cX3_lastingReason 55 = .ok (.iload 5, 2) := by decide +kernel
theorem dX3_lastingReason_57 : decode cX3_lastingReason 57 = .ok (.iaload, 1) := by decide +kernel
theorem dX3_lastingReason_58 : decode cX3_lastingReason 58 = .ok (.ior, 1) := by decide +kernel
theorem dX3_lastingReason_59 : decode cX3_lastingReason 59 = .ok (.istore_n 3, 1) := by decide +kernel
theorem dX3_lastingReason_60 : decode cX3_lastingReason 60 = .ok (.iload 4, 2) := by decide +kernel
theorem dX3_lastingReason_62 : decode cX3_lastingReason 62 = .ok (.aload_n 0, 1) := by decide +kernel
theorem dX3_lastingReason_63 : decode cX3_lastingReason 63 = .ok (.getfield 17, 3) := by decide +kernel
theorem dX3_lastingReason_66 : decode cX3_lastingReason 66 = .ok (.getfield 60, 3) := by decide +kernel
theorem dX3_lastingReason_69 : decode cX3_lastingReason 69 = .ok (.iload 5, 2) := by decide +kernel
theorem dX3_lastingReason_71 : decode cX3_lastingReason 71 = .ok (.iaload, 1) := by decide +kernel
theorem dX3_lastingReason_72 : decode cX3_lastingReason 72 = .ok (.ior, 1) := by decide +kernel
theorem dX3_lastingReason_73 : decode cX3_lastingReason 73 = .ok (.istore 4, 2) := by decide +kernel
theorem dX3_lastingReason_75 : decode cX3_lastingReason 75 = .ok (.iinc 5 1, 3) := by decide +kernel
theorem dX3_lastingReason_78 : decode cX3_lastingReason 78 = .ok (.goto (-52), 3) := by decide +kernel
theorem dX3_lastingReason_81 : decode cX3_lastingReason 81 = .ok (.iload_n 3, 1) := by decide +kernel
theorem dX3_lastingReason_82 : decode cX3_lastingReason 82 = .ok (.iload_n 1, 1) := by decide +kernel
theorem dX3_lastingReason_83 : decode cX3_lastingReason 83 = .ok (.iconst (-1), 1) := by decide +kernel
theorem dX3_lastingReason_84 : decode cX3_lastingReason 84 = .ok (.ixor, 1) := by decide +kernel
theorem dX3_lastingReason_85 : decode cX3_lastingReason 85 = .ok (.iand, 1) := by decide +kernel
theorem dX3_lastingReason_86 : decode cX3_lastingReason 86 = .ok (.ifCond .eq 5, 3) := by decide +kernel
theorem dX3_lastingReason_89 : decode cX3_lastingReason 89 = .ok (.iconst 3, 1) := by decide +kernel
theorem dX3_lastingReason_90 : decode cX3_lastingReason 90 = .ok (.ireturn, 1) := by decide +kernel
theorem dX3_lastingReason_91 : decode cX3_lastingReason 91 = .ok (.iload 4, 2) := by decide +kernel
theorem dX3_lastingReason_93 : decode cX3_lastingReason 93 = .ok (.iload_n 1, 1) := by decide +kernel
theorem dX3_lastingReason_94 : decode cX3_lastingReason 94 = .ok (.iand, 1) := by decide +kernel
theorem dX3_lastingReason_95 : decode cX3_lastingReason 95 = .ok (.ifCond .eq 7, 3) := by decide +kernel
theorem dX3_lastingReason_98 : decode cX3_lastingReason 98 = .ok (.iconst 4, 1) := by decide +kernel
theorem dX3_lastingReason_99 : decode cX3_lastingReason 99 = .ok (.goto 4, 3) := by decide +kernel
theorem dX3_lastingReason_102 : decode cX3_lastingReason 102 = .ok (.iconst 0, 1) := by decide +kernel
theorem dX3_lastingReason_103 : decode cX3_lastingReason 103 = .ok (.ireturn, 1) := by decide +kernel
theorem dX3_isLawful_0 : decode cX3_isLawful 0 = .ok (.iload_n 2, 1) := by decide +kernel
theorem dX3_isLawful_1 : decode cX3_isLawful 1 = .ok (.tableswitch 80 0 3 #[31, 48, 65, 74], 31) := by decide +kernel
theorem dX3_isLawful_32 : decode cX3_isLawful 32 = .ok (.aload_n 0, 1) := by decide +kernel
theorem dX3_isLawful_33 : decode cX3_isLawful 33 = .ok (.iload_n 1, 1) := by decide +kernel
theorem dX3_isLawful_34 : decode cX3_isLawful 34 = .ok (.invokevirtual 63, 3) := by decide +kernel
theorem dX3_isLawful_37 : decode cX3_isLawful 37 = .ok (.bipush 10, 2) := by decide +kernel
theorem dX3_isLawful_39 : decode cX3_isLawful 39 = .ok (.irem, 1) := by decide +kernel
theorem dX3_isLawful_40 : decode cX3_isLawful 40 = .ok (.ifCond .ne 7, 3) := by decide +kernel
theorem dX3_isLawful_43 : decode cX3_isLawful 43 = .ok (.iconst 1, 1) := by decide +kernel
theorem dX3_isLawful_44 : decode cX3_isLawful 44 = .ok (.goto 4, 3) := by decide +kernel
theorem dX3_isLawful_47 : decode cX3_isLawful 47 = .ok (.iconst 0, 1) := by decide +kernel
theorem dX3_isLawful_48 : decode cX3_isLawful 48 = .ok (.ireturn, 1) := by decide +kernel
theorem dX3_isLawful_49 : decode cX3_isLawful 49 = .ok (.aload_n 0, 1) := by decide +kernel
theorem dX3_isLawful_50 : decode cX3_isLawful 50 = .ok (.iload_n 1, 1) := by decide +kernel
theorem dX3_isLawful_51 : decode cX3_isLawful 51 = .ok (.invokevirtual 63, 3) := by decide +kernel
theorem dX3_isLawful_54 : decode cX3_isLawful 54 = .ok (.bipush 7, 2) := by decide +kernel
theorem dX3_isLawful_56 : decode cX3_isLawful 56 = .ok (.irem, 1) := by decide +kernel
theorem dX3_isLawful_57 : decode cX3_isLawful 57 = .ok (.ifCond .ne 7, 3) := by decide +kernel
theorem dX3_isLawful_60 : decode cX3_isLawful 60 = .ok (.iconst 1, 1) := by decide +kernel
theorem dX3_isLawful_61 : decode cX3_isLawful 61 = .ok (.goto 4, 3) := by decide +kernel
theorem dX3_isLawful_64 : decode cX3_isLawful 64 = .ok (.iconst 0, 1) := by decide +kernel
theorem dX3_isLawful_65 : decode cX3_isLawful 65 = .ok (.ireturn, 1) := by decide +kernel
theorem dX3_isLawful_66 : decode cX3_isLawful 66 = .ok (.aload_n 0, 1) := by decide +kernel
theorem dX3_isLawful_67 : decode cX3_isLawful 67 = .ok (.iload_n 1, 1) := by decide +kernel
theorem dX3_isLawful_68 : decode cX3_isLawful 68 = .ok (.invokevirtual 63, 3) := by decide +kernel
theorem dX3_isLawful_71 : decode cX3_isLawful 71 = .ok (.invokestatic 66, 3) := by decide +kernel
theorem dX3_isLawful_74 : decode cX3_isLawful 74 = .ok (.ireturn, 1) := by decide +kernel
theorem dX3_isLawful_75 : decode cX3_isLawful 75 = .ok (.aload_n 0, 1) := by decide +kernel
theorem dX3_isLawful_76 : decode cX3_isLawful 76 = .ok (.iload_n 1, 1) := by decide +kernel
theorem dX3_isLawful_77 : decode cX3_isLawful 77 = .ok (.invokevirtual 70, 3) := by decide +kernel
theorem dX3_isLawful_80 : decode cX3_isLawful 80 = .ok (.ireturn, 1) := by decide +kernel
theorem dX3_isLawful_81 : decode cX3_isLawful 81 = .ok (.aload_n 0, 1) := by decide +kernel
theorem dX3_isLawful_82 : decode cX3_isLawful 82 = .ok (.iload_n 1, 1) := by decide +kernel
theorem dX3_isLawful_83 : decode cX3_isLawful 83 = .ok (.invokevirtual 63, 3) := by decide +kernel
theorem dX3_isLawful_86 : decode cX3_isLawful 86 = .ok (.bipush 10, 2) := by decide +kernel
theorem dX3_isLawful_88 : decode cX3_isLawful 88 = .ok (.irem, 1) := by decide +kernel
theorem dX3_isLawful_89 : decode cX3_isLawful 89 = .ok (.ifCond .ne 15, 3) := by decide +kernel
theorem dX3_isLawful_92 : decode cX3_isLawful 92 = .ok (.aload_n 0, 1) := by decide +kernel
theorem dX3_isLawful_93 : decode cX3_isLawful 93 = .ok (.iload_n 1, 1) := by decide +kernel
theorem dX3_isLawful_94 : decode cX3_isLawful 94 = .ok (.invokevirtual 70, 3) := by decide +kernel
theorem dX3_isLawful_97 : decode cX3_isLawful 97 = .ok (.ifCond .eq 7, 3) := by decide +kernel
theorem dX3_isLawful_100 : decode cX3_isLawful 100 = .ok (.iconst 1, 1) := by decide +kernel
theorem dX3_isLawful_101 : decode cX3_isLawful 101 = .ok (.goto 4, 3) := by decide +kernel
theorem dX3_isLawful_104 : decode cX3_isLawful 104 = .ok (.iconst 0, 1) := by decide +kernel
theorem dX3_isLawful_105 : decode cX3_isLawful 105 = .ok (.ireturn, 1) := by decide +kernel
theorem dX3_yearsTogether_0 : decode cX3_yearsTogether 0 = .ok (.iconst 0, 1) := by decide +kernel
theorem dX3_yearsTogether_1 : decode cX3_yearsTogether 1 = .ok (.istore_n 2, 1) := by decide +kernel
theorem dX3_yearsTogether_2 : decode cX3_yearsTogether 2 = .ok (.iconst 0, 1) := by decide +kernel
theorem dX3_yearsTogether_3 : decode cX3_yearsTogether 3 = .ok (.istore_n 3, 1) := by decide +kernel
theorem dX3_yearsTogether_4 : decode cX3_yearsTogether 4 = .ok (.iload_n 3, 1) := by decide +kernel
theorem dX3_yearsTogether_5 : decode cX3_yearsTogether 5 = .ok (.aload_n 0, 1) := by decide +kernel
theorem dX3_yearsTogether_6 : decode cX3_yearsTogether 6 = .ok (.getfield 17, 3) := by decide +kernel
theorem dX3_yearsTogether_9 : decode cX3_yearsTogether 9 = .ok (.getfield 31, 3) := by decide +kernel
theorem dX3_yearsTogether_12 : decode cX3_yearsTogether 12 = .ok (.if_icmp .ge 26, 3) := by decide +kernel
theorem dX3_yearsTogether_15 : decode cX3_yearsTogether 15 = .ok (.iload_n 1, 1) := by decide +kernel
theorem dX3_yearsTogether_16 : decode cX3_yearsTogether 16 = .ok (.iload_n 3, 1) := by decide +kernel
theorem dX3_yearsTogether_17 : decode cX3_yearsTogether 17 = .ok (.ishr, 1) := by decide +kernel
theorem dX3_yearsTogether_18 : decode cX3_yearsTogether 18 = .ok (.iconst 1, 1) := by decide +kernel
theorem dX3_yearsTogether_19 : decode cX3_yearsTogether 19 = .ok (.iand, 1) := by decide +kernel
theorem dX3_yearsTogether_20 : decode cX3_yearsTogether 20 = .ok (.ifCond .eq 12, 3) := by decide +kernel
theorem dX3_yearsTogether_23 : decode cX3_yearsTogether 23 = .ok (.iload_n 2, 1) := by decide +kernel
theorem dX3_yearsTogether_24 : decode cX3_yearsTogether 24 = .ok (.aload_n 0, 1) := by decide +kernel
theorem dX3_yearsTogether_25 : decode cX3_yearsTogether 25 = .ok (.getfield 11, 3) := by decide +kernel
theorem dX3_yearsTogether_28 : decode cX3_yearsTogether 28 = .ok (.iload_n 3, 1) := by decide +kernel
theorem dX3_yearsTogether_29 : decode cX3_yearsTogether 29 = .ok (.iaload, 1) := by decide +kernel
theorem dX3_yearsTogether_30 : decode cX3_yearsTogether 30 = .ok (.iadd, 1) := by decide +kernel
theorem dX3_yearsTogether_31 : decode cX3_yearsTogether 31 = .ok (.istore_n 2, 1) := by decide +kernel
theorem dX3_yearsTogether_32 : decode cX3_yearsTogether 32 = .ok (.iinc 3 1, 3) := by decide +kernel
theorem dX3_yearsTogether_35 : decode cX3_yearsTogether 35 = .ok (.goto (-31), 3) := by decide +kernel
theorem dX3_yearsTogether_38 : decode cX3_yearsTogether 38 = .ok (.iload_n 2, 1) := by decide +kernel
theorem dX3_yearsTogether_39 : decode cX3_yearsTogether 39 = .ok (.ireturn, 1) := by decide +kernel
theorem dX3_isSquare_0 : decode cX3_isSquare 0 = .ok (.iconst 0, 1) := by decide +kernel
theorem dX3_isSquare_1 : decode cX3_isSquare 1 = .ok (.istore_n 1, 1) := by decide +kernel
theorem dX3_isSquare_2 : decode cX3_isSquare 2 = .ok (.iload_n 1, 1) := by decide +kernel
theorem dX3_isSquare_3 : decode cX3_isSquare 3 = .ok (.bipush 57, 2) := by decide +kernel
theorem dX3_isSquare_5 : decode cX3_isSquare 5 = .ok (.if_icmp .gt 18, 3) := by decide +kernel
theorem dX3_isSquare_8 : decode cX3_isSquare 8 = .ok (.iload_n 1, 1) := by decide +kernel
theorem dX3_isSquare_9 : decode cX3_isSquare 9 = .ok (.iload_n 1, 1) := by decide +kernel
theorem dX3_isSquare_10 : decode cX3_isSquare 10 = .ok (.imul, 1) := by decide +kernel
theorem dX3_isSquare_11 : decode cX3_isSquare 11 = .ok (.iload_n 0, 1) := by decide +kernel
theorem dX3_isSquare_12 : decode cX3_isSquare 12 = .ok (.if_icmp .ne 5, 3) := by decide +kernel
theorem dX3_isSquare_15 : decode cX3_isSquare 15 = .ok (.iconst 1, 1) := by decide +kernel
theorem dX3_isSquare_16 : decode cX3_isSquare 16 = .ok (.ireturn, 1) := by decide +kernel
theorem dX3_isSquare_17 : decode cX3_isSquare 17 = .ok (.iinc 1 1, 3) := by decide +kernel
theorem dX3_isSquare_20 : decode cX3_isSquare 20 = .ok (.goto (-18), 3) := by decide +kernel
theorem dX3_isSquare_23 : decode cX3_isSquare 23 = .ok (.iconst 0, 1) := by decide +kernel
theorem dX3_isSquare_24 : decode cX3_isSquare 24 = .ok (.ireturn, 1) := by decide +kernel
theorem dX3_isUnlike_0 : decode cX3_isUnlike 0 = .ok (.iconst 1, 1) := by decide +kernel
theorem dX3_isUnlike_1 : decode cX3_isUnlike 1 = .ok (.istore_n 2, 1) := by decide +kernel
theorem dX3_isUnlike_2 : decode cX3_isUnlike 2 = .ok (.iload_n 2, 1) := by decide +kernel
theorem dX3_isUnlike_3 : decode cX3_isUnlike 3 = .ok (.aload_n 0, 1) := by decide +kernel
theorem dX3_isUnlike_4 : decode cX3_isUnlike 4 = .ok (.getfield 17, 3) := by decide +kernel
theorem dX3_isUnlike_7 : decode cX3_isUnlike 7 = .ok (.getfield 31, 3) := by decide +kernel
theorem dX3_isUnlike_10 : decode cX3_isUnlike 10 = .ok (.if_icmp .ge 51, 3) := by decide +kernel
theorem dX3_isUnlike_13 : decode cX3_isUnlike 13 = .ok (.iconst 0, 1) := by decide +kernel
theorem dX3_isUnlike_14 : decode cX3_isUnlike 14 = .ok (.istore_n 3, 1) := by decide +kernel
theorem dX3_isUnlike_15 : decode cX3_isUnlike 15 = .ok (.iload_n 3, 1) := by decide +kernel
theorem dX3_isUnlike_16 : decode cX3_isUnlike 16 = .ok (.iload_n 2, 1) := by decide +kernel
theorem dX3_isUnlike_17 : decode cX3_isUnlike 17 = .ok (.if_icmp .ge 38, 3) := by decide +kernel
theorem dX3_isUnlike_20 : decode cX3_isUnlike 20 = .ok (.iload_n 1, 1) := by decide +kernel
theorem dX3_isUnlike_21 : decode cX3_isUnlike 21 = .ok (.iload_n 2, 1) := by decide +kernel
theorem dX3_isUnlike_22 : decode cX3_isUnlike 22 = .ok (.ishr, 1) := by decide +kernel
theorem dX3_isUnlike_23 : decode cX3_isUnlike 23 = .ok (.iload_n 1, 1) := by decide +kernel
theorem dX3_isUnlike_24 : decode cX3_isUnlike 24 = .ok (.iload_n 3, 1) := by decide +kernel
theorem dX3_isUnlike_25 : decode cX3_isUnlike 25 = .ok (.ishr, 1) := by decide +kernel
theorem dX3_isUnlike_26 : decode cX3_isUnlike 26 = .ok (.iand, 1) := by decide +kernel
theorem dX3_isUnlike_27 : decode cX3_isUnlike 27 = .ok (.iconst 1, 1) := by decide +kernel
theorem dX3_isUnlike_28 : decode cX3_isUnlike 28 = .ok (.iand, 1) := by decide +kernel
theorem dX3_isUnlike_29 : decode cX3_isUnlike 29 = .ok (.ifCond .eq 20, 3) := by decide +kernel
theorem dX3_isUnlike_32 : decode cX3_isUnlike 32 = .ok (.aload_n 0, 1) := by decide +kernel
theorem dX3_isUnlike_33 : decode cX3_isUnlike 33 = .ok (.getfield 11, 3) := by decide +kernel
theorem dX3_isUnlike_36 : decode cX3_isUnlike 36 = .ok (.iload_n 2, 1) := by decide +kernel
theorem dX3_isUnlike_37 : decode cX3_isUnlike 37 = .ok (.iaload, 1) := by decide +kernel
theorem dX3_isUnlike_38 : decode cX3_isUnlike 38 = .ok (.aload_n 0, 1) := by decide +kernel
theorem dX3_isUnlike_39 : decode cX3_isUnlike 39 = .ok (.getfield 11, 3) := by decide +kernel
theorem dX3_isUnlike_42 : decode cX3_isUnlike 42 = .ok (.iload_n 3, 1) := by decide +kernel
theorem dX3_isUnlike_43 : decode cX3_isUnlike 43 = .ok (.iaload, 1) := by decide +kernel
theorem dX3_isUnlike_44 : decode cX3_isUnlike 44 = .ok (.if_icmp .ne 5, 3) := by decide +kernel
theorem dX3_isUnlike_47 : decode cX3_isUnlike 47 = .ok (.iconst 0, 1) := by decide +kernel
theorem dX3_isUnlike_48 : decode cX3_isUnlike 48 = .ok (.ireturn, 1) := by decide +kernel
theorem dX3_isUnlike_49 : decode cX3_isUnlike 49 = .ok (.iinc 3 1, 3) := by decide +kernel
theorem dX3_isUnlike_52 : decode cX3_isUnlike 52 = .ok (.goto (-37), 3) := by decide +kernel
theorem dX3_isUnlike_55 : decode cX3_isUnlike 55 = .ok (.iinc 2 1, 3) := by decide +kernel
theorem dX3_isUnlike_58 : decode cX3_isUnlike 58 = .ok (.goto (-56), 3) := by decide +kernel
theorem dX3_isUnlike_61 : decode cX3_isUnlike 61 = .ok (.iconst 1, 1) := by decide +kernel
theorem dX3_isUnlike_62 : decode cX3_isUnlike 62 = .ok (.ireturn, 1) := by decide +kernel
theorem dX3_changeBehind_0 : decode cX3_changeBehind 0 = .ok (.iload_n 2, 1) := by decide +kernel
theorem dX3_changeBehind_1 : decode cX3_changeBehind 1 = .ok (.invokestatic 21, 3) := by decide +kernel
theorem dX3_changeBehind_4 : decode cX3_changeBehind 4 = .ok (.istore_n 3, 1) := by decide +kernel
theorem dX3_changeBehind_5 : decode cX3_changeBehind 5 = .ok (.ldc 73, 2) := by decide +kernel
theorem dX3_changeBehind_7 : decode cX3_changeBehind 7 = .ok (.istore 4, 2) := by decide +kernel
theorem dX3_changeBehind_9 : decode cX3_changeBehind 9 = .ok (.iconst 0, 1) := by decide +kernel
theorem dX3_changeBehind_10 : decode cX3_changeBehind 10 = .ok (.istore 5, 2) := by decide +kernel
theorem dX3_changeBehind_12 : decode cX3_changeBehind 12 = .ok (.iload 5, 2) := by decide +kernel
theorem dX3_changeBehind_14 : decode cX3_changeBehind 14 = .ok (.aload_n 0, 1) := by decide +kernel
theorem dX3_changeBehind_15 : decode cX3_changeBehind 15 = .ok (.getfield 17, 3) := by decide +kernel
theorem dX3_changeBehind_18 : decode cX3_changeBehind 18 = .ok (.getfield 31, 3) := by decide +kernel
theorem dX3_changeBehind_21 : decode cX3_changeBehind 21 = .ok (.if_icmp .ge 36, 3) := by decide +kernel
theorem dX3_changeBehind_24 : decode cX3_changeBehind 24 = .ok (.iload_n 1, 1) := by decide +kernel
theorem dX3_changeBehind_25 : decode cX3_changeBehind 25 = .ok (.iload 5, 2) := by decide +kernel
theorem dX3_changeBehind_27 : decode cX3_changeBehind 27 = .ok (.ishr, 1) := by decide +kernel
theorem dX3_changeBehind_28 : decode cX3_changeBehind 28 = .ok (.iconst 1, 1) := by decide +kernel
theorem dX3_changeBehind_29 : decode cX3_changeBehind 29 = .ok (.iand, 1) := by decide +kernel
theorem dX3_changeBehind_30 : decode cX3_changeBehind 30 = .ok (.ifCond .eq 21, 3) := by decide +kernel
theorem dX3_changeBehind_33 : decode cX3_changeBehind 33 = .ok (.iload 4, 2) := by decide +kernel
theorem dX3_changeBehind_35 : decode cX3_changeBehind 35 = .ok (.aload_n 0, 1) := by decide +kernel
theorem dX3_changeBehind_36 : decode cX3_changeBehind 36 = .ok (.getfield 17, 3) := by decide +kernel
theorem dX3_changeBehind_39 : decode cX3_changeBehind 39 = .ok (.iload 5, 2) := by decide +kernel
theorem dX3_changeBehind_41 : decode cX3_changeBehind 41 = .ok (.iload_n 2, 1) := by decide +kernel
theorem dX3_changeBehind_42 : decode cX3_changeBehind 42 = .ok (.iload_n 3, 1) := by decide +kernel
theorem dX3_changeBehind_43 : decode cX3_changeBehind 43 = .ok (.invokevirtual 74, 3) := by decide +kernel
theorem dX3_changeBehind_46 : decode cX3_changeBehind 46 = .ok (.invokestatic 77, 3) := by decide +kernel
theorem dX3_changeBehind_49 : decode cX3_changeBehind 49 = .ok (.istore 4, 2) := by decide +kernel
theorem dX3_changeBehind_51 : decode cX3_changeBehind 51 = .ok (.iinc 5 1, 3) := by decide +kernel
theorem dX3_changeBehind_54 : decode cX3_changeBehind 54 = .ok (.goto (-42), 3) := by decide +kernel
theorem dX3_changeBehind_57 : decode cX3_changeBehind 57 = .ok (.iload 4, 2) := by decide +kernel
theorem dX3_changeBehind_59 : decode cX3_changeBehind 59 = .ok (.ireturn, 1) := by decide +kernel
theorem dX3_firstDay_0 : decode cX3_firstDay 0 = .ok (.aload_n 0, 1) := by decide +kernel
theorem dX3_firstDay_1 : decode cX3_firstDay 1 = .ok (.iload_n 1, 1) := by decide +kernel
theorem dX3_firstDay_2 : decode cX3_firstDay 2 = .ok (.iload_n 2, 1) := by decide +kernel
theorem dX3_firstDay_3 : decode cX3_firstDay 3 = .ok (.invokevirtual 38, 3) := by decide +kernel
theorem dX3_firstDay_6 : decode cX3_firstDay 6 = .ok (.ifCond .eq 5, 3) := by decide +kernel
theorem dX3_firstDay_9 : decode cX3_firstDay 9 = .ok (.iconst (-1), 1) := by decide +kernel
theorem dX3_firstDay_10 : decode cX3_firstDay 10 = .ok (.ireturn, 1) := by decide +kernel
theorem dX3_firstDay_11 : decode cX3_firstDay 11 = .ok (.iload_n 3, 1) := by decide +kernel
theorem dX3_firstDay_12 : decode cX3_firstDay 12 = .ok (.istore 4, 2) := by decide +kernel
theorem dX3_firstDay_14 : decode cX3_firstDay 14 = .ok (.iconst 0, 1) := by decide +kernel
theorem dX3_firstDay_15 : decode cX3_firstDay 15 = .ok (.istore 5, 2) := by decide +kernel
theorem dX3_firstDay_17 : decode cX3_firstDay 17 = .ok (.iload 5, 2) := by decide +kernel
theorem dX3_firstDay_19 : decode cX3_firstDay 19 = .ok (.ldc 82, 2) := by decide +kernel
theorem dX3_firstDay_21 : decode cX3_firstDay 21 = .ok (.if_icmp .gt 43, 3) := by decide +kernel
theorem dX3_firstDay_24 : decode cX3_firstDay 24 = .ok (.iload 4, 2) := by decide +kernel
theorem dX3_firstDay_26 : decode cX3_firstDay 26 = .ok (.ldc 82, 2) := by decide +kernel
theorem dX3_firstDay_28 : decode cX3_firstDay 28 = .ok (.if_icmp .gt 36, 3) := by decide +kernel
theorem dX3_firstDay_31 : decode cX3_firstDay 31 = .ok (.aload_n 0, 1) := by decide +kernel
theorem dX3_firstDay_32 : decode cX3_firstDay 32 = .ok (.iload 4, 2) := by decide +kernel
theorem dX3_firstDay_34 : decode cX3_firstDay 34 = .ok (.invokevirtual 83, 3) := by decide +kernel
theorem dX3_firstDay_37 : decode cX3_firstDay 37 = .ok (.aload_n 0, 1) := by decide +kernel
theorem dX3_firstDay_38 : decode cX3_firstDay 38 = .ok (.iload_n 1, 1) := by decide +kernel
theorem dX3_firstDay_39 : decode cX3_firstDay 39 = .ok (.iload_n 2, 1) := by decide +kernel
theorem dX3_firstDay_40 : decode cX3_firstDay 40 = .ok (.invokevirtual 87, 3) := by decide +kernel
theorem dX3_firstDay_43 : decode cX3_firstDay 43 = .ok (.ifCond .ne 6, 3) := by decide +kernel
theorem dX3_firstDay_46 : decode cX3_firstDay 46 = .ok (.iload 4, 2) := by decide +kernel
theorem dX3_firstDay_48 : decode cX3_firstDay 48 = .ok (.ireturn, 1) := by decide +kernel
theorem dX3_firstDay_49 : decode cX3_firstDay 49 = .ok (.aload_n 0, 1) := by decide +kernel
theorem dX3_firstDay_50 : decode cX3_firstDay 50 = .ok (.iload_n 1, 1) := by decide +kernel
theorem dX3_firstDay_51 : decode cX3_firstDay 51 = .ok (.iload 4, 2) := by decide +kernel
theorem dX3_firstDay_53 : decode cX3_firstDay 53 = .ok (.invokevirtual 90, 3) := by decide +kernel
theorem dX3_firstDay_56 : decode cX3_firstDay 56 = .ok (.istore 4, 2) := by decide +kernel
theorem dX3_firstDay_58 : decode cX3_firstDay 58 = .ok (.iinc 5 1, 3) := by decide +kernel
theorem dX3_firstDay_61 : decode cX3_firstDay 61 = .ok (.goto (-44), 3) := by decide +kernel
theorem dX3_firstDay_64 : decode cX3_firstDay 64 = .ok (.iconst (-1), 1) := by decide +kernel
theorem dX3_firstDay_65 : decode cX3_firstDay 65 = .ok (.ireturn, 1) := by decide +kernel
theorem dX3_daysOfYear_0 : decode cX3_daysOfYear 0 = .ok (.iload_n 3, 1) := by decide +kernel
theorem dX3_daysOfYear_1 : decode cX3_daysOfYear 1 = .ok (.iconst 1, 1) := by decide +kernel
theorem dX3_daysOfYear_2 : decode cX3_daysOfYear 2 = .ok (.iadd, 1) := by decide +kernel
theorem dX3_daysOfYear_3 : decode cX3_daysOfYear 3 = .ok (.invokestatic 93, 3) := by decide +kernel
theorem dX3_daysOfYear_6 : decode cX3_daysOfYear 6 = .ok (.istore 4, 2) := by decide +kernel
theorem dX3_daysOfYear_8 : decode cX3_daysOfYear 8 = .ok (.iload_n 3, 1) := by decide +kernel
theorem dX3_daysOfYear_9 : decode cX3_daysOfYear 9 = .ok (.invokestatic 93, 3) := by decide +kernel
theorem dX3_daysOfYear_12 : decode cX3_daysOfYear 12 = .ok (.istore 5, 2) := by decide +kernel
theorem dX3_daysOfYear_14 : decode cX3_daysOfYear 14 = .ok (.iconst 0, 1) := by decide +kernel
theorem dX3_daysOfYear_15 : decode cX3_daysOfYear 15 = .ok (.istore 6, 2) := by decide +kernel
theorem dX3_daysOfYear_17 : decode cX3_daysOfYear 17 = .ok (.iconst 0, 1) := by decide +kernel
theorem dX3_daysOfYear_18 : decode cX3_daysOfYear 18 = .ok (.istore 7, 2) := by decide +kernel
theorem dX3_daysOfYear_20 : decode cX3_daysOfYear 20 = .ok (.iload 7, 2) := by decide +kernel
theorem dX3_daysOfYear_22 : decode cX3_daysOfYear 22 = .ok (.sipush 366, 3) := by decide +kernel
theorem dX3_daysOfYear_25 : decode cX3_daysOfYear 25 = .ok (.if_icmp .ge 59, 3) := by decide +kernel
theorem dX3_daysOfYear_28 : decode cX3_daysOfYear 28 = .ok (.iload 5, 2) := by decide +kernel
theorem dX3_daysOfYear_30 : decode cX3_daysOfYear 30 = .ok (.iload 4, 2) := by decide +kernel
theorem dX3_daysOfYear_32 : decode cX3_daysOfYear 32 = .ok (.if_icmp .ge 52, 3) := by decide +kernel
theorem dX3_daysOfYear_35 : decode cX3_daysOfYear 35 = .ok (.aload_n 0, 1) := by decide +kernel
theorem dX3_daysOfYear_36 : decode cX3_daysOfYear 36 = .ok (.iload_n 1, 1) := by decide +kernel
theorem dX3_daysOfYear_37 : decode cX3_daysOfYear 37 = .ok (.iload 5, 2) := by decide +kernel
theorem dX3_daysOfYear_39 : decode cX3_daysOfYear 39 = .ok (.invokevirtual 90, 3) := by decide +kernel
theorem dX3_daysOfYear_42 : decode cX3_daysOfYear 42 = .ok (.iload 4, 2) := by decide +kernel
theorem dX3_daysOfYear_44 : decode cX3_daysOfYear 44 = .ok (.invokestatic 77, 3) := by decide +kernel
end
section
theorem dX3_daysOfYear_47 : decode cX3_daysOfYear 47 = .ok (.istore 8, 2) := by decide +kernel
theorem dX3_daysOfYear_49 : decode cX3_daysOfYear 49 = .ok (.aload_n 0, 1) := by decide +kernel
theorem dX3_daysOfYear_50 : decode cX3_daysOfYear 50 = .ok (.iload 5, 2) := by decide +kernel
theorem dX3_daysOfYear_52 : decode cX3_daysOfYear 52 = .ok (.invokevirtual 83, 3) := by decide +kernel
theorem dX3_daysOfYear_55 : decode cX3_daysOfYear 55 = .ok (.aload_n 0, 1) := by decide +kernel
theorem dX3_daysOfYear_56 : decode cX3_daysOfYear 56 = .ok (.iload_n 1, 1) := by decide +kernel
theorem dX3_daysOfYear_57 : decode cX3_daysOfYear 57 = .ok (.iload_n 2, 1) := by decide +kernel
theorem dX3_daysOfYear_58 : decode cX3_daysOfYear 58 = .ok (.invokevirtual 87, 3) := by decide +kernel
theorem dX3_daysOfYear_61 : decode cX3_daysOfYear 61 = .ok (.ifCond .ne 13, 3) := by decide +kernel
theorem dX3_daysOfYear_64 : decode cX3_daysOfYear 64 = .ok (.iload 6, 2) := by decide +kernel
theorem dX3_daysOfYear_66 : decode cX3_daysOfYear 66 = .ok (.iload 8, 2) := by decide +kernel
theorem dX3_daysOfYear_68 : decode cX3_daysOfYear 68 = .ok (.iload 5, 2) := by decide +kernel
theorem dX3_daysOfYear_70 : decode cX3_daysOfYear 70 = .ok (.isub, 1) := by decide +kernel
theorem dX3_daysOfYear_71 : decode cX3_daysOfYear 71 = .ok (.iadd, 1) := by decide +kernel
theorem dX3_daysOfYear_72 : decode cX3_daysOfYear 72 = .ok (.istore 6, 2) := by decide +kernel
theorem dX3_daysOfYear_74 : decode cX3_daysOfYear 74 = .ok (.iload 8, 2) := by decide +kernel
theorem dX3_daysOfYear_76 : decode cX3_daysOfYear 76 = .ok (.istore 5, 2) := by decide +kernel
theorem dX3_daysOfYear_78 : decode cX3_daysOfYear 78 = .ok (.iinc 7 1, 3) := by decide +kernel
theorem dX3_daysOfYear_81 : decode cX3_daysOfYear 81 = .ok (.goto (-61), 3) := by decide +kernel
theorem dX3_daysOfYear_84 : decode cX3_daysOfYear 84 = .ok (.iload 6, 2) := by decide +kernel
theorem dX3_daysOfYear_86 : decode cX3_daysOfYear 86 = .ok (.ireturn, 1) := by decide +kernel
theorem dX4_init_0 : decode cX4_init 0 = .ok (.aload_n 0, 1) := by decide +kernel
theorem dX4_init_1 : decode cX4_init 1 = .ok (.invokespecial 5, 3) := by decide +kernel
theorem dX4_init_4 : decode cX4_init 4 = .ok (.aload_n 0, 1) := by decide +kernel
theorem dX4_init_5 : decode cX4_init 5 = .ok (.sipush 256, 3) := by decide +kernel
theorem dX4_init_8 : decode cX4_init 8 = .ok (.newarray .boolean, 2) := by decide +kernel
theorem dX4_init_10 : decode cX4_init 10 = .ok (.putfield 13, 3) := by decide +kernel
theorem dX4_init_13 : decode cX4_init 13 = .ok (.aload_n 0, 1) := by decide +kernel
theorem dX4_init_14 : decode cX4_init 14 = .ok (.sipush 256, 3) := by decide +kernel
theorem dX4_init_17 : decode cX4_init 17 = .ok (.newarray .int, 2) := by decide +kernel
theorem dX4_init_19 : decode cX4_init 19 = .ok (.putfield 17, 3) := by decide +kernel
theorem dX4_init_22 : decode cX4_init 22 = .ok (.aload_n 0, 1) := by decide +kernel
theorem dX4_init_23 : decode cX4_init 23 = .ok (.bipush 8, 2) := by decide +kernel
theorem dX4_init_25 : decode cX4_init 25 = .ok (.newarray .int, 2) := by decide +kernel
theorem dX4_init_27 : decode cX4_init 27 = .ok (.putfield 21, 3) := by decide +kernel
theorem dX4_init_30 : decode cX4_init 30 = .ok (.aload_n 0, 1) := by decide +kernel
theorem dX4_init_31 : decode cX4_init 31 = .ok (.aload_n 1, 1) := by decide +kernel
theorem dX4_init_32 : decode cX4_init 32 = .ok (.putfield 24, 3) := by decide +kernel
theorem dX4_init_35 : decode cX4_init 35 = .ok (.return_, 1) := by decide +kernel
theorem dX4_weigh_0 : decode cX4_weigh 0 = .ok (.aload_n 0, 1) := by decide +kernel
theorem dX4_weigh_1 : decode cX4_weigh 1 = .ok (.getfield 17, 3) := by decide +kernel
theorem dX4_weigh_4 : decode cX4_weigh 4 = .ok (.iconst 0, 1) := by decide +kernel
theorem dX4_weigh_5 : decode cX4_weigh 5 = .ok (.iconst 0, 1) := by decide +kernel
theorem dX4_weigh_6 : decode cX4_weigh 6 = .ok (.iastore, 1) := by decide +kernel
theorem dX4_weigh_7 : decode cX4_weigh 7 = .ok (.iconst 1, 1) := by decide +kernel
theorem dX4_weigh_8 : decode cX4_weigh 8 = .ok (.istore_n 3, 1) := by decide +kernel
theorem dX4_weigh_9 : decode cX4_weigh 9 = .ok (.iload_n 3, 1) := by decide +kernel
theorem dX4_weigh_10 : decode cX4_weigh 10 = .ok (.iload_n 1, 1) := by decide +kernel
theorem dX4_weigh_11 : decode cX4_weigh 11 = .ok (.if_icmp .gt 58, 3) := by decide +kernel
theorem dX4_weigh_14 : decode cX4_weigh 14 = .ok (.iload_n 3, 1) := by decide +kernel
theorem dX4_weigh_15 : decode cX4_weigh 15 = .ok (.sipush 256, 3) := by decide +kernel
theorem dX4_weigh_18 : decode cX4_weigh 18 = .ok (.if_icmp .ge 51, 3) := by decide +kernel
theorem dX4_weigh_21 : decode cX4_weigh 21 = .ok (.iload_n 3, 1) := by decide +kernel
theorem dX4_weigh_22 : decode cX4_weigh 22 = .ok (.iload_n 1, 1) := by decide +kernel
theorem dX4_weigh_23 : decode cX4_weigh 23 = .ok (.iconst (-1), 1) := by decide +kernel
theorem dX4_weigh_24 : decode cX4_weigh 24 = .ok (.ixor, 1) := by decide +kernel
theorem dX4_weigh_25 : decode cX4_weigh 25 = .ok (.iand, 1) := by decide +kernel
theorem dX4_weigh_26 : decode cX4_weigh 26 = .ok (.ifCond .ne 37, 3) := by decide +kernel
theorem dX4_weigh_29 : decode cX4_weigh 29 = .ok (.aload_n 0, 1) := by decide +kernel
theorem dX4_weigh_30 : decode cX4_weigh 30 = .ok (.getfield 13, 3) := by decide +kernel
theorem dX4_weigh_33 : decode cX4_weigh 33 = .ok (.iload_n 3, 1) := by decide +kernel
theorem dX4_weigh_34 : decode cX4_weigh 34 = .ok (.aload_n 0, 1) := by decide +kernel
theorem dX4_weigh_35 : decode cX4_weigh 35 = .ok (.getfield 24, 3) := by decide +kernel
theorem dX4_weigh_38 : decode cX4_weigh 38 = .ok (.iload_n 3, 1) := by decide +kernel
theorem dX4_weigh_39 : decode cX4_weigh 39 = .ok (.iload_n 2, 1) := by decide +kernel
theorem dX4_weigh_40 : decode cX4_weigh 40 = .ok (.invokevirtual 28, 3) := by decide +kernel
theorem dX4_weigh_43 : decode cX4_weigh 43 = .ok (.ifCond .ne 7, 3) := by decide +kernel
theorem dX4_weigh_46 : decode cX4_weigh 46 = .ok (.iconst 1, 1) := by decide +kernel
theorem dX4_weigh_47 : decode cX4_weigh 47 = .ok (.goto 4, 3) := by decide +kernel
theorem dX4_weigh_50 : decode cX4_weigh 50 = .ok (.iconst 0, 1) := by decide +kernel
theorem dX4_weigh_51 : decode cX4_weigh 51 = .ok (.bastore, 1) := by decide +kernel
theorem dX4_weigh_52 : decode cX4_weigh 52 = .ok (.aload_n 0, 1) := by decide +kernel
theorem dX4_weigh_53 : decode cX4_weigh 53 = .ok (.getfield 17, 3) := by decide +kernel
theorem dX4_weigh_56 : decode cX4_weigh 56 = .ok (.iload_n 3, 1) := by decide +kernel
theorem dX4_weigh_57 : decode cX4_weigh 57 = .ok (.aload_n 0, 1) := by decide +kernel
theorem dX4_weigh_58 : decode cX4_weigh 58 = .ok (.iload_n 3, 1) := by decide +kernel
theorem dX4_weigh_59 : decode cX4_weigh 59 = .ok (.invokevirtual 34, 3) := by decide +kernel
theorem dX4_weigh_62 : decode cX4_weigh 62 = .ok (.iastore, 1) := by decide +kernel
theorem dX4_weigh_63 : decode cX4_weigh 63 = .ok (.iinc 3 1, 3) := by decide +kernel
theorem dX4_weigh_66 : decode cX4_weigh 66 = .ok (.goto (-57), 3) := by decide +kernel
theorem dX4_weigh_69 : decode cX4_weigh 69 = .ok (.return_, 1) := by decide +kernel
theorem dX4_leastCost_0 : decode cX4_leastCost 0 = .ok (.iload_n 1, 1) := by decide +kernel
theorem dX4_leastCost_1 : decode cX4_leastCost 1 = .ok (.iload_n 1, 1) := by decide +kernel
theorem dX4_leastCost_2 : decode cX4_leastCost 2 = .ok (.ineg, 1) := by decide +kernel
theorem dX4_leastCost_3 : decode cX4_leastCost 3 = .ok (.iand, 1) := by decide +kernel
theorem dX4_leastCost_4 : decode cX4_leastCost 4 = .ok (.istore_n 2, 1) := by decide +kernel
theorem dX4_leastCost_5 : decode cX4_leastCost 5 = .ok (.iload_n 1, 1) := by decide +kernel
theorem dX4_leastCost_6 : decode cX4_leastCost 6 = .ok (.iload_n 2, 1) := by decide +kernel
theorem dX4_leastCost_7 : decode cX4_leastCost 7 = .ok (.ixor, 1) := by decide +kernel
theorem dX4_leastCost_8 : decode cX4_leastCost 8 = .ok (.istore_n 3, 1) := by decide +kernel
theorem dX4_leastCost_9 : decode cX4_leastCost 9 = .ok (.bipush 16, 2) := by decide +kernel
theorem dX4_leastCost_11 : decode cX4_leastCost 11 = .ok (.aload_n 0, 1) := by decide +kernel
theorem dX4_leastCost_12 : decode cX4_leastCost 12 = .ok (.getfield 17, 3) := by decide +kernel
theorem dX4_leastCost_15 : decode cX4_leastCost 15 = .ok (.iload_n 3, 1) := by decide +kernel
theorem dX4_leastCost_16 : decode cX4_leastCost 16 = .ok (.iaload, 1) := by decide +kernel
theorem dX4_leastCost_17 : decode cX4_leastCost 17 = .ok (.iadd, 1) := by decide +kernel
theorem dX4_leastCost_18 : decode cX4_leastCost 18 = .ok (.istore 4, 2) := by decide +kernel
theorem dX4_leastCost_20 : decode cX4_leastCost 20 = .ok (.iconst 0, 1) := by decide +kernel
theorem dX4_leastCost_21 : decode cX4_leastCost 21 = .ok (.istore 5, 2) := by decide +kernel
theorem dX4_leastCost_23 : decode cX4_leastCost 23 = .ok (.iconst 0, 1) := by decide +kernel
theorem dX4_leastCost_24 : decode cX4_leastCost 24 = .ok (.istore 6, 2) := by decide +kernel
theorem dX4_leastCost_26 : decode cX4_leastCost 26 = .ok (.iload 6, 2) := by decide +kernel
theorem dX4_leastCost_28 : decode cX4_leastCost 28 = .ok (.sipush 256, 3) := by decide +kernel
theorem dX4_leastCost_31 : decode cX4_leastCost 31 = .ok (.if_icmp .ge 56, 3) := by decide +kernel
theorem dX4_leastCost_34 : decode cX4_leastCost 34 = .ok (.aload_n 0, 1) := by decide +kernel
theorem dX4_leastCost_35 : decode cX4_leastCost 35 = .ok (.getfield 13, 3) := by decide +kernel
theorem dX4_leastCost_38 : decode cX4_leastCost 38 = .ok (.iload 5, 2) := by decide +kernel
theorem dX4_leastCost_40 : decode cX4_leastCost 40 = .ok (.iload_n 2, 1) := by decide +kernel
theorem dX4_leastCost_41 : decode cX4_leastCost 41 = .ok (.ior, 1) := by decide +kernel
theorem dX4_leastCost_42 : decode cX4_leastCost 42 = .ok (.baload, 1) := by decide +kernel
theorem dX4_leastCost_43 : decode cX4_leastCost 43 = .ok (.ifCond .eq 21, 3) := by decide +kernel
theorem dX4_leastCost_46 : decode cX4_leastCost 46 = .ok (.iload 4, 2) := by decide +kernel
theorem dX4_leastCost_48 : decode cX4_leastCost 48 = .ok (.iconst 1, 1) := by decide +kernel
theorem dX4_leastCost_49 : decode cX4_leastCost 49 = .ok (.aload_n 0, 1) := by decide +kernel
theorem dX4_leastCost_50 : decode cX4_leastCost 50 = .ok (.getfield 17, 3) := by decide +kernel
theorem dX4_leastCost_53 : decode cX4_leastCost 53 = .ok (.iload_n 3, 1) := by decide +kernel
theorem dX4_leastCost_54 : decode cX4_leastCost 54 = .ok (.iload 5, 2) := by decide +kernel
theorem dX4_leastCost_56 : decode cX4_leastCost 56 = .ok (.ixor, 1) := by decide +kernel
theorem dX4_leastCost_57 : decode cX4_leastCost 57 = .ok (.iaload, 1) := by decide +kernel
theorem dX4_leastCost_58 : decode cX4_leastCost 58 = .ok (.iadd, 1) := by decide +kernel
theorem dX4_leastCost_59 : decode cX4_leastCost 59 = .ok (.invokestatic 38, 3) := by decide +kernel
theorem dX4_leastCost_62 : decode cX4_leastCost 62 = .ok (.istore 4, 2) := by decide +kernel
theorem dX4_leastCost_64 : decode cX4_leastCost 64 = .ok (.iload 5, 2) := by decide +kernel
theorem dX4_leastCost_66 : decode cX4_leastCost 66 = .ok (.iload_n 3, 1) := by decide +kernel
theorem dX4_leastCost_67 : decode cX4_leastCost 67 = .ok (.if_icmp .ne 6, 3) := by decide +kernel
theorem dX4_leastCost_70 : decode cX4_leastCost 70 = .ok (.goto 17, 3) := by decide +kernel
theorem dX4_leastCost_73 : decode cX4_leastCost 73 = .ok (.iload 5, 2) := by decide +kernel
theorem dX4_leastCost_75 : decode cX4_leastCost 75 = .ok (.iload_n 3, 1) := by decide +kernel
theorem dX4_leastCost_76 : decode cX4_leastCost 76 = .ok (.isub, 1) := by decide +kernel
theorem dX4_leastCost_77 : decode cX4_leastCost 77 = .ok (.iload_n 3, 1) := by decide +kernel
theorem dX4_leastCost_78 : decode cX4_leastCost 78 = .ok (.iand, 1) := by decide +kernel
theorem dX4_leastCost_79 : decode cX4_leastCost 79 = .ok (.istore 5, 2) := by decide +kernel
theorem dX4_leastCost_81 : decode cX4_leastCost 81 = .ok (.iinc 6 1, 3) := by decide +kernel
theorem dX4_leastCost_84 : decode cX4_leastCost 84 = .ok (.goto (-58), 3) := by decide +kernel
theorem dX4_leastCost_87 : decode cX4_leastCost 87 = .ok (.iload 4, 2) := by decide +kernel
theorem dX4_leastCost_89 : decode cX4_leastCost 89 = .ok (.ireturn, 1) := by decide +kernel
theorem dX4_deal_0 : decode cX4_deal 0 = .ok (.aload_n 0, 1) := by decide +kernel
theorem dX4_deal_1 : decode cX4_deal 1 = .ok (.iload_n 1, 1) := by decide +kernel
theorem dX4_deal_2 : decode cX4_deal 2 = .ok (.iload_n 2, 1) := by decide +kernel
theorem dX4_deal_3 : decode cX4_deal 3 = .ok (.invokevirtual 43, 3) := by decide +kernel
theorem dX4_deal_6 : decode cX4_deal 6 = .ok (.aload_n 0, 1) := by decide +kernel
theorem dX4_deal_7 : decode cX4_deal 7 = .ok (.iconst 0, 1) := by decide +kernel
theorem dX4_deal_8 : decode cX4_deal 8 = .ok (.putfield 47, 3) := by decide +kernel
theorem dX4_deal_11 : decode cX4_deal 11 = .ok (.aload_n 0, 1) := by decide +kernel
theorem dX4_deal_12 : decode cX4_deal 12 = .ok (.iconst 0, 1) := by decide +kernel
theorem dX4_deal_13 : decode cX4_deal 13 = .ok (.putfield 51, 3) := by decide +kernel
theorem dX4_deal_16 : decode cX4_deal 16 = .ok (.iload_n 1, 1) := by decide +kernel
theorem dX4_deal_17 : decode cX4_deal 17 = .ok (.istore_n 3, 1) := by decide +kernel
theorem dX4_deal_18 : decode cX4_deal 18 = .ok (.iconst 0, 1) := by decide +kernel
theorem dX4_deal_19 : decode cX4_deal 19 = .ok (.istore 4, 2) := by decide +kernel
theorem dX4_deal_21 : decode cX4_deal 21 = .ok (.iload 4, 2) := by decide +kernel
theorem dX4_deal_23 : decode cX4_deal 23 = .ok (.bipush 8, 2) := by decide +kernel
theorem dX4_deal_25 : decode cX4_deal 25 = .ok (.if_icmp .ge 73, 3) := by decide +kernel
theorem dX4_deal_28 : decode cX4_deal 28 = .ok (.iload_n 3, 1) := by decide +kernel
theorem dX4_deal_29 : decode cX4_deal 29 = .ok (.ifCond .eq 69, 3) := by decide +kernel
theorem dX4_deal_32 : decode cX4_deal 32 = .ok (.aload_n 0, 1) := by decide +kernel
theorem dX4_deal_33 : decode cX4_deal 33 = .ok (.iload_n 3, 1) := by decide +kernel
theorem dX4_deal_34 : decode cX4_deal 34 = .ok (.invokevirtual 54, 3) := by decide +kernel
theorem dX4_deal_37 : decode cX4_deal 37 = .ok (.istore 5, 2) := by decide +kernel
theorem dX4_deal_39 : decode cX4_deal 39 = .ok (.iload 5, 2) := by decide +kernel
theorem dX4_deal_41 : decode cX4_deal 41 = .ok (.ifCond .ne 25, 3) := by decide +kernel
theorem dX4_deal_44 : decode cX4_deal 44 = .ok (.aload_n 0, 1) := by decide +kernel
theorem dX4_deal_45 : decode cX4_deal 45 = .ok (.dup, 1) := by decide +kernel
theorem dX4_deal_46 : decode cX4_deal 46 = .ok (.getfield 51, 3) := by decide +kernel
theorem dX4_deal_49 : decode cX4_deal 49 = .ok (.iload_n 3, 1) := by decide +kernel
theorem dX4_deal_50 : decode cX4_deal 50 = .ok (.iload_n 3, 1) := by decide +kernel
theorem dX4_deal_51 : decode cX4_deal 51 = .ok (.ineg, 1) := by decide +kernel
theorem dX4_deal_52 : decode cX4_deal 52 = .ok (.iand, 1) := by decide +kernel
theorem dX4_deal_53 : decode cX4_deal 53 = .ok (.ior, 1) := by decide +kernel
theorem dX4_deal_54 : decode cX4_deal 54 = .ok (.putfield 51, 3) := by decide +kernel
theorem dX4_deal_57 : decode cX4_deal 57 = .ok (.iload_n 3, 1) := by decide +kernel
theorem dX4_deal_58 : decode cX4_deal 58 = .ok (.iload_n 3, 1) := by decide +kernel
theorem dX4_deal_59 : decode cX4_deal 59 = .ok (.iconst 1, 1) := by decide +kernel
theorem dX4_deal_60 : decode cX4_deal 60 = .ok (.isub, 1) := by decide +kernel
theorem dX4_deal_61 : decode cX4_deal 61 = .ok (.iand, 1) := by decide +kernel
theorem dX4_deal_62 : decode cX4_deal 62 = .ok (.istore_n 3, 1) := by decide +kernel
theorem dX4_deal_63 : decode cX4_deal 63 = .ok (.goto 29, 3) := by decide +kernel
theorem dX4_deal_66 : decode cX4_deal 66 = .ok (.aload_n 0, 1) := by decide +kernel
theorem dX4_deal_67 : decode cX4_deal 67 = .ok (.getfield 21, 3) := by decide +kernel
theorem dX4_deal_70 : decode cX4_deal 70 = .ok (.aload_n 0, 1) := by decide +kernel
theorem dX4_deal_71 : decode cX4_deal 71 = .ok (.getfield 47, 3) := by decide +kernel
theorem dX4_deal_74 : decode cX4_deal 74 = .ok (.iload 5, 2) := by decide +kernel
theorem dX4_deal_76 : decode cX4_deal 76 = .ok (.iastore, 1) := by decide +kernel
theorem dX4_deal_77 : decode cX4_deal 77 = .ok (.aload_n 0, 1) := by decide +kernel
theorem dX4_deal_78 : decode cX4_deal 78 = .ok (.dup, 1) := by decide +kernel
theorem dX4_deal_79 : decode cX4_deal 79 = .ok (.getfield 47, 3) := by decide +kernel
theorem dX4_deal_82 : decode cX4_deal 82 = .ok (.iconst 1, 1) := by decide +kernel
theorem dX4_deal_83 : decode cX4_deal 83 = .ok (.iadd, 1) := by decide +kernel
theorem dX4_deal_84 : decode cX4_deal 84 = .ok (.putfield 47, 3) := by decide +kernel
theorem dX4_deal_87 : decode cX4_deal 87 = .ok (.iload_n 3, 1) := by decide +kernel
theorem dX4_deal_88 : decode cX4_deal 88 = .ok (.iload 5, 2) := by decide +kernel
theorem dX4_deal_90 : decode cX4_deal 90 = .ok (.ixor, 1) := by decide +kernel
theorem dX4_deal_91 : decode cX4_deal 91 = .ok (.istore_n 3, 1) := by decide +kernel
theorem dX4_deal_92 : decode cX4_deal 92 = .ok (.iinc 4 1, 3) := by decide +kernel
theorem dX4_deal_95 : decode cX4_deal 95 = .ok (.goto (-74), 3) := by decide +kernel
theorem dX4_deal_98 : decode cX4_deal 98 = .ok (.return_, 1) := by decide +kernel
theorem dX4_leastBestCompany_0 : decode cX4_leastBestCompany 0 = .ok (.iload_n 1, 1) := by decide +kernel
theorem dX4_leastBestCompany_1 : decode cX4_leastBestCompany 1 = .ok (.iload_n 1, 1) := by decide +kernel
theorem dX4_leastBestCompany_2 : decode cX4_leastBestCompany 2 = .ok (.ineg, 1) := by decide +kernel
theorem dX4_leastBestCompany_3 : decode cX4_leastBestCompany 3 = .ok (.iand, 1) := by decide +kernel
theorem dX4_leastBestCompany_4 : decode cX4_leastBestCompany 4 = .ok (.istore_n 2, 1) := by decide +kernel
theorem dX4_leastBestCompany_5 : decode cX4_leastBestCompany 5 = .ok (.iload_n 2, 1) := by decide +kernel
theorem dX4_leastBestCompany_6 : decode cX4_leastBestCompany 6 = .ok (.istore_n 3, 1) := by decide +kernel
theorem dX4_leastBestCompany_7 : decode cX4_leastBestCompany 7 = .ok (.iload_n 3, 1) := by decide +kernel
theorem dX4_leastBestCompany_8 : decode cX4_leastBestCompany 8 = .ok (.iload_n 1, 1) := by decide +kernel
theorem dX4_leastBestCompany_9 : decode cX4_leastBestCompany 9 = .ok (.if_icmp .gt 72, 3) := by decide +kernel
theorem dX4_leastBestCompany_12 : decode cX4_leastBestCompany 12 = .ok (.iload_n 3, 1) := by decide +kernel
theorem dX4_leastBestCompany_13 : decode cX4_leastBestCompany 13 = .ok (.sipush 256, 3) := by decide +kernel
theorem dX4_leastBestCompany_16 : decode cX4_leastBestCompany 16 = .ok (.if_icmp .ge 65, 3) := by decide +kernel
theorem dX4_leastBestCompany_19 : decode cX4_leastBestCompany 19 = .ok (.iload_n 3, 1) := by decide +kernel
theorem dX4_leastBestCompany_20 : decode cX4_leastBestCompany 20 = .ok (.iload_n 1, 1) := by decide +kernel
theorem dX4_leastBestCompany_21 : decode cX4_leastBestCompany 21 = .ok (.iconst (-1), 1) := by decide +kernel
theorem dX4_leastBestCompany_22 : decode cX4_leastBestCompany 22 = .ok (.ixor, 1) := by decide +kernel
theorem dX4_leastBestCompany_23 : decode cX4_leastBestCompany 23 = .ok (.iand, 1) := by decide +kernel
theorem dX4_leastBestCompany_24 : decode cX4_leastBestCompany 24 = .ok (.ifCond .ne 13, 3) := by decide +kernel
theorem dX4_leastBestCompany_27 : decode cX4_leastBestCompany 27 = .ok (.iload_n 3, 1) := by decide +kernel
theorem dX4_leastBestCompany_28 : decode cX4_leastBestCompany 28 = .ok (.iload_n 2, 1) := by decide +kernel
theorem dX4_leastBestCompany_29 : decode cX4_leastBestCompany 29 = .ok (.iand, 1) := by decide +kernel
theorem dX4_leastBestCompany_30 : decode cX4_leastBestCompany 30 = .ok (.ifCond .eq 7, 3) := by decide +kernel
theorem dX4_leastBestCompany_33 : decode cX4_leastBestCompany 33 = .ok (.iconst 1, 1) := by decide +kernel
theorem dX4_leastBestCompany_34 : decode cX4_leastBestCompany 34 = .ok (.goto 4, 3) := by decide +kernel
theorem dX4_leastBestCompany_37 : decode cX4_leastBestCompany 37 = .ok (.iconst 0, 1) := by decide +kernel
theorem dX4_leastBestCompany_38 : decode cX4_leastBestCompany 38 = .ok (.istore 4, 2) := by decide +kernel
theorem dX4_leastBestCompany_40 : decode cX4_leastBestCompany 40 = .ok (.iload 4, 2) := by decide +kernel
theorem dX4_leastBestCompany_42 : decode cX4_leastBestCompany 42 = .ok (.ifCond .eq 33, 3) := by decide +kernel
theorem dX4_leastBestCompany_45 : decode cX4_leastBestCompany 45 = .ok (.aload_n 0, 1) := by decide +kernel
theorem dX4_leastBestCompany_46 : decode cX4_leastBestCompany 46 = .ok (.getfield 13, 3) := by decide +kernel
theorem dX4_leastBestCompany_49 : decode cX4_leastBestCompany 49 = .ok (.iload_n 3, 1) := by decide +kernel
theorem dX4_leastBestCompany_50 : decode cX4_leastBestCompany 50 = .ok (.baload, 1) := by decide +kernel
theorem dX4_leastBestCompany_51 : decode cX4_leastBestCompany 51 = .ok (.ifCond .eq 24, 3) := by decide +kernel
theorem dX4_leastBestCompany_54 : decode cX4_leastBestCompany 54 = .ok (.iconst 1, 1) := by decide +kernel
theorem dX4_leastBestCompany_55 : decode cX4_leastBestCompany 55 = .ok (.aload_n 0, 1) := by decide +kernel
theorem dX4_leastBestCompany_56 : decode cX4_leastBestCompany 56 = .ok (.getfield 17, 3) := by decide +kernel
theorem dX4_leastBestCompany_59 : decode cX4_leastBestCompany 59 = .ok (.iload_n 1, 1) := by decide +kernel
theorem dX4_leastBestCompany_60 : decode cX4_leastBestCompany 60 = .ok (.iload_n 3, 1) := by decide +kernel
theorem dX4_leastBestCompany_61 : decode cX4_leastBestCompany 61 = .ok (.ixor, 1) := by decide +kernel
theorem dX4_leastBestCompany_62 : decode cX4_leastBestCompany 62 = .ok (.iaload, 1) := by decide +kernel
theorem dX4_leastBestCompany_63 : decode cX4_leastBestCompany 63 = .ok (.iadd, 1) := by decide +kernel
theorem dX4_leastBestCompany_64 : decode cX4_leastBestCompany 64 = .ok (.aload_n 0, 1) := by decide +kernel
theorem dX4_leastBestCompany_65 : decode cX4_leastBestCompany 65 = .ok (.getfield 17, 3) := by decide +kernel
theorem dX4_leastBestCompany_68 : decode cX4_leastBestCompany 68 = .ok (.iload_n 1, 1) := by decide +kernel
theorem dX4_leastBestCompany_69 : decode cX4_leastBestCompany 69 = .ok (.iaload, 1) := by decide +kernel
theorem dX4_leastBestCompany_70 : decode cX4_leastBestCompany 70 = .ok (.if_icmp .ne 5, 3) := by decide +kernel
theorem dX4_leastBestCompany_73 : decode cX4_leastBestCompany 73 = .ok (.iload_n 3, 1) := by decide +kernel
theorem dX4_leastBestCompany_74 : decode cX4_leastBestCompany 74 = .ok (.ireturn, 1) := by decide +kernel
theorem dX4_leastBestCompany_75 : decode cX4_leastBestCompany 75 = .ok (.iinc 3 1, 3) := by decide +kernel
theorem dX4_leastBestCompany_78 : decode cX4_leastBestCompany 78 = .ok (.goto (-71), 3) := by decide +kernel
theorem dX4_leastBestCompany_81 : decode cX4_leastBestCompany 81 = .ok (.iconst 0, 1) := by decide +kernel
theorem dX4_leastBestCompany_82 : decode cX4_leastBestCompany 82 = .ok (.ireturn, 1) := by decide +kernel
theorem dX4_leavesNobody_0 : decode cX4_leavesNobody 0 = .ok (.aload_n 0, 1) := by decide +kernel
theorem dX4_leavesNobody_1 : decode cX4_leavesNobody 1 = .ok (.iload_n 1, 1) := by decide +kernel
theorem dX4_leavesNobody_2 : decode cX4_leavesNobody 2 = .ok (.iload_n 2, 1) := by decide +kernel
theorem dX4_leavesNobody_3 : decode cX4_leavesNobody 3 = .ok (.invokevirtual 43, 3) := by decide +kernel
theorem dX4_leavesNobody_6 : decode cX4_leavesNobody 6 = .ok (.aload_n 0, 1) := by decide +kernel
theorem dX4_leavesNobody_7 : decode cX4_leavesNobody 7 = .ok (.getfield 17, 3) := by decide +kernel
theorem dX4_leavesNobody_10 : decode cX4_leavesNobody 10 = .ok (.iload_n 1, 1) := by decide +kernel
theorem dX4_leavesNobody_11 : decode cX4_leavesNobody 11 = .ok (.iaload, 1) := by decide +kernel
theorem dX4_leavesNobody_12 : decode cX4_leavesNobody 12 = .ok (.bipush 16, 2) := by decide +kernel
theorem dX4_leavesNobody_14 : decode cX4_leavesNobody 14 = .ok (.if_icmp .ge 7, 3) := by decide +kernel
theorem dX4_leavesNobody_17 : decode cX4_leavesNobody 17 = .ok (.iconst 1, 1) := by decide +kernel
theorem dX4_leavesNobody_18 : decode cX4_leavesNobody 18 = .ok (.goto 4, 3) := by decide +kernel
theorem dX4_leavesNobody_21 : decode cX4_leavesNobody 21 = .ok (.iconst 0, 1) := by decide +kernel
theorem dX4_leavesNobody_22 : decode cX4_leavesNobody 22 = .ok (.ireturn, 1) := by decide +kernel
theorem dX4_firstDayForBoth_0 : decode cX4_firstDayForBoth 0 = .ok (.iload 4, 2) := by decide +kernel
theorem dX4_firstDayForBoth_2 : decode cX4_firstDayForBoth 2 = .ok (.sipush 1500, 3) := by decide +kernel
theorem dX4_firstDayForBoth_5 : decode cX4_firstDayForBoth 5 = .ok (.iadd, 1) := by decide +kernel
theorem dX4_firstDayForBoth_6 : decode cX4_firstDayForBoth 6 = .ok (.ldc 59, 2) := by decide +kernel
theorem dX4_firstDayForBoth_8 : decode cX4_firstDayForBoth 8 = .ok (.invokestatic 38, 3) := by decide +kernel
theorem dX4_firstDayForBoth_11 : decode cX4_firstDayForBoth 11 = .ok (.istore 5, 2) := by decide +kernel
theorem dX4_firstDayForBoth_13 : decode cX4_firstDayForBoth 13 = .ok (.iload 4, 2) := by decide +kernel
theorem dX4_firstDayForBoth_15 : decode cX4_firstDayForBoth 15 = .ok (.istore 6, 2) := by decide +kernel
theorem dX4_firstDayForBoth_17 : decode cX4_firstDayForBoth 17 = .ok (.iconst 0, 1) := by decide +kernel
theorem dX4_firstDayForBoth_18 : decode cX4_firstDayForBoth 18 = .ok (.istore 7, 2) := by decide +kernel
theorem dX4_firstDayForBoth_20 : decode cX4_firstDayForBoth 20 = .ok (.iload 7, 2) := by decide +kernel
theorem dX4_firstDayForBoth_22 : decode cX4_firstDayForBoth 22 = .ok (.sipush 1500, 3) := by decide +kernel
theorem dX4_firstDayForBoth_25 : decode cX4_firstDayForBoth 25 = .ok (.if_icmp .gt 60, 3) := by decide +kernel
theorem dX4_firstDayForBoth_28 : decode cX4_firstDayForBoth 28 = .ok (.iload 6, 2) := by decide +kernel
theorem dX4_firstDayForBoth_30 : decode cX4_firstDayForBoth 30 = .ok (.iload 5, 2) := by decide +kernel
theorem dX4_firstDayForBoth_32 : decode cX4_firstDayForBoth 32 = .ok (.if_icmp .gt 53, 3) := by decide +kernel
theorem dX4_firstDayForBoth_35 : decode cX4_firstDayForBoth 35 = .ok (.aload_n 0, 1) := by decide +kernel
theorem dX4_firstDayForBoth_36 : decode cX4_firstDayForBoth 36 = .ok (.getfield 24, 3) := by decide +kernel
theorem dX4_firstDayForBoth_39 : decode cX4_firstDayForBoth 39 = .ok (.iload 6, 2) := by decide +kernel
theorem dX4_firstDayForBoth_41 : decode cX4_firstDayForBoth 41 = .ok (.invokevirtual 60, 3) := by decide +kernel
theorem dX4_firstDayForBoth_44 : decode cX4_firstDayForBoth 44 = .ok (.aload_n 0, 1) := by decide +kernel
theorem dX4_firstDayForBoth_45 : decode cX4_firstDayForBoth 45 = .ok (.iload_n 1, 1) := by decide +kernel
theorem dX4_firstDayForBoth_46 : decode cX4_firstDayForBoth 46 = .ok (.iload_n 3, 1) := by decide +kernel
theorem dX4_firstDayForBoth_47 : decode cX4_firstDayForBoth 47 = .ok (.invokevirtual 64, 3) := by decide +kernel
theorem dX4_firstDayForBoth_50 : decode cX4_firstDayForBoth 50 = .ok (.ifCond .eq 15, 3) := by decide +kernel
theorem dX4_firstDayForBoth_53 : decode cX4_firstDayForBoth 53 = .ok (.aload_n 0, 1) := by decide +kernel
theorem dX4_firstDayForBoth_54 : decode cX4_firstDayForBoth 54 = .ok (.iload_n 2, 1) := by decide +kernel
theorem dX4_firstDayForBoth_55 : decode cX4_firstDayForBoth 55 = .ok (.iload_n 3, 1) := by decide +kernel
theorem dX4_firstDayForBoth_56 : decode cX4_firstDayForBoth 56 = .ok (.invokevirtual 64, 3) := by decide +kernel
theorem dX4_firstDayForBoth_59 : decode cX4_firstDayForBoth 59 = .ok (.ifCond .eq 6, 3) := by decide +kernel
theorem dX4_firstDayForBoth_62 : decode cX4_firstDayForBoth 62 = .ok (.iload 6, 2) := by decide +kernel
theorem dX4_firstDayForBoth_64 : decode cX4_firstDayForBoth 64 = .ok (.ireturn, 1) := by decide +kernel
theorem dX4_firstDayForBoth_65 : decode cX4_firstDayForBoth 65 = .ok (.aload_n 0, 1) := by decide +kernel
theorem dX4_firstDayForBoth_66 : decode cX4_firstDayForBoth 66 = .ok (.getfield 24, 3) := by decide +kernel
theorem dX4_firstDayForBoth_69 : decode cX4_firstDayForBoth 69 = .ok (.iload_n 1, 1) := by decide +kernel
theorem dX4_firstDayForBoth_70 : decode cX4_firstDayForBoth 70 = .ok (.iload_n 2, 1) := by decide +kernel
theorem dX4_firstDayForBoth_71 : decode cX4_firstDayForBoth 71 = .ok (.ior, 1) := by decide +kernel
theorem dX4_firstDayForBoth_72 : decode cX4_firstDayForBoth 72 = .ok (.iload 6, 2) := by decide +kernel
theorem dX4_firstDayForBoth_74 : decode cX4_firstDayForBoth 74 = .ok (.invokevirtual 68, 3) := by decide +kernel
theorem dX4_firstDayForBoth_77 : decode cX4_firstDayForBoth 77 = .ok (.istore 6, 2) := by decide +kernel
theorem dX4_firstDayForBoth_79 : decode cX4_firstDayForBoth 79 = .ok (.iinc 7 1, 3) := by decide +kernel
theorem dX4_firstDayForBoth_82 : decode cX4_firstDayForBoth 82 = .ok (.goto (-62), 3) := by decide +kernel
theorem dX4_firstDayForBoth_85 : decode cX4_firstDayForBoth 85 = .ok (.iconst (-1), 1) := by decide +kernel
theorem dX4_firstDayForBoth_86 : decode cX4_firstDayForBoth 86 = .ok (.ireturn, 1) := by decide +kernel
theorem dX5_init_0 : decode cX5_init 0 = .ok (.aload_n 0, 1) := by decide +kernel
theorem dX5_init_1 : decode cX5_init 1 = .ok (.invokespecial 3, 3) := by decide +kernel
theorem dX5_init_4 : decode cX5_init 4 = .ok (.aload_n 0, 1) := by decide +kernel
theorem dX5_init_5 : decode cX5_init 5 = .ok (.iconst (-1), 1) := by decide +kernel
theorem dX5_init_6 : decode cX5_init 6 = .ok (.putfield 9, 3) := by decide +kernel
theorem dX5_init_9 : decode cX5_init 9 = .ok (.aload_n 0, 1) := by decide +kernel
theorem dX5_init_10 : decode cX5_init 10 = .ok (.bipush 10, 2) := by decide +kernel
theorem dX5_init_12 : decode cX5_init 12 = .ok (.newarray .int, 2) := by decide +kernel
theorem dX5_init_14 : decode cX5_init 14 = .ok (.putfield 15, 3) := by decide +kernel
theorem dX5_init_17 : decode cX5_init 17 = .ok (.aload_n 0, 1) := by decide +kernel
theorem dX5_init_18 : decode cX5_init 18 = .ok (.bipush 10, 2) := by decide +kernel
theorem dX5_init_20 : decode cX5_init 20 = .ok (.newarray .int, 2) := by decide +kernel
theorem dX5_init_22 : decode cX5_init 22 = .ok (.putfield 19, 3) := by decide +kernel
theorem dX5_init_25 : decode cX5_init 25 = .ok (.aload_n 0, 1) := by decide +kernel
theorem dX5_init_26 : decode cX5_init 26 = .ok (.bipush 10, 2) := by decide +kernel
theorem dX5_init_28 : decode cX5_init 28 = .ok (.newarray .boolean, 2) := by decide +kernel
theorem dX5_init_30 : decode cX5_init 30 = .ok (.putfield 22, 3) := by decide +kernel
theorem dX5_init_33 : decode cX5_init 33 = .ok (.return_, 1) := by decide +kernel
theorem dX5_append_0 : decode cX5_append 0 = .ok (.aload_n 0, 1) := by decide +kernel
theorem dX5_append_1 : decode cX5_append 1 = .ok (.getfield 26, 3) := by decide +kernel
theorem dX5_append_4 : decode cX5_append 4 = .ok (.bipush 10, 2) := by decide +kernel
theorem dX5_append_6 : decode cX5_append 6 = .ok (.if_icmp .lt 6, 3) := by decide +kernel
theorem dX5_append_9 : decode cX5_append 9 = .ok (.bipush (-4), 2) := by decide +kernel
theorem dX5_append_11 : decode cX5_append 11 = .ok (.ireturn, 1) := by decide +kernel
theorem dX5_append_12 : decode cX5_append 12 = .ok (.aload_n 0, 1) := by decide +kernel
theorem dX5_append_13 : decode cX5_append 13 = .ok (.getfield 15, 3) := by decide +kernel
theorem dX5_append_16 : decode cX5_append 16 = .ok (.aload_n 0, 1) := by decide +kernel
theorem dX5_append_17 : decode cX5_append 17 = .ok (.getfield 26, 3) := by decide +kernel
theorem dX5_append_20 : decode cX5_append 20 = .ok (.iload_n 1, 1) := by decide +kernel
theorem dX5_append_21 : decode cX5_append 21 = .ok (.iastore, 1) := by decide +kernel
theorem dX5_append_22 : decode cX5_append 22 = .ok (.aload_n 0, 1) := by decide +kernel
theorem dX5_append_23 : decode cX5_append 23 = .ok (.getfield 19, 3) := by decide +kernel
theorem dX5_append_26 : decode cX5_append 26 = .ok (.aload_n 0, 1) := by decide +kernel
theorem dX5_append_27 : decode cX5_append 27 = .ok (.getfield 26, 3) := by decide +kernel
theorem dX5_append_30 : decode cX5_append 30 = .ok (.iload_n 2, 1) := by decide +kernel
theorem dX5_append_31 : decode cX5_append 31 = .ok (.iastore, 1) := by decide +kernel
theorem dX5_append_32 : decode cX5_append 32 = .ok (.aload_n 0, 1) := by decide +kernel
theorem dX5_append_33 : decode cX5_append 33 = .ok (.getfield 22, 3) := by decide +kernel
theorem dX5_append_36 : decode cX5_append 36 = .ok (.aload_n 0, 1) := by decide +kernel
theorem dX5_append_37 : decode cX5_append 37 = .ok (.getfield 26, 3) := by decide +kernel
theorem dX5_append_40 : decode cX5_append 40 = .ok (.iload_n 3, 1) := by decide +kernel
theorem dX5_append_41 : decode cX5_append 41 = .ok (.bastore, 1) := by decide +kernel
theorem dX5_append_42 : decode cX5_append 42 = .ok (.aload_n 0, 1) := by decide +kernel
theorem dX5_append_43 : decode cX5_append 43 = .ok (.iconst (-1), 1) := by decide +kernel
theorem dX5_append_44 : decode cX5_append 44 = .ok (.putfield 9, 3) := by decide +kernel
theorem dX5_append_47 : decode cX5_append 47 = .ok (.aload_n 0, 1) := by decide +kernel
theorem dX5_append_48 : decode cX5_append 48 = .ok (.dup, 1) := by decide +kernel
theorem dX5_append_49 : decode cX5_append 49 = .ok (.getfield 26, 3) := by decide +kernel
theorem dX5_append_52 : decode cX5_append 52 = .ok (.dup_x1, 1) := by decide +kernel
theorem dX5_append_53 : decode cX5_append 53 = .ok (.iconst 1, 1) := by decide +kernel
theorem dX5_append_54 : decode cX5_append 54 = .ok (.iadd, 1) := by decide +kernel
theorem dX5_append_55 : decode cX5_append 55 = .ok (.putfield 26, 3) := by decide +kernel
theorem dX5_append_58 : decode cX5_append 58 = .ok (.ireturn, 1) := by decide +kernel
theorem dX5_drop_0 : decode cX5_drop 0 = .ok (.aload_n 0, 1) := by decide +kernel
theorem dX5_drop_1 : decode cX5_drop 1 = .ok (.getfield 26, 3) := by decide +kernel
theorem dX5_drop_4 : decode cX5_drop 4 = .ok (.istore_n 1, 1) := by decide +kernel
theorem dX5_drop_5 : decode cX5_drop 5 = .ok (.aload_n 0, 1) := by decide +kernel
theorem dX5_drop_6 : decode cX5_drop 6 = .ok (.iconst 0, 1) := by decide +kernel
theorem dX5_drop_7 : decode cX5_drop 7 = .ok (.putfield 26, 3) := by decide +kernel
theorem dX5_drop_10 : decode cX5_drop 10 = .ok (.aload_n 0, 1) := by decide +kernel
theorem dX5_drop_11 : decode cX5_drop 11 = .ok (.iconst (-1), 1) := by decide +kernel
theorem dX5_drop_12 : decode cX5_drop 12 = .ok (.putfield 9, 3) := by decide +kernel
theorem dX5_drop_15 : decode cX5_drop 15 = .ok (.iload_n 1, 1) := by decide +kernel
theorem dX5_drop_16 : decode cX5_drop 16 = .ok (.ireturn, 1) := by decide +kernel
theorem dX5_allow_0 : decode cX5_allow 0 = .ok (.aload_n 0, 1) := by decide +kernel
theorem dX5_allow_1 : decode cX5_allow 1 = .ok (.getfield 29, 3) := by decide +kernel
theorem dX5_allow_4 : decode cX5_allow 4 = .ok (.istore_n 2, 1) := by decide +kernel
theorem dX5_allow_5 : decode cX5_allow 5 = .ok (.aload_n 0, 1) := by decide +kernel
theorem dX5_allow_6 : decode cX5_allow 6 = .ok (.iload_n 1, 1) := by decide +kernel
theorem dX5_allow_7 : decode cX5_allow 7 = .ok (.putfield 29, 3) := by decide +kernel
theorem dX5_allow_10 : decode cX5_allow 10 = .ok (.aload_n 0, 1) := by decide +kernel
theorem dX5_allow_11 : decode cX5_allow 11 = .ok (.iconst (-1), 1) := by decide +kernel
theorem dX5_allow_12 : decode cX5_allow 12 = .ok (.putfield 9, 3) := by decide +kernel
theorem dX5_allow_15 : decode cX5_allow 15 = .ok (.iload_n 2, 1) := by decide +kernel
theorem dX5_allow_16 : decode cX5_allow 16 = .ok (.ireturn, 1) := by decide +kernel
theorem dX5_copyFrom_0 : decode cX5_copyFrom 0 = .ok (.aload_n 0, 1) := by decide +kernel
theorem dX5_copyFrom_1 : decode cX5_copyFrom 1 = .ok (.aload_n 1, 1) := by decide +kernel
theorem dX5_copyFrom_2 : decode cX5_copyFrom 2 = .ok (.getfield 26, 3) := by decide +kernel
theorem dX5_copyFrom_5 : decode cX5_copyFrom 5 = .ok (.putfield 26, 3) := by decide +kernel
theorem dX5_copyFrom_8 : decode cX5_copyFrom 8 = .ok (.aload_n 0, 1) := by decide +kernel
theorem dX5_copyFrom_9 : decode cX5_copyFrom 9 = .ok (.aload_n 1, 1) := by decide +kernel
theorem dX5_copyFrom_10 : decode cX5_copyFrom 10 = .ok (.getfield 29, 3) := by decide +kernel
theorem dX5_copyFrom_13 : decode cX5_copyFrom 13 = .ok (.putfield 29, 3) := by decide +kernel
theorem dX5_copyFrom_16 : decode cX5_copyFrom 16 = .ok (.aload_n 0, 1) := by decide +kernel
theorem dX5_copyFrom_17 : decode cX5_copyFrom 17 = .ok (.aload_n 1, 1) := by decide +kernel
theorem dX5_copyFrom_18 : decode cX5_copyFrom 18 = .ok (.getfield 9, 3) := by decide +kernel
theorem dX5_copyFrom_21 : decode cX5_copyFrom 21 = .ok (.putfield 9, 3) := by decide +kernel
theorem dX5_copyFrom_24 : decode cX5_copyFrom 24 = .ok (.aload_n 1, 1) := by decide +kernel
theorem dX5_copyFrom_25 : decode cX5_copyFrom 25 = .ok (.getfield 15, 3) := by decide +kernel
theorem dX5_copyFrom_28 : decode cX5_copyFrom 28 = .ok (.iconst 0, 1) := by decide +kernel
theorem dX5_copyFrom_29 : decode cX5_copyFrom 29 = .ok (.aload_n 0, 1) := by decide +kernel
theorem dX5_copyFrom_30 : decode cX5_copyFrom 30 = .ok (.getfield 15, 3) := by decide +kernel
theorem dX5_copyFrom_33 : decode cX5_copyFrom 33 = .ok (.iconst 0, 1) := by decide +kernel
theorem dX5_copyFrom_34 : decode cX5_copyFrom 34 = .ok (.bipush 10, 2) := by decide +kernel
theorem dX5_copyFrom_36 : decode cX5_copyFrom 36 = .ok (.invokestatic 32, 3) := by decide +kernel
theorem dX5_copyFrom_39 : decode cX5_copyFrom 39 = .ok (.aload_n 1, 1) := by decide +kernel
theorem dX5_copyFrom_40 : decode cX5_copyFrom 40 = .ok (.getfield 19, 3) := by decide +kernel
theorem dX5_copyFrom_43 : decode cX5_copyFrom 43 = .ok (.iconst 0, 1) := by decide +kernel
theorem dX5_copyFrom_44 : decode cX5_copyFrom 44 = .ok (.aload_n 0, 1) := by decide +kernel
theorem dX5_copyFrom_45 : decode cX5_copyFrom 45 = .ok (.getfield 19, 3) := by decide +kernel
theorem dX5_copyFrom_48 : decode cX5_copyFrom 48 = .ok (.iconst 0, 1) := by decide +kernel
theorem dX5_copyFrom_49 : decode cX5_copyFrom 49 = .ok (.bipush 10, 2) := by decide +kernel
theorem dX5_copyFrom_51 : decode cX5_copyFrom 51 = .ok (.invokestatic 32, 3) := by decide +kernel
theorem dX5_copyFrom_54 : decode cX5_copyFrom 54 = .ok (.aload_n 1, 1) := by decide +kernel
theorem dX5_copyFrom_55 : decode cX5_copyFrom 55 = .ok (.getfield 22, 3) := by decide +kernel
theorem dX5_copyFrom_58 : decode cX5_copyFrom 58 = .ok (.iconst 0, 1) := by decide +kernel
theorem dX5_copyFrom_59 : decode cX5_copyFrom 59 = .ok (.aload_n 0, 1) := by decide +kernel
theorem dX5_copyFrom_60 : decode cX5_copyFrom 60 = .ok (.getfield 22, 3) := by decide +kernel
theorem dX5_copyFrom_63 : decode cX5_copyFrom 63 = .ok (.iconst 0, 1) := by decide +kernel
theorem dX5_copyFrom_64 : decode cX5_copyFrom 64 = .ok (.bipush 10, 2) := by decide +kernel
theorem dX5_copyFrom_66 : decode cX5_copyFrom 66 = .ok (.invokestatic 32, 3) := by decide +kernel
theorem dX5_copyFrom_69 : decode cX5_copyFrom 69 = .ok (.return_, 1) := by decide +kernel
theorem dX6_init_0 : decode cX6_init 0 = .ok (.aload_n 0, 1) := by decide +kernel
theorem dX6_init_1 : decode cX6_init 1 = .ok (.invokespecial 3, 3) := by decide +kernel
theorem dX6_init_4 : decode cX6_init 4 = .ok (.aload_n 0, 1) := by decide +kernel
theorem dX6_init_5 : decode cX6_init 5 = .ok (.aload_n 1, 1) := by decide +kernel
theorem dX6_init_6 : decode cX6_init 6 = .ok (.putfield 9, 3) := by decide +kernel
theorem dX6_init_9 : decode cX6_init 9 = .ok (.aload_n 0, 1) := by decide +kernel
theorem dX6_init_10 : decode cX6_init 10 = .ok (.aload_n 2, 1) := by decide +kernel
theorem dX6_init_11 : decode cX6_init 11 = .ok (.putfield 15, 3) := by decide +kernel
theorem dX6_init_14 : decode cX6_init 14 = .ok (.return_, 1) := by decide +kernel
theorem dX6_takeBook_0 : decode cX6_takeBook 0 = .ok (.aload_n 0, 1) := by decide +kernel
theorem dX6_takeBook_1 : decode cX6_takeBook 1 = .ok (.getfield 15, 3) := by decide +kernel
theorem dX6_takeBook_4 : decode cX6_takeBook 4 = .ok (.invokevirtual 19, 3) := by decide +kernel
theorem dX6_takeBook_7 : decode cX6_takeBook 7 = .ok (.aload_n 0, 1) := by decide +kernel
theorem dX6_takeBook_8 : decode cX6_takeBook 8 = .ok (.iconst 0, 1) := by decide +kernel
theorem dX6_takeBook_9 : decode cX6_takeBook 9 = .ok (.putfield 24, 3) := by decide +kernel
theorem dX6_takeBook_12 : decode cX6_takeBook 12 = .ok (.iconst 0, 1) := by decide +kernel
theorem dX6_takeBook_13 : decode cX6_takeBook 13 = .ok (.istore_n 1, 1) := by decide +kernel
theorem dX6_takeBook_14 : decode cX6_takeBook 14 = .ok (.aload_n 0, 1) := by decide +kernel
theorem dX6_takeBook_15 : decode cX6_takeBook 15 = .ok (.invokevirtual 28, 3) := by decide +kernel
theorem dX6_takeBook_18 : decode cX6_takeBook 18 = .ok (.iload_n 1, 1) := by decide +kernel
theorem dX6_takeBook_19 : decode cX6_takeBook 19 = .ok (.sipush 200, 3) := by decide +kernel
theorem dX6_takeBook_22 : decode cX6_takeBook 22 = .ok (.if_icmp .gt 42, 3) := by decide +kernel
theorem dX6_takeBook_25 : decode cX6_takeBook 25 = .ok (.aload_n 0, 1) := by decide +kernel
theorem dX6_takeBook_26 : decode cX6_takeBook 26 = .ok (.getfield 33, 3) := by decide +kernel
theorem dX6_takeBook_29 : decode cX6_takeBook 29 = .ok (.ifCond .eq 35, 3) := by decide +kernel
theorem dX6_takeBook_32 : decode cX6_takeBook 32 = .ok (.aload_n 0, 1) := by decide +kernel
theorem dX6_takeBook_33 : decode cX6_takeBook 33 = .ok (.invokevirtual 36, 3) := by decide +kernel
theorem dX6_takeBook_36 : decode cX6_takeBook 36 = .ok (.ifCond .eq 10, 3) := by decide +kernel
theorem dX6_takeBook_39 : decode cX6_takeBook 39 = .ok (.aload_n 0, 1) := by decide +kernel
theorem dX6_takeBook_40 : decode cX6_takeBook 40 = .ok (.invokevirtual 40, 3) := by decide +kernel
theorem dX6_takeBook_43 : decode cX6_takeBook 43 = .ok (.ifCond .ne 11, 3) := by decide +kernel
theorem dX6_takeBook_46 : decode cX6_takeBook 46 = .ok (.bipush (-10), 2) := by decide +kernel
theorem dX6_takeBook_48 : decode cX6_takeBook 48 = .ok (.aload_n 0, 1) := by decide +kernel
theorem dX6_takeBook_49 : decode cX6_takeBook 49 = .ok (.getfield 43, 3) := by decide +kernel
theorem dX6_takeBook_52 : decode cX6_takeBook 52 = .ok (.isub, 1) := by decide +kernel
theorem dX6_takeBook_53 : decode cX6_takeBook 53 = .ok (.ireturn, 1) := by decide +kernel
theorem dX6_takeBook_54 : decode cX6_takeBook 54 = .ok (.iinc 1 1, 3) := by decide +kernel
theorem dX6_takeBook_57 : decode cX6_takeBook 57 = .ok (.aload_n 0, 1) := by decide +kernel
theorem dX6_takeBook_58 : decode cX6_takeBook 58 = .ok (.invokevirtual 28, 3) := by decide +kernel
theorem dX6_takeBook_61 : decode cX6_takeBook 61 = .ok (.goto (-43), 3) := by decide +kernel
theorem dX6_takeBook_64 : decode cX6_takeBook 64 = .ok (.iload_n 1, 1) := by decide +kernel
theorem dX6_takeBook_65 : decode cX6_takeBook 65 = .ok (.ireturn, 1) := by decide +kernel
theorem dX6_takeContent_0 : decode cX6_takeContent 0 = .ok (.aload_n 0, 1) := by decide +kernel
theorem dX6_takeContent_1 : decode cX6_takeContent 1 = .ok (.ldc 46, 2) := by decide +kernel
theorem dX6_takeContent_3 : decode cX6_takeContent 3 = .ok (.invokevirtual 48, 3) := by decide +kernel
theorem dX6_takeContent_6 : decode cX6_takeContent 6 = .ok (.ifCond .eq 8, 3) := by decide +kernel
theorem dX6_takeContent_9 : decode cX6_takeContent 9 = .ok (.aload_n 0, 1) := by decide +kernel
theorem dX6_takeContent_10 : decode cX6_takeContent 10 = .ok (.invokevirtual 52, 3) := by decide +kernel
theorem dX6_takeContent_13 : decode cX6_takeContent 13 = .ok (.ireturn, 1) := by decide +kernel
theorem dX6_takeContent_14 : decode cX6_takeContent 14 = .ok (.aload_n 0, 1) := by decide +kernel
theorem dX6_takeContent_15 : decode cX6_takeContent 15 = .ok (.ldc 55, 2) := by decide +kernel
theorem dX6_takeContent_17 : decode cX6_takeContent 17 = .ok (.invokevirtual 48, 3) := by decide +kernel
theorem dX6_takeContent_20 : decode cX6_takeContent 20 = .ok (.ifCond .eq 8, 3) := by decide +kernel
theorem dX6_takeContent_23 : decode cX6_takeContent 23 = .ok (.aload_n 0, 1) := by decide +kernel
theorem dX6_takeContent_24 : decode cX6_takeContent 24 = .ok (.invokevirtual 57, 3) := by decide +kernel
theorem dX6_takeContent_27 : decode cX6_takeContent 27 = .ok (.ireturn, 1) := by decide +kernel
theorem dX6_takeContent_28 : decode cX6_takeContent 28 = .ok (.aload_n 0, 1) := by decide +kernel
theorem dX6_takeContent_29 : decode cX6_takeContent 29 = .ok (.ldc 60, 2) := by decide +kernel
theorem dX6_takeContent_31 : decode cX6_takeContent 31 = .ok (.invokevirtual 48, 3) := by decide +kernel
theorem dX6_takeContent_34 : decode cX6_takeContent 34 = .ok (.ifCond .eq 15, 3) := by decide +kernel
theorem dX6_takeContent_37 : decode cX6_takeContent 37 = .ok (.aload_n 0, 1) := by decide +kernel
theorem dX6_takeContent_38 : decode cX6_takeContent 38 = .ok (.aload_n 0, 1) := by decide +kernel
theorem dX6_takeContent_39 : decode cX6_takeContent 39 = .ok (.getfield 15, 3) := by decide +kernel
theorem dX6_takeContent_42 : decode cX6_takeContent 42 = .ok (.getfield 62, 3) := by decide +kernel
theorem dX6_takeContent_45 : decode cX6_takeContent 45 = .ok (.invokevirtual 65, 3) := by decide +kernel
theorem dX6_takeContent_48 : decode cX6_takeContent 48 = .ok (.ireturn, 1) := by decide +kernel
theorem dX6_takeContent_49 : decode cX6_takeContent 49 = .ok (.aload_n 0, 1) := by decide +kernel
theorem dX6_takeContent_50 : decode cX6_takeContent 50 = .ok (.ldc 69, 2) := by decide +kernel
theorem dX6_takeContent_52 : decode cX6_takeContent 52 = .ok (.invokevirtual 48, 3) := by decide +kernel
theorem dX6_takeContent_55 : decode cX6_takeContent 55 = .ok (.ifCond .eq 21, 3) := by decide +kernel
theorem dX6_takeContent_58 : decode cX6_takeContent 58 = .ok (.aload_n 0, 1) := by decide +kernel
theorem dX6_takeContent_59 : decode cX6_takeContent 59 = .ok (.aload_n 0, 1) := by decide +kernel
theorem dX6_takeContent_60 : decode cX6_takeContent 60 = .ok (.getfield 15, 3) := by decide +kernel
theorem dX6_takeContent_63 : decode cX6_takeContent 63 = .ok (.getfield 71, 3) := by decide +kernel
theorem dX6_takeContent_66 : decode cX6_takeContent 66 = .ok (.invokevirtual 65, 3) := by decide +kernel
theorem dX6_takeContent_69 : decode cX6_takeContent 69 = .ok (.ifCond .eq 7, 3) := by decide +kernel
theorem dX6_takeContent_72 : decode cX6_takeContent 72 = .ok (.iconst 1, 1) := by decide +kernel
theorem dX6_takeContent_73 : decode cX6_takeContent 73 = .ok (.goto 4, 3) := by decide +kernel
theorem dX6_takeContent_76 : decode cX6_takeContent 76 = .ok (.iconst 0, 1) := by decide +kernel
theorem dX6_takeContent_77 : decode cX6_takeContent 77 = .ok (.ireturn, 1) := by decide +kernel
theorem dX6_takePerson_0 : decode cX6_takePerson 0 = .ok (.aload_n 0, 1) := by decide +kernel
theorem dX6_takePerson_1 : decode cX6_takePerson 1 = .ok (.getfield 15, 3) := by decide +kernel
theorem dX6_takePerson_4 : decode cX6_takePerson 4 = .ok (.getfield 73, 3) := by decide +kernel
theorem dX6_takePerson_7 : decode cX6_takePerson 7 = .ok (.bipush 8, 2) := by decide +kernel
theorem dX6_takePerson_9 : decode cX6_takePerson 9 = .ok (.if_icmp .ge 16, 3) := by decide +kernel
theorem dX6_takePerson_12 : decode cX6_takePerson 12 = .ok (.aload_n 0, 1) := by decide +kernel
theorem dX6_takePerson_13 : decode cX6_takePerson 13 = .ok (.sipush 1800, 3) := by decide +kernel
theorem dX6_takePerson_16 : decode cX6_takePerson 16 = .ok (.sipush 2199, 3) := by decide +kernel
theorem dX6_takePerson_19 : decode cX6_takePerson 19 = .ok (.invokevirtual 78, 3) := by decide +kernel
theorem dX6_takePerson_22 : decode cX6_takePerson 22 = .ok (.ifCond .ne 5, 3) := by decide +kernel
theorem dX6_takePerson_25 : decode cX6_takePerson 25 = .ok (.iconst 0, 1) := by decide +kernel
theorem dX6_takePerson_26 : decode cX6_takePerson 26 = .ok (.ireturn, 1) := by decide +kernel
theorem dX6_takePerson_27 : decode cX6_takePerson 27 = .ok (.aload_n 0, 1) := by decide +kernel
theorem dX6_takePerson_28 : decode cX6_takePerson 28 = .ok (.getfield 82, 3) := by decide +kernel
theorem dX6_takePerson_31 : decode cX6_takePerson 31 = .ok (.istore_n 1, 1) := by decide +kernel
theorem dX6_takePerson_32 : decode cX6_takePerson 32 = .ok (.aload_n 0, 1) := by decide +kernel
theorem dX6_takePerson_33 : decode cX6_takePerson 33 = .ok (.iconst 1, 1) := by decide +kernel
theorem dX6_takePerson_34 : decode cX6_takePerson 34 = .ok (.bipush 12, 2) := by decide +kernel
theorem dX6_takePerson_36 : decode cX6_takePerson 36 = .ok (.invokevirtual 78, 3) := by decide +kernel
theorem dX6_takePerson_39 : decode cX6_takePerson 39 = .ok (.ifCond .ne 5, 3) := by decide +kernel
theorem dX6_takePerson_42 : decode cX6_takePerson 42 = .ok (.iconst 0, 1) := by decide +kernel
theorem dX6_takePerson_43 : decode cX6_takePerson 43 = .ok (.ireturn, 1) := by decide +kernel
theorem dX6_takePerson_44 : decode cX6_takePerson 44 = .ok (.aload_n 0, 1) := by decide +kernel
theorem dX6_takePerson_45 : decode cX6_takePerson 45 = .ok (.getfield 82, 3) := by decide +kernel
theorem dX6_takePerson_48 : decode cX6_takePerson 48 = .ok (.istore_n 2, 1) := by decide +kernel
theorem dX6_takePerson_49 : decode cX6_takePerson 49 = .ok (.aload_n 0, 1) := by decide +kernel
theorem dX6_takePerson_50 : decode cX6_takePerson 50 = .ok (.iconst 1, 1) := by decide +kernel
theorem dX6_takePerson_51 : decode cX6_takePerson 51 = .ok (.iload_n 1, 1) := by decide +kernel
theorem dX6_takePerson_52 : decode cX6_takePerson 52 = .ok (.iload_n 2, 1) := by decide +kernel
theorem dX6_takePerson_53 : decode cX6_takePerson 53 = .ok (.invokestatic 85, 3) := by decide +kernel
theorem dX6_takePerson_56 : decode cX6_takePerson 56 = .ok (.invokevirtual 78, 3) := by decide +kernel
theorem dX6_takePerson_59 : decode cX6_takePerson 59 = .ok (.ifCond .ne 5, 3) := by decide +kernel
theorem dX6_takePerson_62 : decode cX6_takePerson 62 = .ok (.iconst 0, 1) := by decide +kernel
theorem dX6_takePerson_63 : decode cX6_takePerson 63 = .ok (.ireturn, 1) := by decide +kernel
theorem dX6_takePerson_64 : decode cX6_takePerson 64 = .ok (.aload_n 0, 1) := by decide +kernel
theorem dX6_takePerson_65 : decode cX6_takePerson 65 = .ok (.getfield 15, 3) := by decide +kernel
theorem dX6_takePerson_68 : decode cX6_takePerson 68 = .ok (.iload_n 1, 1) := by decide +kernel
theorem dX6_takePerson_69 : decode cX6_takePerson 69 = .ok (.iload_n 2, 1) := by decide +kernel
theorem dX6_takePerson_70 : decode cX6_takePerson 70 = .ok (.aload_n 0, 1) := by decide +kernel
theorem dX6_takePerson_71 : decode cX6_takePerson 71 = .ok (.getfield 82, 3) := by decide +kernel
theorem dX6_takePerson_74 : decode cX6_takePerson 74 = .ok (.invokestatic 89, 3) := by decide +kernel
theorem dX6_takePerson_77 : decode cX6_takePerson 77 = .ok (.invokevirtual 93, 3) := by decide +kernel
theorem dX6_takePerson_80 : decode cX6_takePerson 80 = .ok (.pop, 1) := by decide +kernel
theorem dX6_takePerson_81 : decode cX6_takePerson 81 = .ok (.iconst 1, 1) := by decide +kernel
theorem dX6_takePerson_82 : decode cX6_takePerson 82 = .ok (.ireturn, 1) := by decide +kernel
theorem dX6_takeGate_0 : decode cX6_takeGate 0 = .ok (.aload_n 0, 1) := by decide +kernel
theorem dX6_takeGate_1 : decode cX6_takeGate 1 = .ok (.getfield 15, 3) := by decide +kernel
theorem dX6_takeGate_4 : decode cX6_takeGate 4 = .ok (.getfield 97, 3) := by decide +kernel
theorem dX6_takeGate_7 : decode cX6_takeGate 7 = .ok (.iconst 4, 1) := by decide +kernel
theorem dX6_takeGate_8 : decode cX6_takeGate 8 = .ok (.if_icmp .ge 12, 3) := by decide +kernel
theorem dX6_takeGate_11 : decode cX6_takeGate 11 = .ok (.aload_n 0, 1) := by decide +kernel
theorem dX6_takeGate_12 : decode cX6_takeGate 12 = .ok (.iconst 0, 1) := by decide +kernel
theorem dX6_takeGate_13 : decode cX6_takeGate 13 = .ok (.iconst 4, 1) := by decide +kernel
theorem dX6_takeGate_14 : decode cX6_takeGate 14 = .ok (.invokevirtual 78, 3) := by decide +kernel
theorem dX6_takeGate_17 : decode cX6_takeGate 17 = .ok (.ifCond .ne 5, 3) := by decide +kernel
theorem dX6_takeGate_20 : decode cX6_takeGate 20 = .ok (.iconst 0, 1) := by decide +kernel
theorem dX6_takeGate_21 : decode cX6_takeGate 21 = .ok (.ireturn, 1) := by decide +kernel
theorem dX6_takeGate_22 : decode cX6_takeGate 22 = .ok (.aload_n 0, 1) := by decide +kernel
theorem dX6_takeGate_23 : decode cX6_takeGate 23 = .ok (.getfield 82, 3) := by decide +kernel
theorem dX6_takeGate_26 : decode cX6_takeGate 26 = .ok (.istore_n 1, 1) := by decide +kernel
theorem dX6_takeGate_27 : decode cX6_takeGate 27 = .ok (.aload_n 0, 1) := by decide +kernel
theorem dX6_takeGate_28 : decode cX6_takeGate 28 = .ok (.iconst 1, 1) := by decide +kernel
theorem dX6_takeGate_29 : decode cX6_takeGate 29 = .ok (.bipush 8, 2) := by decide +kernel
theorem dX6_takeGate_31 : decode cX6_takeGate 31 = .ok (.invokevirtual 78, 3) := by decide +kernel
theorem dX6_takeGate_34 : decode cX6_takeGate 34 = .ok (.ifCond .ne 5, 3) := by decide +kernel
theorem dX6_takeGate_37 : decode cX6_takeGate 37 = .ok (.iconst 0, 1) := by decide +kernel
theorem dX6_takeGate_38 : decode cX6_takeGate 38 = .ok (.ireturn, 1) := by decide +kernel
theorem dX6_takeGate_39 : decode cX6_takeGate 39 = .ok (.aload_n 0, 1) := by decide +kernel
theorem dX6_takeGate_40 : decode cX6_takeGate 40 = .ok (.getfield 15, 3) := by decide +kernel
theorem dX6_takeGate_43 : decode cX6_takeGate 43 = .ok (.iload_n 1, 1) := by decide +kernel
theorem dX6_takeGate_44 : decode cX6_takeGate 44 = .ok (.aload_n 0, 1) := by decide +kernel
theorem dX6_takeGate_45 : decode cX6_takeGate 45 = .ok (.getfield 82, 3) := by decide +kernel
theorem dX6_takeGate_48 : decode cX6_takeGate 48 = .ok (.invokevirtual 100, 3) := by decide +kernel
theorem dX6_takeGate_51 : decode cX6_takeGate 51 = .ok (.pop, 1) := by decide +kernel
theorem dX6_takeGate_52 : decode cX6_takeGate 52 = .ok (.iconst 1, 1) := by decide +kernel
theorem dX6_takeGate_53 : decode cX6_takeGate 53 = .ok (.ireturn, 1) := by decide +kernel
theorem dX6_takeTie_0 : decode cX6_takeTie 0 = .ok (.aload_n 0, 1) := by decide +kernel
theorem dX6_takeTie_1 : decode cX6_takeTie 1 = .ok (.iconst 0, 1) := by decide +kernel
theorem dX6_takeTie_2 : decode cX6_takeTie 2 = .ok (.aload_n 0, 1) := by decide +kernel
theorem dX6_takeTie_3 : decode cX6_takeTie 3 = .ok (.getfield 15, 3) := by decide +kernel
theorem dX6_takeTie_6 : decode cX6_takeTie 6 = .ok (.getfield 73, 3) := by decide +kernel
theorem dX6_takeTie_9 : decode cX6_takeTie 9 = .ok (.iconst 1, 1) := by decide +kernel
theorem dX6_takeTie_10 : decode cX6_takeTie 10 = .ok (.isub, 1) := by decide +kernel
theorem dX6_takeTie_11 : decode cX6_takeTie 11 = .ok (.invokevirtual 78, 3) := by decide +kernel
theorem dX6_takeTie_14 : decode cX6_takeTie 14 = .ok (.ifCond .ne 5, 3) := by decide +kernel
theorem dX6_takeTie_17 : decode cX6_takeTie 17 = .ok (.iconst 0, 1) := by decide +kernel
theorem dX6_takeTie_18 : decode cX6_takeTie 18 = .ok (.ireturn, 1) := by decide +kernel
theorem dX6_takeTie_19 : decode cX6_takeTie 19 = .ok (.aload_n 0, 1) := by decide +kernel
theorem dX6_takeTie_20 : decode cX6_takeTie 20 = .ok (.getfield 82, 3) := by decide +kernel
theorem dX6_takeTie_23 : decode cX6_takeTie 23 = .ok (.istore_n 2, 1) := by decide +kernel
theorem dX6_takeTie_24 : decode cX6_takeTie 24 = .ok (.aload_n 0, 1) := by decide +kernel
theorem dX6_takeTie_25 : decode cX6_takeTie 25 = .ok (.iconst 0, 1) := by decide +kernel
theorem dX6_takeTie_26 : decode cX6_takeTie 26 = .ok (.aload_n 0, 1) := by decide +kernel
theorem dX6_takeTie_27 : decode cX6_takeTie 27 = .ok (.getfield 15, 3) := by decide +kernel
theorem dX6_takeTie_30 : decode cX6_takeTie 30 = .ok (.getfield 73, 3) := by decide +kernel
theorem dX6_takeTie_33 : decode cX6_takeTie 33 = .ok (.iconst 1, 1) := by decide +kernel
theorem dX6_takeTie_34 : decode cX6_takeTie 34 = .ok (.isub, 1) := by decide +kernel
theorem dX6_takeTie_35 : decode cX6_takeTie 35 = .ok (.invokevirtual 78, 3) := by decide +kernel
theorem dX6_takeTie_38 : decode cX6_takeTie 38 = .ok (.ifCond .eq 11, 3) := by decide +kernel
theorem dX6_takeTie_41 : decode cX6_takeTie 41 = .ok (.aload_n 0, 1) := by decide +kernel
theorem dX6_takeTie_42 : decode cX6_takeTie 42 = .ok (.getfield 82, 3) := by decide +kernel
theorem dX6_takeTie_45 : decode cX6_takeTie 45 = .ok (.iload_n 2, 1) := by decide +kernel
theorem dX6_takeTie_46 : decode cX6_takeTie 46 = .ok (.if_icmp .ne 5, 3) := by decide +kernel
theorem dX6_takeTie_49 : decode cX6_takeTie 49 = .ok (.iconst 0, 1) := by decide +kernel
theorem dX6_takeTie_50 : decode cX6_takeTie 50 = .ok (.ireturn, 1) := by decide +kernel
theorem dX6_takeTie_51 : decode cX6_takeTie 51 = .ok (.aload_n 1, 1) := by decide +kernel
theorem dX6_takeTie_52 : decode cX6_takeTie 52 = .ok (.iload_n 2, 1) := by decide +kernel
theorem dX6_takeTie_53 : decode cX6_takeTie 53 = .ok (.aload_n 0, 1) := by decide +kernel
theorem dX6_takeTie_54 : decode cX6_takeTie 54 = .ok (.getfield 82, 3) := by decide +kernel
theorem dX6_takeTie_57 : decode cX6_takeTie 57 = .ok (.invokestatic 103, 3) := by decide +kernel
theorem dX6_takeTie_60 : decode cX6_takeTie 60 = .ok (.pop, 1) := by decide +kernel
theorem dX6_takeTie_61 : decode cX6_takeTie 61 = .ok (.iconst 1, 1) := by decide +kernel
theorem dX6_takeTie_62 : decode cX6_takeTie 62 = .ok (.ireturn, 1) := by decide +kernel
theorem dX6_takeSemicolon_0 : decode cX6_takeSemicolon 0 = .ok (.aload_n 0, 1) := by decide +kernel
theorem dX6_takeSemicolon_1 : decode cX6_takeSemicolon 1 = .ok (.invokevirtual 28, 3) := by decide +kernel
theorem dX6_takeSemicolon_4 : decode cX6_takeSemicolon 4 = .ok (.aload_n 0, 1) := by decide +kernel
theorem dX6_takeSemicolon_5 : decode cX6_takeSemicolon 5 = .ok (.getfield 33, 3) := by decide +kernel
theorem dX6_takeSemicolon_8 : decode cX6_takeSemicolon 8 = .ok (.iconst 3, 1) := by decide +kernel
theorem dX6_takeSemicolon_9 : decode cX6_takeSemicolon 9 = .ok (.if_icmp .ne 7, 3) := by decide +kernel
theorem dX6_takeSemicolon_12 : decode cX6_takeSemicolon 12 = .ok (.iconst 1, 1) := by decide +kernel
theorem dX6_takeSemicolon_13 : decode cX6_takeSemicolon 13 = .ok (.goto 4, 3) := by decide +kernel
theorem dX6_takeSemicolon_16 : decode cX6_takeSemicolon 16 = .ok (.iconst 0, 1) := by decide +kernel
theorem dX6_takeSemicolon_17 : decode cX6_takeSemicolon 17 = .ok (.ireturn, 1) := by decide +kernel
theorem dX6_takeNumber_0 : decode cX6_takeNumber 0 = .ok (.aload_n 0, 1) := by decide +kernel
theorem dX6_takeNumber_1 : decode cX6_takeNumber 1 = .ok (.invokevirtual 28, 3) := by decide +kernel
theorem dX6_takeNumber_4 : decode cX6_takeNumber 4 = .ok (.aload_n 0, 1) := by decide +kernel
theorem dX6_takeNumber_5 : decode cX6_takeNumber 5 = .ok (.getfield 33, 3) := by decide +kernel
theorem dX6_takeNumber_8 : decode cX6_takeNumber 8 = .ok (.iconst 2, 1) := by decide +kernel
theorem dX6_takeNumber_9 : decode cX6_takeNumber 9 = .ok (.if_icmp .ne 16, 3) := by decide +kernel
theorem dX6_takeNumber_12 : decode cX6_takeNumber 12 = .ok (.aload_n 0, 1) := by decide +kernel
theorem dX6_takeNumber_13 : decode cX6_takeNumber 13 = .ok (.getfield 24, 3) := by decide +kernel
theorem dX6_takeNumber_16 : decode cX6_takeNumber 16 = .ok (.aload_n 0, 1) := by decide +kernel
theorem dX6_takeNumber_17 : decode cX6_takeNumber 17 = .ok (.getfield 43, 3) := by decide +kernel
theorem dX6_takeNumber_20 : decode cX6_takeNumber 20 = .ok (.isub, 1) := by decide +kernel
theorem dX6_takeNumber_21 : decode cX6_takeNumber 21 = .ok (.iconst 4, 1) := by decide +kernel
theorem dX6_takeNumber_22 : decode cX6_takeNumber 22 = .ok (.if_icmp .le 5, 3) := by decide +kernel
theorem dX6_takeNumber_25 : decode cX6_takeNumber 25 = .ok (.iconst 0, 1) := by decide +kernel
theorem dX6_takeNumber_26 : decode cX6_takeNumber 26 = .ok (.ireturn, 1) := by decide +kernel
theorem dX6_takeNumber_27 : decode cX6_takeNumber 27 = .ok (.aload_n 0, 1) := by decide +kernel
theorem dX6_takeNumber_28 : decode cX6_takeNumber 28 = .ok (.iconst 0, 1) := by decide +kernel
theorem dX6_takeNumber_29 : decode cX6_takeNumber 29 = .ok (.putfield 82, 3) := by decide +kernel
theorem dX6_takeNumber_32 : decode cX6_takeNumber 32 = .ok (.aload_n 0, 1) := by decide +kernel
theorem dX6_takeNumber_33 : decode cX6_takeNumber 33 = .ok (.getfield 43, 3) := by decide +kernel
theorem dX6_takeNumber_36 : decode cX6_takeNumber 36 = .ok (.istore_n 3, 1) := by decide +kernel
theorem dX6_takeNumber_37 : decode cX6_takeNumber 37 = .ok (.iload_n 3, 1) := by decide +kernel
theorem dX6_takeNumber_38 : decode cX6_takeNumber 38 = .ok (.aload_n 0, 1) := by decide +kernel
theorem dX6_takeNumber_39 : decode cX6_takeNumber 39 = .ok (.getfield 24, 3) := by decide +kernel
theorem dX6_takeNumber_42 : decode cX6_takeNumber 42 = .ok (.if_icmp .ge 32, 3) := by decide +kernel
theorem dX6_takeNumber_45 : decode cX6_takeNumber 45 = .ok (.aload_n 0, 1) := by decide +kernel
theorem dX6_takeNumber_46 : decode cX6_takeNumber 46 = .ok (.bipush 10, 2) := by decide +kernel
theorem dX6_takeNumber_48 : decode cX6_takeNumber 48 = .ok (.aload_n 0, 1) := by decide +kernel
theorem dX6_takeNumber_49 : decode cX6_takeNumber 49 = .ok (.getfield 82, 3) := by decide +kernel
theorem dX6_takeNumber_52 : decode cX6_takeNumber 52 = .ok (.imul, 1) := by decide +kernel
theorem dX6_takeNumber_53 : decode cX6_takeNumber 53 = .ok (.aload_n 0, 1) := by decide +kernel
theorem dX6_takeNumber_54 : decode cX6_takeNumber 54 = .ok (.getfield 9, 3) := by decide +kernel
theorem dX6_takeNumber_57 : decode cX6_takeNumber 57 = .ok (.iload_n 3, 1) := by decide +kernel
theorem dX6_takeNumber_58 : decode cX6_takeNumber 58 = .ok (.invokevirtual 107, 3) := by decide +kernel
theorem dX6_takeNumber_61 : decode cX6_takeNumber 61 = .ok (.iadd, 1) := by decide +kernel
theorem dX6_takeNumber_62 : decode cX6_takeNumber 62 = .ok (.bipush 48, 2) := by decide +kernel
theorem dX6_takeNumber_64 : decode cX6_takeNumber 64 = .ok (.isub, 1) := by decide +kernel
theorem dX6_takeNumber_65 : decode cX6_takeNumber 65 = .ok (.putfield 82, 3) := by decide +kernel
theorem dX6_takeNumber_68 : decode cX6_takeNumber 68 = .ok (.iinc 3 1, 3) := by decide +kernel
theorem dX6_takeNumber_71 : decode cX6_takeNumber 71 = .ok (.goto (-34), 3) := by decide +kernel
theorem dX6_takeNumber_74 : decode cX6_takeNumber 74 = .ok (.aload_n 0, 1) := by decide +kernel
theorem dX6_takeNumber_75 : decode cX6_takeNumber 75 = .ok (.getfield 82, 3) := by decide +kernel
theorem dX6_takeNumber_78 : decode cX6_takeNumber 78 = .ok (.iload_n 1, 1) := by decide +kernel
theorem dX6_takeNumber_79 : decode cX6_takeNumber 79 = .ok (.if_icmp .lt 15, 3) := by decide +kernel
theorem dX6_takeNumber_82 : decode cX6_takeNumber 82 = .ok (.aload_n 0, 1) := by decide +kernel
theorem dX6_takeNumber_83 : decode cX6_takeNumber 83 = .ok (.getfield 82, 3) := by decide +kernel
theorem dX6_takeNumber_86 : decode cX6_takeNumber 86 = .ok (.iload_n 2, 1) := by decide +kernel
theorem dX6_takeNumber_87 : decode cX6_takeNumber 87 = .ok (.if_icmp .gt 7, 3) := by decide +kernel
theorem dX6_takeNumber_90 : decode cX6_takeNumber 90 = .ok (.iconst 1, 1) := by decide +kernel
theorem dX6_takeNumber_91 : decode cX6_takeNumber 91 = .ok (.goto 4, 3) := by decide +kernel
theorem dX6_takeNumber_94 : decode cX6_takeNumber 94 = .ok (.iconst 0, 1) := by decide +kernel
theorem dX6_takeNumber_95 : decode cX6_takeNumber 95 = .ok (.ireturn, 1) := by decide +kernel
theorem dX6_isWord_0 : decode cX6_isWord 0 = .ok (.aload_n 0, 1) := by decide +kernel
theorem dX6_isWord_1 : decode cX6_isWord 1 = .ok (.getfield 33, 3) := by decide +kernel
theorem dX6_isWord_4 : decode cX6_isWord 4 = .ok (.iconst 1, 1) := by decide +kernel
theorem dX6_isWord_5 : decode cX6_isWord 5 = .ok (.if_icmp .ne 19, 3) := by decide +kernel
theorem dX6_isWord_8 : decode cX6_isWord 8 = .ok (.aload_n 0, 1) := by decide +kernel
theorem dX6_isWord_9 : decode cX6_isWord 9 = .ok (.getfield 24, 3) := by decide +kernel
theorem dX6_isWord_12 : decode cX6_isWord 12 = .ok (.aload_n 0, 1) := by decide +kernel
theorem dX6_isWord_13 : decode cX6_isWord 13 = .ok (.getfield 43, 3) := by decide +kernel
theorem dX6_isWord_16 : decode cX6_isWord 16 = .ok (.isub, 1) := by decide +kernel
theorem dX6_isWord_17 : decode cX6_isWord 17 = .ok (.aload_n 1, 1) := by decide +kernel
theorem dX6_isWord_18 : decode cX6_isWord 18 = .ok (.invokevirtual 110, 3) := by decide +kernel
theorem dX6_isWord_21 : decode cX6_isWord 21 = .ok (.if_icmp .eq 5, 3) := by decide +kernel
theorem dX6_isWord_24 : decode cX6_isWord 24 = .ok (.iconst 0, 1) := by decide +kernel
theorem dX6_isWord_25 : decode cX6_isWord 25 = .ok (.ireturn, 1) := by decide +kernel
theorem dX6_isWord_26 : decode cX6_isWord 26 = .ok (.iconst 0, 1) := by decide +kernel
theorem dX6_isWord_27 : decode cX6_isWord 27 = .ok (.istore_n 2, 1) := by decide +kernel
theorem dX6_isWord_28 : decode cX6_isWord 28 = .ok (.iload_n 2, 1) := by decide +kernel
theorem dX6_isWord_29 : decode cX6_isWord 29 = .ok (.aload_n 1, 1) := by decide +kernel
theorem dX6_isWord_30 : decode cX6_isWord 30 = .ok (.invokevirtual 110, 3) := by decide +kernel
theorem dX6_isWord_33 : decode cX6_isWord 33 = .ok (.if_icmp .ge 32, 3) := by decide +kernel
theorem dX6_isWord_36 : decode cX6_isWord 36 = .ok (.aload_n 0, 1) := by decide +kernel
theorem dX6_isWord_37 : decode cX6_isWord 37 = .ok (.getfield 9, 3) := by decide +kernel
theorem dX6_isWord_40 : decode cX6_isWord 40 = .ok (.aload_n 0, 1) := by decide +kernel
theorem dX6_isWord_41 : decode cX6_isWord 41 = .ok (.getfield 43, 3) := by decide +kernel
theorem dX6_isWord_44 : decode cX6_isWord 44 = .ok (.iload_n 2, 1) := by decide +kernel
theorem dX6_isWord_45 : decode cX6_isWord 45 = .ok (.iadd, 1) := by decide +kernel
theorem dX6_isWord_46 : decode cX6_isWord 46 = .ok (.invokevirtual 107, 3) := by decide +kernel
theorem dX6_isWord_49 : decode cX6_isWord 49 = .ok (.aload_n 1, 1) := by decide +kernel
theorem dX6_isWord_50 : decode cX6_isWord 50 = .ok (.iload_n 2, 1) := by decide +kernel
theorem dX6_isWord_51 : decode cX6_isWord 51 = .ok (.invokevirtual 116, 3) := by decide +kernel
theorem dX6_isWord_54 : decode cX6_isWord 54 = .ok (.if_icmp .eq 5, 3) := by decide +kernel
theorem dX6_isWord_57 : decode cX6_isWord 57 = .ok (.iconst 0, 1) := by decide +kernel
theorem dX6_isWord_58 : decode cX6_isWord 58 = .ok (.ireturn, 1) := by decide +kernel
theorem dX6_isWord_59 : decode cX6_isWord 59 = .ok (.iinc 2 1, 3) := by decide +kernel
theorem dX6_isWord_62 : decode cX6_isWord 62 = .ok (.goto (-34), 3) := by decide +kernel
theorem dX6_isWord_65 : decode cX6_isWord 65 = .ok (.iconst 1, 1) := by decide +kernel
theorem dX6_isWord_66 : decode cX6_isWord 66 = .ok (.ireturn, 1) := by decide +kernel
theorem dX6_takeToken_0 : decode cX6_takeToken 0 = .ok (.aload_n 0, 1) := by decide +kernel
theorem dX6_takeToken_1 : decode cX6_takeToken 1 = .ok (.getfield 24, 3) := by decide +kernel
theorem dX6_takeToken_4 : decode cX6_takeToken 4 = .ok (.aload_n 0, 1) := by decide +kernel
theorem dX6_takeToken_5 : decode cX6_takeToken 5 = .ok (.getfield 9, 3) := by decide +kernel
theorem dX6_takeToken_8 : decode cX6_takeToken 8 = .ok (.getfield 120, 3) := by decide +kernel
theorem dX6_takeToken_11 : decode cX6_takeToken 11 = .ok (.if_icmp .ge 32, 3) := by decide +kernel
theorem dX6_takeToken_14 : decode cX6_takeToken 14 = .ok (.aload_n 0, 1) := by decide +kernel
theorem dX6_takeToken_15 : decode cX6_takeToken 15 = .ok (.getfield 9, 3) := by decide +kernel
theorem dX6_takeToken_18 : decode cX6_takeToken 18 = .ok (.aload_n 0, 1) := by decide +kernel
theorem dX6_takeToken_19 : decode cX6_takeToken 19 = .ok (.getfield 24, 3) := by decide +kernel
theorem dX6_takeToken_22 : decode cX6_takeToken 22 = .ok (.invokevirtual 107, 3) := by decide +kernel
theorem dX6_takeToken_25 : decode cX6_takeToken 25 = .ok (.bipush 32, 2) := by decide +kernel
theorem dX6_takeToken_27 : decode cX6_takeToken 27 = .ok (.if_icmp .ne 16, 3) := by decide +kernel
theorem dX6_takeToken_30 : decode cX6_takeToken 30 = .ok (.aload_n 0, 1) := by decide +kernel
theorem dX6_takeToken_31 : decode cX6_takeToken 31 = .ok (.dup, 1) := by decide +kernel
theorem dX6_takeToken_32 : decode cX6_takeToken 32 = .ok (.getfield 24, 3) := by decide +kernel
theorem dX6_takeToken_35 : decode cX6_takeToken 35 = .ok (.iconst 1, 1) := by decide +kernel
theorem dX6_takeToken_36 : decode cX6_takeToken 36 = .ok (.iadd, 1) := by decide +kernel
theorem dX6_takeToken_37 : decode cX6_takeToken 37 = .ok (.putfield 24, 3) := by decide +kernel
theorem dX6_takeToken_40 : decode cX6_takeToken 40 = .ok (.goto (-40), 3) := by decide +kernel
theorem dX6_takeToken_43 : decode cX6_takeToken 43 = .ok (.aload_n 0, 1) := by decide +kernel
theorem dX6_takeToken_44 : decode cX6_takeToken 44 = .ok (.aload_n 0, 1) := by decide +kernel
theorem dX6_takeToken_45 : decode cX6_takeToken 45 = .ok (.getfield 24, 3) := by decide +kernel
theorem dX6_takeToken_48 : decode cX6_takeToken 48 = .ok (.putfield 43, 3) := by decide +kernel
theorem dX6_takeToken_51 : decode cX6_takeToken 51 = .ok (.aload_n 0, 1) := by decide +kernel
theorem dX6_takeToken_52 : decode cX6_takeToken 52 = .ok (.aload_n 0, 1) := by decide +kernel
theorem dX6_takeToken_53 : decode cX6_takeToken 53 = .ok (.getfield 9, 3) := by decide +kernel
theorem dX6_takeToken_56 : decode cX6_takeToken 56 = .ok (.aload_n 0, 1) := by decide +kernel
theorem dX6_takeToken_57 : decode cX6_takeToken 57 = .ok (.getfield 43, 3) := by decide +kernel
theorem dX6_takeToken_60 : decode cX6_takeToken 60 = .ok (.invokevirtual 107, 3) := by decide +kernel
theorem dX6_takeToken_63 : decode cX6_takeToken 63 = .ok (.invokestatic 122, 3) := by decide +kernel
theorem dX6_takeToken_66 : decode cX6_takeToken 66 = .ok (.putfield 33, 3) := by decide +kernel
theorem dX6_takeToken_69 : decode cX6_takeToken 69 = .ok (.aload_n 0, 1) := by decide +kernel
theorem dX6_takeToken_70 : decode cX6_takeToken 70 = .ok (.getfield 33, 3) := by decide +kernel
theorem dX6_takeToken_73 : decode cX6_takeToken 73 = .ok (.iconst 1, 1) := by decide +kernel
theorem dX6_takeToken_74 : decode cX6_takeToken 74 = .ok (.if_icmp .eq 11, 3) := by decide +kernel
theorem dX6_takeToken_77 : decode cX6_takeToken 77 = .ok (.aload_n 0, 1) := by decide +kernel
theorem dX6_takeToken_78 : decode cX6_takeToken 78 = .ok (.getfield 33, 3) := by decide +kernel
theorem dX6_takeToken_81 : decode cX6_takeToken 81 = .ok (.iconst 2, 1) := by decide +kernel
theorem dX6_takeToken_82 : decode cX6_takeToken 82 = .ok (.if_icmp .ne 51, 3) := by decide +kernel
theorem dX6_takeToken_85 : decode cX6_takeToken 85 = .ok (.aload_n 0, 1) := by decide +kernel
theorem dX6_takeToken_86 : decode cX6_takeToken 86 = .ok (.getfield 24, 3) := by decide +kernel
theorem dX6_takeToken_89 : decode cX6_takeToken 89 = .ok (.aload_n 0, 1) := by decide +kernel
theorem dX6_takeToken_90 : decode cX6_takeToken 90 = .ok (.getfield 9, 3) := by decide +kernel
theorem dX6_takeToken_93 : decode cX6_takeToken 93 = .ok (.getfield 120, 3) := by decide +kernel
theorem dX6_takeToken_96 : decode cX6_takeToken 96 = .ok (.if_icmp .ge 54, 3) := by decide +kernel
theorem dX6_takeToken_99 : decode cX6_takeToken 99 = .ok (.aload_n 0, 1) := by decide +kernel
theorem dX6_takeToken_100 : decode cX6_takeToken 100 = .ok (.getfield 9, 3) := by decide +kernel
theorem dX6_takeToken_103 : decode cX6_takeToken 103 = .ok (.aload_n 0, 1) := by decide +kernel
theorem dX6_takeToken_104 : decode cX6_takeToken 104 = .ok (.getfield 24, 3) := by decide +kernel
theorem dX6_takeToken_107 : decode cX6_takeToken 107 = .ok (.invokevirtual 107, 3) := by decide +kernel
theorem dX6_takeToken_110 : decode cX6_takeToken 110 = .ok (.invokestatic 122, 3) := by decide +kernel
theorem dX6_takeToken_113 : decode cX6_takeToken 113 = .ok (.aload_n 0, 1) := by decide +kernel
theorem dX6_takeToken_114 : decode cX6_takeToken 114 = .ok (.getfield 33, 3) := by decide +kernel
theorem dX6_takeToken_117 : decode cX6_takeToken 117 = .ok (.if_icmp .ne 33, 3) := by decide +kernel
theorem dX6_takeToken_120 : decode cX6_takeToken 120 = .ok (.aload_n 0, 1) := by decide +kernel
theorem dX6_takeToken_121 : decode cX6_takeToken 121 = .ok (.dup, 1) := by decide +kernel
theorem dX6_takeToken_122 : decode cX6_takeToken 122 = .ok (.getfield 24, 3) := by decide +kernel
theorem dX6_takeToken_125 : decode cX6_takeToken 125 = .ok (.iconst 1, 1) := by decide +kernel
theorem dX6_takeToken_126 : decode cX6_takeToken 126 = .ok (.iadd, 1) := by decide +kernel
theorem dX6_takeToken_127 : decode cX6_takeToken 127 = .ok (.putfield 24, 3) := by decide +kernel
theorem dX6_takeToken_130 : decode cX6_takeToken 130 = .ok (.goto (-45), 3) := by decide +kernel
theorem dX6_takeToken_133 : decode cX6_takeToken 133 = .ok (.aload_n 0, 1) := by decide +kernel
theorem dX6_takeToken_134 : decode cX6_takeToken 134 = .ok (.getfield 33, 3) := by decide +kernel
theorem dX6_takeToken_137 : decode cX6_takeToken 137 = .ok (.ifCond .eq 13, 3) := by decide +kernel
theorem dX6_takeToken_140 : decode cX6_takeToken 140 = .ok (.aload_n 0, 1) := by decide +kernel
theorem dX6_takeToken_141 : decode cX6_takeToken 141 = .ok (.dup, 1) := by decide +kernel
theorem dX6_takeToken_142 : decode cX6_takeToken 142 = .ok (.getfield 24, 3) := by decide +kernel
theorem dX6_takeToken_145 : decode cX6_takeToken 145 = .ok (.iconst 1, 1) := by decide +kernel
theorem dX6_takeToken_146 : decode cX6_takeToken 146 = .ok (.iadd, 1) := by decide +kernel
theorem dX6_takeToken_147 : decode cX6_takeToken 147 = .ok (.putfield 24, 3) := by decide +kernel
theorem dX6_takeToken_150 : decode cX6_takeToken 150 = .ok (.return_, 1) := by decide +kernel
theorem dX6_kindOf_0 : decode cX6_kindOf 0 = .ok (.iload_n 0, 1) := by decide +kernel
theorem dX6_kindOf_1 : decode cX6_kindOf 1 = .ok (.iconst (-1), 1) := by decide +kernel
theorem dX6_kindOf_2 : decode cX6_kindOf 2 = .ok (.if_icmp .ne 5, 3) := by decide +kernel
theorem dX6_kindOf_5 : decode cX6_kindOf 5 = .ok (.iconst 0, 1) := by decide +kernel
theorem dX6_kindOf_6 : decode cX6_kindOf 6 = .ok (.ireturn, 1) := by decide +kernel
theorem dX6_kindOf_7 : decode cX6_kindOf 7 = .ok (.iload_n 0, 1) := by decide +kernel
theorem dX6_kindOf_8 : decode cX6_kindOf 8 = .ok (.bipush 97, 2) := by decide +kernel
theorem dX6_kindOf_10 : decode cX6_kindOf 10 = .ok (.if_icmp .lt 11, 3) := by decide +kernel
theorem dX6_kindOf_13 : decode cX6_kindOf 13 = .ok (.iload_n 0, 1) := by decide +kernel
theorem dX6_kindOf_14 : decode cX6_kindOf 14 = .ok (.bipush 122, 2) := by decide +kernel
theorem dX6_kindOf_16 : decode cX6_kindOf 16 = .ok (.if_icmp .gt 5, 3) := by decide +kernel
theorem dX6_kindOf_19 : decode cX6_kindOf 19 = .ok (.iconst 1, 1) := by decide +kernel
theorem dX6_kindOf_20 : decode cX6_kindOf 20 = .ok (.ireturn, 1) := by decide +kernel
theorem dX6_kindOf_21 : decode cX6_kindOf 21 = .ok (.iload_n 0, 1) := by decide +kernel
theorem dX6_kindOf_22 : decode cX6_kindOf 22 = .ok (.bipush 48, 2) := by decide +kernel
theorem dX6_kindOf_24 : decode cX6_kindOf 24 = .ok (.if_icmp .lt 11, 3) := by decide +kernel
theorem dX6_kindOf_27 : decode cX6_kindOf 27 = .ok (.iload_n 0, 1) := by decide +kernel
theorem dX6_kindOf_28 : decode cX6_kindOf 28 = .ok (.bipush 57, 2) := by decide +kernel
theorem dX6_kindOf_30 : decode cX6_kindOf 30 = .ok (.if_icmp .gt 5, 3) := by decide +kernel
theorem dX6_kindOf_33 : decode cX6_kindOf 33 = .ok (.iconst 2, 1) := by decide +kernel
theorem dX6_kindOf_34 : decode cX6_kindOf 34 = .ok (.ireturn, 1) := by decide +kernel
theorem dX6_kindOf_35 : decode cX6_kindOf 35 = .ok (.iload_n 0, 1) := by decide +kernel
theorem dX6_kindOf_36 : decode cX6_kindOf 36 = .ok (.bipush 59, 2) := by decide +kernel
theorem dX6_kindOf_38 : decode cX6_kindOf 38 = .ok (.if_icmp .ne 7, 3) := by decide +kernel
theorem dX6_kindOf_41 : decode cX6_kindOf 41 = .ok (.iconst 3, 1) := by decide +kernel
theorem dX6_kindOf_42 : decode cX6_kindOf 42 = .ok (.goto 4, 3) := by decide +kernel
theorem dX6_kindOf_45 : decode cX6_kindOf 45 = .ok (.iconst 4, 1) := by decide +kernel
theorem dX6_kindOf_46 : decode cX6_kindOf 46 = .ok (.ireturn, 1) := by decide +kernel
theorem dX7_init_0 : decode cX7_init 0 = .ok (.aload_n 0, 1) := by decide +kernel
theorem dX7_init_1 : decode cX7_init 1 = .ok (.invokespecial 3, 3) := by decide +kernel
theorem dX7_init_4 : decode cX7_init 4 = .ok (.aload_n 0, 1) := by decide +kernel
theorem dX7_init_5 : decode cX7_init 5 = .ok (.bipush 8, 2) := by decide +kernel
theorem dX7_init_7 : decode cX7_init 7 = .ok (.newarray .int, 2) := by decide +kernel
theorem dX7_init_9 : decode cX7_init 9 = .ok (.putfield 11, 3) := by decide +kernel
theorem dX7_init_12 : decode cX7_init 12 = .ok (.aload_n 0, 1) := by decide +kernel
theorem dX7_init_13 : decode cX7_init 13 = .ok (.bipush 8, 2) := by decide +kernel
theorem dX7_init_15 : decode cX7_init 15 = .ok (.newarray .int, 2) := by decide +kernel
theorem dX7_init_17 : decode cX7_init 17 = .ok (.putfield 15, 3) := by decide +kernel
theorem dX7_init_20 : decode cX7_init 20 = .ok (.aload_n 0, 1) := by decide +kernel
theorem dX7_init_21 : decode cX7_init 21 = .ok (.bipush 8, 2) := by decide +kernel
theorem dX7_init_23 : decode cX7_init 23 = .ok (.newarray .int, 2) := by decide +kernel
theorem dX7_init_25 : decode cX7_init 25 = .ok (.putfield 18, 3) := by decide +kernel
theorem dX7_init_28 : decode cX7_init 28 = .ok (.aload_n 0, 1) := by decide +kernel
theorem dX7_init_29 : decode cX7_init 29 = .ok (.bipush 8, 2) := by decide +kernel
theorem dX7_init_31 : decode cX7_init 31 = .ok (.newarray .int, 2) := by decide +kernel
theorem dX7_init_33 : decode cX7_init 33 = .ok (.putfield 21, 3) := by decide +kernel
theorem dX7_init_36 : decode cX7_init 36 = .ok (.aload_n 0, 1) := by decide +kernel
theorem dX7_init_37 : decode cX7_init 37 = .ok (.bipush 8, 2) := by decide +kernel
theorem dX7_init_39 : decode cX7_init 39 = .ok (.newarray .int, 2) := by decide +kernel
theorem dX7_init_41 : decode cX7_init 41 = .ok (.putfield 24, 3) := by decide +kernel
theorem dX7_init_44 : decode cX7_init 44 = .ok (.aload_n 0, 1) := by decide +kernel
theorem dX7_init_45 : decode cX7_init 45 = .ok (.iconst 4, 1) := by decide +kernel
theorem dX7_init_46 : decode cX7_init 46 = .ok (.newarray .int, 2) := by decide +kernel
theorem dX7_init_48 : decode cX7_init 48 = .ok (.putfield 27, 3) := by decide +kernel
theorem dX7_init_51 : decode cX7_init 51 = .ok (.aload_n 0, 1) := by decide +kernel
theorem dX7_init_52 : decode cX7_init 52 = .ok (.iconst 4, 1) := by decide +kernel
theorem dX7_init_53 : decode cX7_init 53 = .ok (.newarray .int, 2) := by decide +kernel
theorem dX7_init_55 : decode cX7_init 55 = .ok (.putfield 30, 3) := by decide +kernel
theorem dX7_init_58 : decode cX7_init 58 = .ok (.return_, 1) := by decide +kernel
theorem dX7_isLaw_0 : decode cX7_isLaw 0 = .ok (.iload_n 0, 1) := by decide +kernel
theorem dX7_isLaw_1 : decode cX7_isLaw 1 = .ok (.ifCond .lt 12, 3) := by decide +kernel
theorem dX7_isLaw_4 : decode cX7_isLaw 4 = .ok (.iload_n 0, 1) := by decide +kernel
theorem dX7_isLaw_5 : decode cX7_isLaw 5 = .ok (.iconst 4, 1) := by decide +kernel
theorem dX7_isLaw_6 : decode cX7_isLaw 6 = .ok (.if_icmp .gt 7, 3) := by decide +kernel
theorem dX7_isLaw_9 : decode cX7_isLaw 9 = .ok (.iconst 1, 1) := by decide +kernel
theorem dX7_isLaw_10 : decode cX7_isLaw 10 = .ok (.goto 4, 3) := by decide +kernel
theorem dX7_isLaw_13 : decode cX7_isLaw 13 = .ok (.iconst 0, 1) := by decide +kernel
theorem dX7_isLaw_14 : decode cX7_isLaw 14 = .ok (.ireturn, 1) := by decide +kernel
theorem dX7_isSeats_0 : decode cX7_isSeats 0 = .ok (.iload_n 0, 1) := by decide +kernel
theorem dX7_isSeats_1 : decode cX7_isSeats 1 = .ok (.iconst 1, 1) := by decide +kernel
theorem dX7_isSeats_2 : decode cX7_isSeats 2 = .ok (.if_icmp .lt 13, 3) := by decide +kernel
theorem dX7_isSeats_5 : decode cX7_isSeats 5 = .ok (.iload_n 0, 1) := by decide +kernel
theorem dX7_isSeats_6 : decode cX7_isSeats 6 = .ok (.bipush 8, 2) := by decide +kernel
theorem dX7_isSeats_8 : decode cX7_isSeats 8 = .ok (.if_icmp .gt 7, 3) := by decide +kernel
theorem dX7_isSeats_11 : decode cX7_isSeats 11 = .ok (.iconst 1, 1) := by decide +kernel
theorem dX7_isSeats_12 : decode cX7_isSeats 12 = .ok (.goto 4, 3) := by decide +kernel
theorem dX7_isSeats_15 : decode cX7_isSeats 15 = .ok (.iconst 0, 1) := by decide +kernel
theorem dX7_isSeats_16 : decode cX7_isSeats 16 = .ok (.ireturn, 1) := by decide +kernel
theorem dX7_hasPerson_0 : decode cX7_hasPerson 0 = .ok (.iload_n 1, 1) := by decide +kernel
theorem dX7_hasPerson_1 : decode cX7_hasPerson 1 = .ok (.ifCond .lt 15, 3) := by decide +kernel
theorem dX7_hasPerson_4 : decode cX7_hasPerson 4 = .ok (.iload_n 1, 1) := by decide +kernel
theorem dX7_hasPerson_5 : decode cX7_hasPerson 5 = .ok (.aload_n 0, 1) := by decide +kernel
theorem dX7_hasPerson_6 : decode cX7_hasPerson 6 = .ok (.getfield 33, 3) := by decide +kernel
theorem dX7_hasPerson_9 : decode cX7_hasPerson 9 = .ok (.if_icmp .ge 7, 3) := by decide +kernel
theorem dX7_hasPerson_12 : decode cX7_hasPerson 12 = .ok (.iconst 1, 1) := by decide +kernel
theorem dX7_hasPerson_13 : decode cX7_hasPerson 13 = .ok (.goto 4, 3) := by decide +kernel
theorem dX7_hasPerson_16 : decode cX7_hasPerson 16 = .ok (.iconst 0, 1) := by decide +kernel
theorem dX7_hasPerson_17 : decode cX7_hasPerson 17 = .ok (.ireturn, 1) := by decide +kernel
theorem dX7_hasGate_0 : decode cX7_hasGate 0 = .ok (.iload_n 1, 1) := by decide +kernel
theorem dX7_hasGate_1 : decode cX7_hasGate 1 = .ok (.ifCond .lt 15, 3) := by decide +kernel
theorem dX7_hasGate_4 : decode cX7_hasGate 4 = .ok (.iload_n 1, 1) := by decide +kernel
theorem dX7_hasGate_5 : decode cX7_hasGate 5 = .ok (.aload_n 0, 1) := by decide +kernel
theorem dX7_hasGate_6 : decode cX7_hasGate 6 = .ok (.getfield 37, 3) := by decide +kernel
theorem dX7_hasGate_9 : decode cX7_hasGate 9 = .ok (.if_icmp .ge 7, 3) := by decide +kernel
theorem dX7_hasGate_12 : decode cX7_hasGate 12 = .ok (.iconst 1, 1) := by decide +kernel
theorem dX7_hasGate_13 : decode cX7_hasGate 13 = .ok (.goto 4, 3) := by decide +kernel
theorem dX7_hasGate_16 : decode cX7_hasGate 16 = .ok (.iconst 0, 1) := by decide +kernel
theorem dX7_hasGate_17 : decode cX7_hasGate 17 = .ok (.ireturn, 1) := by decide +kernel
theorem dX7_everyone_0 : decode cX7_everyone 0 = .ok (.iconst 1, 1) := by decide +kernel
theorem dX7_everyone_1 : decode cX7_everyone 1 = .ok (.aload_n 0, 1) := by decide +kernel
theorem dX7_everyone_2 : decode cX7_everyone 2 = .ok (.getfield 33, 3) := by decide +kernel
theorem dX7_everyone_5 : decode cX7_everyone 5 = .ok (.ishl, 1) := by decide +kernel
theorem dX7_everyone_6 : decode cX7_everyone 6 = .ok (.iconst 1, 1) := by decide +kernel
theorem dX7_everyone_7 : decode cX7_everyone 7 = .ok (.isub, 1) := by decide +kernel
theorem dX7_everyone_8 : decode cX7_everyone 8 = .ok (.ireturn, 1) := by decide +kernel
theorem dX7_hasSet_0 : decode cX7_hasSet 0 = .ok (.iload_n 1, 1) := by decide +kernel
theorem dX7_hasSet_1 : decode cX7_hasSet 1 = .ok (.ifCond .lt 15, 3) := by decide +kernel
theorem dX7_hasSet_4 : decode cX7_hasSet 4 = .ok (.iload_n 1, 1) := by decide +kernel
theorem dX7_hasSet_5 : decode cX7_hasSet 5 = .ok (.aload_n 0, 1) := by decide +kernel
theorem dX7_hasSet_6 : decode cX7_hasSet 6 = .ok (.invokevirtual 40, 3) := by decide +kernel
theorem dX7_hasSet_9 : decode cX7_hasSet 9 = .ok (.if_icmp .gt 7, 3) := by decide +kernel
theorem dX7_hasSet_12 : decode cX7_hasSet 12 = .ok (.iconst 1, 1) := by decide +kernel
theorem dX7_hasSet_13 : decode cX7_hasSet 13 = .ok (.goto 4, 3) := by decide +kernel
theorem dX7_hasSet_16 : decode cX7_hasSet 16 = .ok (.iconst 0, 1) := by decide +kernel
theorem dX7_hasSet_17 : decode cX7_hasSet 17 = .ok (.ireturn, 1) := by decide +kernel
theorem dX7_hasCompany_0 : decode cX7_hasCompany 0 = .ok (.iload_n 1, 1) := by decide +kernel
theorem dX7_hasCompany_1 : decode cX7_hasCompany 1 = .ok (.ifCond .eq 15, 3) := by decide +kernel
theorem dX7_hasCompany_4 : decode cX7_hasCompany 4 = .ok (.aload_n 0, 1) := by decide +kernel
theorem dX7_hasCompany_5 : decode cX7_hasCompany 5 = .ok (.iload_n 1, 1) := by decide +kernel
theorem dX7_hasCompany_6 : decode cX7_hasCompany 6 = .ok (.invokevirtual 44, 3) := by decide +kernel
theorem dX7_hasCompany_9 : decode cX7_hasCompany 9 = .ok (.ifCond .eq 7, 3) := by decide +kernel
theorem dX7_hasCompany_12 : decode cX7_hasCompany 12 = .ok (.iconst 1, 1) := by decide +kernel
theorem dX7_hasCompany_13 : decode cX7_hasCompany 13 = .ok (.goto 4, 3) := by decide +kernel
theorem dX7_hasCompany_16 : decode cX7_hasCompany 16 = .ok (.iconst 0, 1) := by decide +kernel
theorem dX7_hasCompany_17 : decode cX7_hasCompany 17 = .ok (.ireturn, 1) := by decide +kernel
theorem dX7_empty_0 : decode cX7_empty 0 = .ok (.aload_n 0, 1) := by decide +kernel
theorem dX7_empty_1 : decode cX7_empty 1 = .ok (.iconst 0, 1) := by decide +kernel
theorem dX7_empty_2 : decode cX7_empty 2 = .ok (.putfield 33, 3) := by decide +kernel
theorem dX7_empty_5 : decode cX7_empty 5 = .ok (.aload_n 0, 1) := by decide +kernel
theorem dX7_empty_6 : decode cX7_empty 6 = .ok (.iconst 0, 1) := by decide +kernel
theorem dX7_empty_7 : decode cX7_empty 7 = .ok (.putfield 37, 3) := by decide +kernel
theorem dX7_empty_10 : decode cX7_empty 10 = .ok (.return_, 1) := by decide +kernel
theorem dX7_addPerson_0 : decode cX7_addPerson 0 = .ok (.aload_n 0, 1) := by decide +kernel
theorem dX7_addPerson_1 : decode cX7_addPerson 1 = .ok (.getfield 33, 3) := by decide +kernel
theorem dX7_addPerson_4 : decode cX7_addPerson 4 = .ok (.bipush 8, 2) := by decide +kernel
theorem dX7_addPerson_6 : decode cX7_addPerson 6 = .ok (.if_icmp .lt 6, 3) := by decide +kernel
theorem dX7_addPerson_9 : decode cX7_addPerson 9 = .ok (.bipush (-4), 2) := by decide +kernel
theorem dX7_addPerson_11 : decode cX7_addPerson 11 = .ok (.ireturn, 1) := by decide +kernel
theorem dX7_addPerson_12 : decode cX7_addPerson 12 = .ok (.aload_n 0, 1) := by decide +kernel
theorem dX7_addPerson_13 : decode cX7_addPerson 13 = .ok (.getfield 11, 3) := by decide +kernel
theorem dX7_addPerson_16 : decode cX7_addPerson 16 = .ok (.aload_n 0, 1) := by decide +kernel
theorem dX7_addPerson_17 : decode cX7_addPerson 17 = .ok (.getfield 33, 3) := by decide +kernel
theorem dX7_addPerson_20 : decode cX7_addPerson 20 = .ok (.iload_n 1, 1) := by decide +kernel
theorem dX7_addPerson_21 : decode cX7_addPerson 21 = .ok (.iastore, 1) := by decide +kernel
theorem dX7_addPerson_22 : decode cX7_addPerson 22 = .ok (.aload_n 0, 1) := by decide +kernel
theorem dX7_addPerson_23 : decode cX7_addPerson 23 = .ok (.getfield 15, 3) := by decide +kernel
theorem dX7_addPerson_26 : decode cX7_addPerson 26 = .ok (.aload_n 0, 1) := by decide +kernel
theorem dX7_addPerson_27 : decode cX7_addPerson 27 = .ok (.getfield 33, 3) := by decide +kernel
theorem dX7_addPerson_30 : decode cX7_addPerson 30 = .ok (.iload_n 1, 1) := by decide +kernel
theorem dX7_addPerson_31 : decode cX7_addPerson 31 = .ok (.invokestatic 48, 3) := by decide +kernel
theorem dX7_addPerson_34 : decode cX7_addPerson 34 = .ok (.iastore, 1) := by decide +kernel
theorem dX7_addPerson_35 : decode cX7_addPerson 35 = .ok (.aload_n 0, 1) := by decide +kernel
theorem dX7_addPerson_36 : decode cX7_addPerson 36 = .ok (.getfield 18, 3) := by decide +kernel
theorem dX7_addPerson_39 : decode cX7_addPerson 39 = .ok (.aload_n 0, 1) := by decide +kernel
theorem dX7_addPerson_40 : decode cX7_addPerson 40 = .ok (.getfield 33, 3) := by decide +kernel
theorem dX7_addPerson_43 : decode cX7_addPerson 43 = .ok (.iload_n 1, 1) := by decide +kernel
theorem dX7_addPerson_44 : decode cX7_addPerson 44 = .ok (.aload_n 0, 1) := by decide +kernel
theorem dX7_addPerson_45 : decode cX7_addPerson 45 = .ok (.getfield 15, 3) := by decide +kernel
theorem dX7_addPerson_48 : decode cX7_addPerson 48 = .ok (.aload_n 0, 1) := by decide +kernel
theorem dX7_addPerson_49 : decode cX7_addPerson 49 = .ok (.getfield 33, 3) := by decide +kernel
theorem dX7_addPerson_52 : decode cX7_addPerson 52 = .ok (.iaload, 1) := by decide +kernel
theorem dX7_addPerson_53 : decode cX7_addPerson 53 = .ok (.invokestatic 54, 3) := by decide +kernel
theorem dX7_addPerson_56 : decode cX7_addPerson 56 = .ok (.iastore, 1) := by decide +kernel
theorem dX7_addPerson_57 : decode cX7_addPerson 57 = .ok (.aload_n 0, 1) := by decide +kernel
theorem dX7_addPerson_58 : decode cX7_addPerson 58 = .ok (.getfield 21, 3) := by decide +kernel
theorem dX7_addPerson_61 : decode cX7_addPerson 61 = .ok (.aload_n 0, 1) := by decide +kernel
theorem dX7_addPerson_62 : decode cX7_addPerson 62 = .ok (.getfield 33, 3) := by decide +kernel
theorem dX7_addPerson_65 : decode cX7_addPerson 65 = .ok (.iconst 0, 1) := by decide +kernel
theorem dX7_addPerson_66 : decode cX7_addPerson 66 = .ok (.iastore, 1) := by decide +kernel
theorem dX7_addPerson_67 : decode cX7_addPerson 67 = .ok (.aload_n 0, 1) := by decide +kernel
theorem dX7_addPerson_68 : decode cX7_addPerson 68 = .ok (.getfield 24, 3) := by decide +kernel
theorem dX7_addPerson_71 : decode cX7_addPerson 71 = .ok (.aload_n 0, 1) := by decide +kernel
theorem dX7_addPerson_72 : decode cX7_addPerson 72 = .ok (.getfield 33, 3) := by decide +kernel
theorem dX7_addPerson_75 : decode cX7_addPerson 75 = .ok (.iconst 0, 1) := by decide +kernel
theorem dX7_addPerson_76 : decode cX7_addPerson 76 = .ok (.iastore, 1) := by decide +kernel
theorem dX7_addPerson_77 : decode cX7_addPerson 77 = .ok (.aload_n 0, 1) := by decide +kernel
theorem dX7_addPerson_78 : decode cX7_addPerson 78 = .ok (.dup, 1) := by decide +kernel
theorem dX7_addPerson_79 : decode cX7_addPerson 79 = .ok (.getfield 33, 3) := by decide +kernel
theorem dX7_addPerson_82 : decode cX7_addPerson 82 = .ok (.dup_x1, 1) := by decide +kernel
theorem dX7_addPerson_83 : decode cX7_addPerson 83 = .ok (.iconst 1, 1) := by decide +kernel
theorem dX7_addPerson_84 : decode cX7_addPerson 84 = .ok (.iadd, 1) := by decide +kernel
theorem dX7_addPerson_85 : decode cX7_addPerson 85 = .ok (.putfield 33, 3) := by decide +kernel
theorem dX7_addPerson_88 : decode cX7_addPerson 88 = .ok (.ireturn, 1) := by decide +kernel
theorem dX7_addGate_0 : decode cX7_addGate 0 = .ok (.aload_n 0, 1) := by decide +kernel
theorem dX7_addGate_1 : decode cX7_addGate 1 = .ok (.getfield 37, 3) := by decide +kernel
theorem dX7_addGate_4 : decode cX7_addGate 4 = .ok (.iconst 4, 1) := by decide +kernel
theorem dX7_addGate_5 : decode cX7_addGate 5 = .ok (.if_icmp .lt 6, 3) := by decide +kernel
theorem dX7_addGate_8 : decode cX7_addGate 8 = .ok (.bipush (-4), 2) := by decide +kernel
theorem dX7_addGate_10 : decode cX7_addGate 10 = .ok (.ireturn, 1) := by decide +kernel
theorem dX7_addGate_11 : decode cX7_addGate 11 = .ok (.aload_n 0, 1) := by decide +kernel
theorem dX7_addGate_12 : decode cX7_addGate 12 = .ok (.getfield 27, 3) := by decide +kernel
theorem dX7_addGate_15 : decode cX7_addGate 15 = .ok (.aload_n 0, 1) := by decide +kernel
theorem dX7_addGate_16 : decode cX7_addGate 16 = .ok (.getfield 37, 3) := by decide +kernel
theorem dX7_addGate_19 : decode cX7_addGate 19 = .ok (.iload_n 1, 1) := by decide +kernel
theorem dX7_addGate_20 : decode cX7_addGate 20 = .ok (.iastore, 1) := by decide +kernel
theorem dX7_addGate_21 : decode cX7_addGate 21 = .ok (.aload_n 0, 1) := by decide +kernel
theorem dX7_addGate_22 : decode cX7_addGate 22 = .ok (.getfield 30, 3) := by decide +kernel
theorem dX7_addGate_25 : decode cX7_addGate 25 = .ok (.aload_n 0, 1) := by decide +kernel
theorem dX7_addGate_26 : decode cX7_addGate 26 = .ok (.getfield 37, 3) := by decide +kernel
theorem dX7_addGate_29 : decode cX7_addGate 29 = .ok (.iload_n 2, 1) := by decide +kernel
theorem dX7_addGate_30 : decode cX7_addGate 30 = .ok (.iastore, 1) := by decide +kernel
theorem dX7_addGate_31 : decode cX7_addGate 31 = .ok (.aload_n 0, 1) := by decide +kernel
theorem dX7_addGate_32 : decode cX7_addGate 32 = .ok (.dup, 1) := by decide +kernel
theorem dX7_addGate_33 : decode cX7_addGate 33 = .ok (.getfield 37, 3) := by decide +kernel
theorem dX7_addGate_36 : decode cX7_addGate 36 = .ok (.dup_x1, 1) := by decide +kernel
theorem dX7_addGate_37 : decode cX7_addGate 37 = .ok (.iconst 1, 1) := by decide +kernel
theorem dX7_addGate_38 : decode cX7_addGate 38 = .ok (.iadd, 1) := by decide +kernel
theorem dX7_addGate_39 : decode cX7_addGate 39 = .ok (.putfield 37, 3) := by decide +kernel
theorem dX7_addGate_42 : decode cX7_addGate 42 = .ok (.ireturn, 1) := by decide +kernel
theorem dX7_tie_0 : decode cX7_tie 0 = .ok (.aload_n 0, 1) := by decide +kernel
theorem dX7_tie_1 : decode cX7_tie 1 = .ok (.iload_n 1, 1) := by decide +kernel
theorem dX7_tie_2 : decode cX7_tie 2 = .ok (.iaload, 1) := by decide +kernel
theorem dX7_tie_3 : decode cX7_tie 3 = .ok (.iload_n 2, 1) := by decide +kernel
theorem dX7_tie_4 : decode cX7_tie 4 = .ok (.ishr, 1) := by decide +kernel
theorem dX7_tie_5 : decode cX7_tie 5 = .ok (.iconst 1, 1) := by decide +kernel
theorem dX7_tie_6 : decode cX7_tie 6 = .ok (.iand, 1) := by decide +kernel
theorem dX7_tie_7 : decode cX7_tie 7 = .ok (.ifCond .eq 5, 3) := by decide +kernel
end
section
theorem dX7_tie_10 : decode cX7_tie 10 = .ok (.iconst 0, 1) := by decide +kernel
theorem dX7_tie_11 : decode cX7_tie 11 = .ok (.ireturn, 1) := by decide +kernel
theorem dX7_tie_12 : decode cX7_tie 12 = .ok (.aload_n 0, 1) := by decide +kernel
theorem dX7_tie_13 : decode cX7_tie 13 = .ok (.iload_n 1, 1) := by decide +kernel
theorem dX7_tie_14 : decode cX7_tie 14 = .ok (.dup2, 1) := by decide +kernel
theorem dX7_tie_15 : decode cX7_tie 15 = .ok (.iaload, 1) := by decide +kernel
theorem dX7_tie_16 : decode cX7_tie 16 = .ok (.iconst 1, 1) := by decide +kernel
theorem dX7_tie_17 : decode cX7_tie 17 = .ok (.iload_n 2, 1) := by decide +kernel
theorem dX7_tie_18 : decode cX7_tie 18 = .ok (.ishl, 1) := by decide +kernel
theorem dX7_tie_19 : decode cX7_tie 19 = .ok (.ior, 1) := by decide +kernel
theorem dX7_tie_20 : decode cX7_tie 20 = .ok (.iastore, 1) := by decide +kernel
theorem dX7_tie_21 : decode cX7_tie 21 = .ok (.aload_n 0, 1) := by decide +kernel
theorem dX7_tie_22 : decode cX7_tie 22 = .ok (.iload_n 2, 1) := by decide +kernel
theorem dX7_tie_23 : decode cX7_tie 23 = .ok (.dup2, 1) := by decide +kernel
theorem dX7_tie_24 : decode cX7_tie 24 = .ok (.iaload, 1) := by decide +kernel
theorem dX7_tie_25 : decode cX7_tie 25 = .ok (.iconst 1, 1) := by decide +kernel
theorem dX7_tie_26 : decode cX7_tie 26 = .ok (.iload_n 1, 1) := by decide +kernel
theorem dX7_tie_27 : decode cX7_tie 27 = .ok (.ishl, 1) := by decide +kernel
theorem dX7_tie_28 : decode cX7_tie 28 = .ok (.ior, 1) := by decide +kernel
theorem dX7_tie_29 : decode cX7_tie 29 = .ok (.iastore, 1) := by decide +kernel
theorem dX7_tie_30 : decode cX7_tie 30 = .ok (.iconst 1, 1) := by decide +kernel
theorem dX7_tie_31 : decode cX7_tie 31 = .ok (.ireturn, 1) := by decide +kernel
theorem dX7_yearsOf_0 : decode cX7_yearsOf 0 = .ok (.iload_n 2, 1) := by decide +kernel
theorem dX7_yearsOf_1 : decode cX7_yearsOf 1 = .ok (.aload_n 0, 1) := by decide +kernel
theorem dX7_yearsOf_2 : decode cX7_yearsOf 2 = .ok (.getfield 11, 3) := by decide +kernel
theorem dX7_yearsOf_5 : decode cX7_yearsOf 5 = .ok (.iload_n 1, 1) := by decide +kernel
theorem dX7_yearsOf_6 : decode cX7_yearsOf 6 = .ok (.iaload, 1) := by decide +kernel
theorem dX7_yearsOf_7 : decode cX7_yearsOf 7 = .ok (.if_icmp .ge 5, 3) := by decide +kernel
theorem dX7_yearsOf_10 : decode cX7_yearsOf 10 = .ok (.iconst (-1), 1) := by decide +kernel
theorem dX7_yearsOf_11 : decode cX7_yearsOf 11 = .ok (.ireturn, 1) := by decide +kernel
theorem dX7_yearsOf_12 : decode cX7_yearsOf 12 = .ok (.iload_n 3, 1) := by decide +kernel
theorem dX7_yearsOf_13 : decode cX7_yearsOf 13 = .ok (.aload_n 0, 1) := by decide +kernel
theorem dX7_yearsOf_14 : decode cX7_yearsOf 14 = .ok (.getfield 15, 3) := by decide +kernel
theorem dX7_yearsOf_17 : decode cX7_yearsOf 17 = .ok (.iload_n 1, 1) := by decide +kernel
theorem dX7_yearsOf_18 : decode cX7_yearsOf 18 = .ok (.iaload, 1) := by decide +kernel
theorem dX7_yearsOf_19 : decode cX7_yearsOf 19 = .ok (.isub, 1) := by decide +kernel
theorem dX7_yearsOf_20 : decode cX7_yearsOf 20 = .ok (.istore 4, 2) := by decide +kernel
theorem dX7_yearsOf_22 : decode cX7_yearsOf 22 = .ok (.iload_n 2, 1) := by decide +kernel
theorem dX7_yearsOf_23 : decode cX7_yearsOf 23 = .ok (.iload_n 3, 1) := by decide +kernel
theorem dX7_yearsOf_24 : decode cX7_yearsOf 24 = .ok (.aload_n 0, 1) := by decide +kernel
theorem dX7_yearsOf_25 : decode cX7_yearsOf 25 = .ok (.getfield 18, 3) := by decide +kernel
theorem dX7_yearsOf_28 : decode cX7_yearsOf 28 = .ok (.iload_n 1, 1) := by decide +kernel
theorem dX7_yearsOf_29 : decode cX7_yearsOf 29 = .ok (.iaload, 1) := by decide +kernel
theorem dX7_yearsOf_30 : decode cX7_yearsOf 30 = .ok (.invokestatic 58, 3) := by decide +kernel
theorem dX7_yearsOf_33 : decode cX7_yearsOf 33 = .ok (.if_icmp .ge 10, 3) := by decide +kernel
theorem dX7_yearsOf_36 : decode cX7_yearsOf 36 = .ok (.iload 4, 2) := by decide +kernel
theorem dX7_yearsOf_38 : decode cX7_yearsOf 38 = .ok (.iconst 1, 1) := by decide +kernel
theorem dX7_yearsOf_39 : decode cX7_yearsOf 39 = .ok (.isub, 1) := by decide +kernel
theorem dX7_yearsOf_40 : decode cX7_yearsOf 40 = .ok (.goto 5, 3) := by decide +kernel
theorem dX7_yearsOf_43 : decode cX7_yearsOf 43 = .ok (.iload 4, 2) := by decide +kernel
theorem dX7_yearsOf_45 : decode cX7_yearsOf 45 = .ok (.ireturn, 1) := by decide +kernel
theorem dX7_birthdayBehind_0 : decode cX7_birthdayBehind 0 = .ok (.iload_n 2, 1) := by decide +kernel
theorem dX7_birthdayBehind_1 : decode cX7_birthdayBehind 1 = .ok (.aload_n 0, 1) := by decide +kernel
theorem dX7_birthdayBehind_2 : decode cX7_birthdayBehind 2 = .ok (.getfield 11, 3) := by decide +kernel
theorem dX7_birthdayBehind_5 : decode cX7_birthdayBehind 5 = .ok (.iload_n 1, 1) := by decide +kernel
theorem dX7_birthdayBehind_6 : decode cX7_birthdayBehind 6 = .ok (.iaload, 1) := by decide +kernel
theorem dX7_birthdayBehind_7 : decode cX7_birthdayBehind 7 = .ok (.if_icmp .ge 10, 3) := by decide +kernel
theorem dX7_birthdayBehind_10 : decode cX7_birthdayBehind 10 = .ok (.aload_n 0, 1) := by decide +kernel
theorem dX7_birthdayBehind_11 : decode cX7_birthdayBehind 11 = .ok (.getfield 11, 3) := by decide +kernel
theorem dX7_birthdayBehind_14 : decode cX7_birthdayBehind 14 = .ok (.iload_n 1, 1) := by decide +kernel
theorem dX7_birthdayBehind_15 : decode cX7_birthdayBehind 15 = .ok (.iaload, 1) := by decide +kernel
theorem dX7_birthdayBehind_16 : decode cX7_birthdayBehind 16 = .ok (.ireturn, 1) := by decide +kernel
theorem dX7_birthdayBehind_17 : decode cX7_birthdayBehind 17 = .ok (.iload_n 3, 1) := by decide +kernel
theorem dX7_birthdayBehind_18 : decode cX7_birthdayBehind 18 = .ok (.aload_n 0, 1) := by decide +kernel
theorem dX7_birthdayBehind_19 : decode cX7_birthdayBehind 19 = .ok (.getfield 18, 3) := by decide +kernel
theorem dX7_birthdayBehind_22 : decode cX7_birthdayBehind 22 = .ok (.iload_n 1, 1) := by decide +kernel
theorem dX7_birthdayBehind_23 : decode cX7_birthdayBehind 23 = .ok (.iaload, 1) := by decide +kernel
theorem dX7_birthdayBehind_24 : decode cX7_birthdayBehind 24 = .ok (.invokestatic 58, 3) := by decide +kernel
theorem dX7_birthdayBehind_27 : decode cX7_birthdayBehind 27 = .ok (.istore 4, 2) := by decide +kernel
theorem dX7_birthdayBehind_29 : decode cX7_birthdayBehind 29 = .ok (.iload 4, 2) := by decide +kernel
theorem dX7_birthdayBehind_31 : decode cX7_birthdayBehind 31 = .ok (.iload_n 2, 1) := by decide +kernel
theorem dX7_birthdayBehind_32 : decode cX7_birthdayBehind 32 = .ok (.if_icmp .le 8, 3) := by decide +kernel
theorem dX7_birthdayBehind_35 : decode cX7_birthdayBehind 35 = .ok (.iload 4, 2) := by decide +kernel
theorem dX7_birthdayBehind_37 : decode cX7_birthdayBehind 37 = .ok (.goto 15, 3) := by decide +kernel
theorem dX7_birthdayBehind_40 : decode cX7_birthdayBehind 40 = .ok (.iload_n 3, 1) := by decide +kernel
theorem dX7_birthdayBehind_41 : decode cX7_birthdayBehind 41 = .ok (.iconst 1, 1) := by decide +kernel
theorem dX7_birthdayBehind_42 : decode cX7_birthdayBehind 42 = .ok (.iadd, 1) := by decide +kernel
theorem dX7_birthdayBehind_43 : decode cX7_birthdayBehind 43 = .ok (.aload_n 0, 1) := by decide +kernel
theorem dX7_birthdayBehind_44 : decode cX7_birthdayBehind 44 = .ok (.getfield 18, 3) := by decide +kernel
theorem dX7_birthdayBehind_47 : decode cX7_birthdayBehind 47 = .ok (.iload_n 1, 1) := by decide +kernel
theorem dX7_birthdayBehind_48 : decode cX7_birthdayBehind 48 = .ok (.iaload, 1) := by decide +kernel
theorem dX7_birthdayBehind_49 : decode cX7_birthdayBehind 49 = .ok (.invokestatic 58, 3) := by decide +kernel
theorem dX7_birthdayBehind_52 : decode cX7_birthdayBehind 52 = .ok (.ireturn, 1) := by decide +kernel
theorem dX7_copyFrom_0 : decode cX7_copyFrom 0 = .ok (.aload_n 0, 1) := by decide +kernel
theorem dX7_copyFrom_1 : decode cX7_copyFrom 1 = .ok (.aload_n 1, 1) := by decide +kernel
theorem dX7_copyFrom_2 : decode cX7_copyFrom 2 = .ok (.getfield 33, 3) := by decide +kernel
theorem dX7_copyFrom_5 : decode cX7_copyFrom 5 = .ok (.putfield 33, 3) := by decide +kernel
theorem dX7_copyFrom_8 : decode cX7_copyFrom 8 = .ok (.aload_n 0, 1) := by decide +kernel
theorem dX7_copyFrom_9 : decode cX7_copyFrom 9 = .ok (.aload_n 1, 1) := by decide +kernel
theorem dX7_copyFrom_10 : decode cX7_copyFrom 10 = .ok (.getfield 37, 3) := by decide +kernel
theorem dX7_copyFrom_13 : decode cX7_copyFrom 13 = .ok (.putfield 37, 3) := by decide +kernel
theorem dX7_copyFrom_16 : decode cX7_copyFrom 16 = .ok (.aload_n 1, 1) := by decide +kernel
theorem dX7_copyFrom_17 : decode cX7_copyFrom 17 = .ok (.getfield 11, 3) := by decide +kernel
theorem dX7_copyFrom_20 : decode cX7_copyFrom 20 = .ok (.iconst 0, 1) := by decide +kernel
theorem dX7_copyFrom_21 : decode cX7_copyFrom 21 = .ok (.aload_n 0, 1) := by decide +kernel
theorem dX7_copyFrom_22 : decode cX7_copyFrom 22 = .ok (.getfield 11, 3) := by decide +kernel
theorem dX7_copyFrom_25 : decode cX7_copyFrom 25 = .ok (.iconst 0, 1) := by decide +kernel
theorem dX7_copyFrom_26 : decode cX7_copyFrom 26 = .ok (.bipush 8, 2) := by decide +kernel
theorem dX7_copyFrom_28 : decode cX7_copyFrom 28 = .ok (.invokestatic 61, 3) := by decide +kernel
theorem dX7_copyFrom_31 : decode cX7_copyFrom 31 = .ok (.aload_n 1, 1) := by decide +kernel
theorem dX7_copyFrom_32 : decode cX7_copyFrom 32 = .ok (.getfield 15, 3) := by decide +kernel
theorem dX7_copyFrom_35 : decode cX7_copyFrom 35 = .ok (.iconst 0, 1) := by decide +kernel
theorem dX7_copyFrom_36 : decode cX7_copyFrom 36 = .ok (.aload_n 0, 1) := by decide +kernel
theorem dX7_copyFrom_37 : decode cX7_copyFrom 37 = .ok (.getfield 15, 3) := by decide +kernel
theorem dX7_copyFrom_40 : decode cX7_copyFrom 40 = .ok (.iconst 0, 1) := by decide +kernel
theorem dX7_copyFrom_41 : decode cX7_copyFrom 41 = .ok (.bipush 8, 2) := by decide +kernel
theorem dX7_copyFrom_43 : decode cX7_copyFrom 43 = .ok (.invokestatic 61, 3) := by decide +kernel
theorem dX7_copyFrom_46 : decode cX7_copyFrom 46 = .ok (.aload_n 1, 1) := by decide +kernel
theorem dX7_copyFrom_47 : decode cX7_copyFrom 47 = .ok (.getfield 18, 3) := by decide +kernel
theorem dX7_copyFrom_50 : decode cX7_copyFrom 50 = .ok (.iconst 0, 1) := by decide +kernel
theorem dX7_copyFrom_51 : decode cX7_copyFrom 51 = .ok (.aload_n 0, 1) := by decide +kernel
theorem dX7_copyFrom_52 : decode cX7_copyFrom 52 = .ok (.getfield 18, 3) := by decide +kernel
theorem dX7_copyFrom_55 : decode cX7_copyFrom 55 = .ok (.iconst 0, 1) := by decide +kernel
theorem dX7_copyFrom_56 : decode cX7_copyFrom 56 = .ok (.bipush 8, 2) := by decide +kernel
theorem dX7_copyFrom_58 : decode cX7_copyFrom 58 = .ok (.invokestatic 61, 3) := by decide +kernel
theorem dX7_copyFrom_61 : decode cX7_copyFrom 61 = .ok (.aload_n 1, 1) := by decide +kernel
theorem dX7_copyFrom_62 : decode cX7_copyFrom 62 = .ok (.getfield 21, 3) := by decide +kernel
theorem dX7_copyFrom_65 : decode cX7_copyFrom 65 = .ok (.iconst 0, 1) := by decide +kernel
theorem dX7_copyFrom_66 : decode cX7_copyFrom 66 = .ok (.aload_n 0, 1) := by decide +kernel
theorem dX7_copyFrom_67 : decode cX7_copyFrom 67 = .ok (.getfield 21, 3) := by decide +kernel
theorem dX7_copyFrom_70 : decode cX7_copyFrom 70 = .ok (.iconst 0, 1) := by decide +kernel
theorem dX7_copyFrom_71 : decode cX7_copyFrom 71 = .ok (.bipush 8, 2) := by decide +kernel
theorem dX7_copyFrom_73 : decode cX7_copyFrom 73 = .ok (.invokestatic 61, 3) := by decide +kernel
theorem dX7_copyFrom_76 : decode cX7_copyFrom 76 = .ok (.aload_n 1, 1) := by decide +kernel
theorem dX7_copyFrom_77 : decode cX7_copyFrom 77 = .ok (.getfield 24, 3) := by decide +kernel
theorem dX7_copyFrom_80 : decode cX7_copyFrom 80 = .ok (.iconst 0, 1) := by decide +kernel
theorem dX7_copyFrom_81 : decode cX7_copyFrom 81 = .ok (.aload_n 0, 1) := by decide +kernel
theorem dX7_copyFrom_82 : decode cX7_copyFrom 82 = .ok (.getfield 24, 3) := by decide +kernel
theorem dX7_copyFrom_85 : decode cX7_copyFrom 85 = .ok (.iconst 0, 1) := by decide +kernel
theorem dX7_copyFrom_86 : decode cX7_copyFrom 86 = .ok (.bipush 8, 2) := by decide +kernel
theorem dX7_copyFrom_88 : decode cX7_copyFrom 88 = .ok (.invokestatic 61, 3) := by decide +kernel
theorem dX7_copyFrom_91 : decode cX7_copyFrom 91 = .ok (.aload_n 1, 1) := by decide +kernel
theorem dX7_copyFrom_92 : decode cX7_copyFrom 92 = .ok (.getfield 27, 3) := by decide +kernel
theorem dX7_copyFrom_95 : decode cX7_copyFrom 95 = .ok (.iconst 0, 1) := by decide +kernel
theorem dX7_copyFrom_96 : decode cX7_copyFrom 96 = .ok (.aload_n 0, 1) := by decide +kernel
theorem dX7_copyFrom_97 : decode cX7_copyFrom 97 = .ok (.getfield 27, 3) := by decide +kernel
theorem dX7_copyFrom_100 : decode cX7_copyFrom 100 = .ok (.iconst 0, 1) := by decide +kernel
theorem dX7_copyFrom_101 : decode cX7_copyFrom 101 = .ok (.iconst 4, 1) := by decide +kernel
theorem dX7_copyFrom_102 : decode cX7_copyFrom 102 = .ok (.invokestatic 61, 3) := by decide +kernel
theorem dX7_copyFrom_105 : decode cX7_copyFrom 105 = .ok (.aload_n 1, 1) := by decide +kernel
theorem dX7_copyFrom_106 : decode cX7_copyFrom 106 = .ok (.getfield 30, 3) := by decide +kernel
theorem dX7_copyFrom_109 : decode cX7_copyFrom 109 = .ok (.iconst 0, 1) := by decide +kernel
theorem dX7_copyFrom_110 : decode cX7_copyFrom 110 = .ok (.aload_n 0, 1) := by decide +kernel
theorem dX7_copyFrom_111 : decode cX7_copyFrom 111 = .ok (.getfield 30, 3) := by decide +kernel
theorem dX7_copyFrom_114 : decode cX7_copyFrom 114 = .ok (.iconst 0, 1) := by decide +kernel
theorem dX7_copyFrom_115 : decode cX7_copyFrom 115 = .ok (.iconst 4, 1) := by decide +kernel
theorem dX7_copyFrom_116 : decode cX7_copyFrom 116 = .ok (.invokestatic 61, 3) := by decide +kernel
theorem dX7_copyFrom_119 : decode cX7_copyFrom 119 = .ok (.return_, 1) := by decide +kernel
theorem dX8_init_0 : decode cX8_init 0 = .ok (.aload_n 0, 1) := by decide +kernel
theorem dX8_init_1 : decode cX8_init 1 = .ok (.invokespecial 1, 3) := by decide +kernel
theorem dX8_init_4 : decode cX8_init 4 = .ok (.aload_n 0, 1) := by decide +kernel
theorem dX8_init_5 : decode cX8_init 5 = .ok (.new 7, 3) := by decide +kernel
theorem dX8_init_8 : decode cX8_init 8 = .ok (.dup, 1) := by decide +kernel
theorem dX8_init_9 : decode cX8_init 9 = .ok (.invokespecial 9, 3) := by decide +kernel
theorem dX8_init_12 : decode cX8_init 12 = .ok (.putfield 10, 3) := by decide +kernel
theorem dX8_init_15 : decode cX8_init 15 = .ok (.aload_n 0, 1) := by decide +kernel
theorem dX8_init_16 : decode cX8_init 16 = .ok (.new 16, 3) := by decide +kernel
theorem dX8_init_19 : decode cX8_init 19 = .ok (.dup, 1) := by decide +kernel
theorem dX8_init_20 : decode cX8_init 20 = .ok (.invokespecial 18, 3) := by decide +kernel
theorem dX8_init_23 : decode cX8_init 23 = .ok (.putfield 19, 3) := by decide +kernel
theorem dX8_init_26 : decode cX8_init 26 = .ok (.aload_n 0, 1) := by decide +kernel
theorem dX8_init_27 : decode cX8_init 27 = .ok (.bipush 10, 2) := by decide +kernel
theorem dX8_init_29 : decode cX8_init 29 = .ok (.newarray .int, 2) := by decide +kernel
theorem dX8_init_31 : decode cX8_init 31 = .ok (.putfield 25, 3) := by decide +kernel
theorem dX8_init_34 : decode cX8_init 34 = .ok (.aload_n 0, 1) := by decide +kernel
theorem dX8_init_35 : decode cX8_init 35 = .ok (.new 29, 3) := by decide +kernel
theorem dX8_init_38 : decode cX8_init 38 = .ok (.dup, 1) := by decide +kernel
theorem dX8_init_39 : decode cX8_init 39 = .ok (.invokespecial 31, 3) := by decide +kernel
theorem dX8_init_42 : decode cX8_init 42 = .ok (.putfield 32, 3) := by decide +kernel
theorem dX8_init_45 : decode cX8_init 45 = .ok (.return_, 1) := by decide +kernel
theorem dX8_copyFrom_0 : decode cX8_copyFrom 0 = .ok (.aload_n 0, 1) := by decide +kernel
theorem dX8_copyFrom_1 : decode cX8_copyFrom 1 = .ok (.getfield 10, 3) := by decide +kernel
theorem dX8_copyFrom_4 : decode cX8_copyFrom 4 = .ok (.aload_n 1, 1) := by decide +kernel
theorem dX8_copyFrom_5 : decode cX8_copyFrom 5 = .ok (.getfield 10, 3) := by decide +kernel
theorem dX8_copyFrom_8 : decode cX8_copyFrom 8 = .ok (.invokevirtual 36, 3) := by decide +kernel
theorem dX8_copyFrom_11 : decode cX8_copyFrom 11 = .ok (.aload_n 0, 1) := by decide +kernel
theorem dX8_copyFrom_12 : decode cX8_copyFrom 12 = .ok (.getfield 19, 3) := by decide +kernel
theorem dX8_copyFrom_15 : decode cX8_copyFrom 15 = .ok (.aload_n 1, 1) := by decide +kernel
theorem dX8_copyFrom_16 : decode cX8_copyFrom 16 = .ok (.getfield 19, 3) := by decide +kernel
theorem dX8_copyFrom_19 : decode cX8_copyFrom 19 = .ok (.invokevirtual 40, 3) := by decide +kernel
theorem dX8_copyFrom_22 : decode cX8_copyFrom 22 = .ok (.aload_n 1, 1) := by decide +kernel
theorem dX8_copyFrom_23 : decode cX8_copyFrom 23 = .ok (.getfield 25, 3) := by decide +kernel
theorem dX8_copyFrom_26 : decode cX8_copyFrom 26 = .ok (.iconst 0, 1) := by decide +kernel
theorem dX8_copyFrom_27 : decode cX8_copyFrom 27 = .ok (.aload_n 0, 1) := by decide +kernel
theorem dX8_copyFrom_28 : decode cX8_copyFrom 28 = .ok (.getfield 25, 3) := by decide +kernel
theorem dX8_copyFrom_31 : decode cX8_copyFrom 31 = .ok (.iconst 0, 1) := by decide +kernel
theorem dX8_copyFrom_32 : decode cX8_copyFrom 32 = .ok (.bipush 10, 2) := by decide +kernel
theorem dX8_copyFrom_34 : decode cX8_copyFrom 34 = .ok (.invokestatic 43, 3) := by decide +kernel
theorem dX8_copyFrom_37 : decode cX8_copyFrom 37 = .ok (.aload_n 0, 1) := by decide +kernel
theorem dX8_copyFrom_38 : decode cX8_copyFrom 38 = .ok (.getfield 32, 3) := by decide +kernel
theorem dX8_copyFrom_41 : decode cX8_copyFrom 41 = .ok (.aload_n 1, 1) := by decide +kernel
theorem dX8_copyFrom_42 : decode cX8_copyFrom 42 = .ok (.getfield 32, 3) := by decide +kernel
theorem dX8_copyFrom_45 : decode cX8_copyFrom 45 = .ok (.invokevirtual 49, 3) := by decide +kernel
theorem dX8_copyFrom_48 : decode cX8_copyFrom 48 = .ok (.return_, 1) := by decide +kernel
theorem dX8_digestFrom_0 : decode cX8_digestFrom 0 = .ok (.ldc2_w 52, 3) := by decide +kernel
theorem dX8_digestFrom_3 : decode cX8_digestFrom 3 = .ok (.ldc2_w 52, 3) := by decide +kernel
theorem dX8_digestFrom_6 : decode cX8_digestFrom 6 = .ok (.lload_n 1, 1) := by decide +kernel
theorem dX8_digestFrom_7 : decode cX8_digestFrom 7 = .ok (.lmul, 1) := by decide +kernel
theorem dX8_digestFrom_8 : decode cX8_digestFrom 8 = .ok (.aload_n 0, 1) := by decide +kernel
theorem dX8_digestFrom_9 : decode cX8_digestFrom 9 = .ok (.getfield 10, 3) := by decide +kernel
theorem dX8_digestFrom_12 : decode cX8_digestFrom 12 = .ok (.getfield 54, 3) := by decide +kernel
theorem dX8_digestFrom_15 : decode cX8_digestFrom 15 = .ok (.i2l, 1) := by decide +kernel
theorem dX8_digestFrom_16 : decode cX8_digestFrom 16 = .ok (.ladd, 1) := by decide +kernel
theorem dX8_digestFrom_17 : decode cX8_digestFrom 17 = .ok (.lmul, 1) := by decide +kernel
theorem dX8_digestFrom_18 : decode cX8_digestFrom 18 = .ok (.aload_n 0, 1) := by decide +kernel
theorem dX8_digestFrom_19 : decode cX8_digestFrom 19 = .ok (.getfield 10, 3) := by decide +kernel
theorem dX8_digestFrom_22 : decode cX8_digestFrom 22 = .ok (.getfield 58, 3) := by decide +kernel
theorem dX8_digestFrom_25 : decode cX8_digestFrom 25 = .ok (.i2l, 1) := by decide +kernel
theorem dX8_digestFrom_26 : decode cX8_digestFrom 26 = .ok (.ladd, 1) := by decide +kernel
theorem dX8_digestFrom_27 : decode cX8_digestFrom 27 = .ok (.lstore_n 3, 1) := by decide +kernel
theorem dX8_digestFrom_28 : decode cX8_digestFrom 28 = .ok (.ldc2_w 52, 3) := by decide +kernel
theorem dX8_digestFrom_31 : decode cX8_digestFrom 31 = .ok (.ldc2_w 52, 3) := by decide +kernel
theorem dX8_digestFrom_34 : decode cX8_digestFrom 34 = .ok (.lload_n 3, 1) := by decide +kernel
theorem dX8_digestFrom_35 : decode cX8_digestFrom 35 = .ok (.lmul, 1) := by decide +kernel
theorem dX8_digestFrom_36 : decode cX8_digestFrom 36 = .ok (.aload_n 0, 1) := by decide +kernel
theorem dX8_digestFrom_37 : decode cX8_digestFrom 37 = .ok (.getfield 19, 3) := by decide +kernel
theorem dX8_digestFrom_40 : decode cX8_digestFrom 40 = .ok (.getfield 61, 3) := by decide +kernel
theorem dX8_digestFrom_43 : decode cX8_digestFrom 43 = .ok (.i2l, 1) := by decide +kernel
theorem dX8_digestFrom_44 : decode cX8_digestFrom 44 = .ok (.ladd, 1) := by decide +kernel
theorem dX8_digestFrom_45 : decode cX8_digestFrom 45 = .ok (.lmul, 1) := by decide +kernel
theorem dX8_digestFrom_46 : decode cX8_digestFrom 46 = .ok (.aload_n 0, 1) := by decide +kernel
theorem dX8_digestFrom_47 : decode cX8_digestFrom 47 = .ok (.getfield 32, 3) := by decide +kernel
theorem dX8_digestFrom_50 : decode cX8_digestFrom 50 = .ok (.getfield 64, 3) := by decide +kernel
theorem dX8_digestFrom_53 : decode cX8_digestFrom 53 = .ok (.i2l, 1) := by decide +kernel
theorem dX8_digestFrom_54 : decode cX8_digestFrom 54 = .ok (.ladd, 1) := by decide +kernel
theorem dX8_digestFrom_55 : decode cX8_digestFrom 55 = .ok (.lstore_n 3, 1) := by decide +kernel
theorem dX8_digestFrom_56 : decode cX8_digestFrom 56 = .ok (.iconst 0, 1) := by decide +kernel
theorem dX8_digestFrom_57 : decode cX8_digestFrom 57 = .ok (.istore 5, 2) := by decide +kernel
theorem dX8_digestFrom_59 : decode cX8_digestFrom 59 = .ok (.iload 5, 2) := by decide +kernel
theorem dX8_digestFrom_61 : decode cX8_digestFrom 61 = .ok (.aload_n 0, 1) := by decide +kernel
theorem dX8_digestFrom_62 : decode cX8_digestFrom 62 = .ok (.getfield 10, 3) := by decide +kernel
theorem dX8_digestFrom_65 : decode cX8_digestFrom 65 = .ok (.getfield 54, 3) := by decide +kernel
theorem dX8_digestFrom_68 : decode cX8_digestFrom 68 = .ok (.if_icmp .ge 59, 3) := by decide +kernel
theorem dX8_digestFrom_71 : decode cX8_digestFrom 71 = .ok (.ldc2_w 52, 3) := by decide +kernel
theorem dX8_digestFrom_74 : decode cX8_digestFrom 74 = .ok (.ldc2_w 52, 3) := by decide +kernel
theorem dX8_digestFrom_77 : decode cX8_digestFrom 77 = .ok (.ldc2_w 52, 3) := by decide +kernel
theorem dX8_digestFrom_80 : decode cX8_digestFrom 80 = .ok (.lload_n 3, 1) := by decide +kernel
theorem dX8_digestFrom_81 : decode cX8_digestFrom 81 = .ok (.lmul, 1) := by decide +kernel
theorem dX8_digestFrom_82 : decode cX8_digestFrom 82 = .ok (.aload_n 0, 1) := by decide +kernel
theorem dX8_digestFrom_83 : decode cX8_digestFrom 83 = .ok (.getfield 10, 3) := by decide +kernel
theorem dX8_digestFrom_86 : decode cX8_digestFrom 86 = .ok (.getfield 67, 3) := by decide +kernel
theorem dX8_digestFrom_89 : decode cX8_digestFrom 89 = .ok (.iload 5, 2) := by decide +kernel
theorem dX8_digestFrom_91 : decode cX8_digestFrom 91 = .ok (.iaload, 1) := by decide +kernel
theorem dX8_digestFrom_92 : decode cX8_digestFrom 92 = .ok (.i2l, 1) := by decide +kernel
theorem dX8_digestFrom_93 : decode cX8_digestFrom 93 = .ok (.ladd, 1) := by decide +kernel
theorem dX8_digestFrom_94 : decode cX8_digestFrom 94 = .ok (.lmul, 1) := by decide +kernel
theorem dX8_digestFrom_95 : decode cX8_digestFrom 95 = .ok (.aload_n 0, 1) := by decide +kernel
theorem dX8_digestFrom_96 : decode cX8_digestFrom 96 = .ok (.getfield 10, 3) := by decide +kernel
theorem dX8_digestFrom_99 : decode cX8_digestFrom 99 = .ok (.getfield 70, 3) := by decide +kernel
theorem dX8_digestFrom_102 : decode cX8_digestFrom 102 = .ok (.iload 5, 2) := by decide +kernel
theorem dX8_digestFrom_104 : decode cX8_digestFrom 104 = .ok (.iaload, 1) := by decide +kernel
theorem dX8_digestFrom_105 : decode cX8_digestFrom 105 = .ok (.i2l, 1) := by decide +kernel
theorem dX8_digestFrom_106 : decode cX8_digestFrom 106 = .ok (.ladd, 1) := by decide +kernel
theorem dX8_digestFrom_107 : decode cX8_digestFrom 107 = .ok (.lmul, 1) := by decide +kernel
theorem dX8_digestFrom_108 : decode cX8_digestFrom 108 = .ok (.aload_n 0, 1) := by decide +kernel
theorem dX8_digestFrom_109 : decode cX8_digestFrom 109 = .ok (.getfield 10, 3) := by decide +kernel
theorem dX8_digestFrom_112 : decode cX8_digestFrom 112 = .ok (.getfield 73, 3) := by decide +kernel
theorem dX8_digestFrom_115 : decode cX8_digestFrom 115 = .ok (.iload 5, 2) := by decide +kernel
theorem dX8_digestFrom_117 : decode cX8_digestFrom 117 = .ok (.iaload, 1) := by decide +kernel
theorem dX8_digestFrom_118 : decode cX8_digestFrom 118 = .ok (.i2l, 1) := by decide +kernel
theorem dX8_digestFrom_119 : decode cX8_digestFrom 119 = .ok (.ladd, 1) := by decide +kernel
theorem dX8_digestFrom_120 : decode cX8_digestFrom 120 = .ok (.lstore_n 3, 1) := by decide +kernel
theorem dX8_digestFrom_121 : decode cX8_digestFrom 121 = .ok (.iinc 5 1, 3) := by decide +kernel
theorem dX8_digestFrom_124 : decode cX8_digestFrom 124 = .ok (.goto (-65), 3) := by decide +kernel
theorem dX8_digestFrom_127 : decode cX8_digestFrom 127 = .ok (.iconst 0, 1) := by decide +kernel
theorem dX8_digestFrom_128 : decode cX8_digestFrom 128 = .ok (.istore 5, 2) := by decide +kernel
theorem dX8_digestFrom_130 : decode cX8_digestFrom 130 = .ok (.iload 5, 2) := by decide +kernel
theorem dX8_digestFrom_132 : decode cX8_digestFrom 132 = .ok (.aload_n 0, 1) := by decide +kernel
theorem dX8_digestFrom_133 : decode cX8_digestFrom 133 = .ok (.getfield 10, 3) := by decide +kernel
theorem dX8_digestFrom_136 : decode cX8_digestFrom 136 = .ok (.getfield 58, 3) := by decide +kernel
theorem dX8_digestFrom_139 : decode cX8_digestFrom 139 = .ok (.if_icmp .ge 43, 3) := by decide +kernel
theorem dX8_digestFrom_142 : decode cX8_digestFrom 142 = .ok (.ldc2_w 52, 3) := by decide +kernel
theorem dX8_digestFrom_145 : decode cX8_digestFrom 145 = .ok (.ldc2_w 52, 3) := by decide +kernel
theorem dX8_digestFrom_148 : decode cX8_digestFrom 148 = .ok (.lload_n 3, 1) := by decide +kernel
theorem dX8_digestFrom_149 : decode cX8_digestFrom 149 = .ok (.lmul, 1) := by decide +kernel
theorem dX8_digestFrom_150 : decode cX8_digestFrom 150 = .ok (.aload_n 0, 1) := by decide +kernel
theorem dX8_digestFrom_151 : decode cX8_digestFrom 151 = .ok (.getfield 10, 3) := by decide +kernel
theorem dX8_digestFrom_154 : decode cX8_digestFrom 154 = .ok (.getfield 76, 3) := by decide +kernel
theorem dX8_digestFrom_157 : decode cX8_digestFrom 157 = .ok (.iload 5, 2) := by decide +kernel
theorem dX8_digestFrom_159 : decode cX8_digestFrom 159 = .ok (.iaload, 1) := by decide +kernel
theorem dX8_digestFrom_160 : decode cX8_digestFrom 160 = .ok (.i2l, 1) := by decide +kernel
theorem dX8_digestFrom_161 : decode cX8_digestFrom 161 = .ok (.ladd, 1) := by decide +kernel
theorem dX8_digestFrom_162 : decode cX8_digestFrom 162 = .ok (.lmul, 1) := by decide +kernel
theorem dX8_digestFrom_163 : decode cX8_digestFrom 163 = .ok (.aload_n 0, 1) := by decide +kernel
theorem dX8_digestFrom_164 : decode cX8_digestFrom 164 = .ok (.getfield 10, 3) := by decide +kernel
theorem dX8_digestFrom_167 : decode cX8_digestFrom 167 = .ok (.getfield 79, 3) := by decide +kernel
theorem dX8_digestFrom_170 : decode cX8_digestFrom 170 = .ok (.iload 5, 2) := by decide +kernel
theorem dX8_digestFrom_172 : decode cX8_digestFrom 172 = .ok (.iaload, 1) := by decide +kernel
theorem dX8_digestFrom_173 : decode cX8_digestFrom 173 = .ok (.i2l, 1) := by decide +kernel
theorem dX8_digestFrom_174 : decode cX8_digestFrom 174 = .ok (.ladd, 1) := by decide +kernel
theorem dX8_digestFrom_175 : decode cX8_digestFrom 175 = .ok (.lstore_n 3, 1) := by decide +kernel
theorem dX8_digestFrom_176 : decode cX8_digestFrom 176 = .ok (.iinc 5 1, 3) := by decide +kernel
theorem dX8_digestFrom_179 : decode cX8_digestFrom 179 = .ok (.goto (-49), 3) := by decide +kernel
theorem dX8_digestFrom_182 : decode cX8_digestFrom 182 = .ok (.iconst 0, 1) := by decide +kernel
theorem dX8_digestFrom_183 : decode cX8_digestFrom 183 = .ok (.istore 5, 2) := by decide +kernel
theorem dX8_digestFrom_185 : decode cX8_digestFrom 185 = .ok (.iload 5, 2) := by decide +kernel
theorem dX8_digestFrom_187 : decode cX8_digestFrom 187 = .ok (.aload_n 0, 1) := by decide +kernel
theorem dX8_digestFrom_188 : decode cX8_digestFrom 188 = .ok (.getfield 19, 3) := by decide +kernel
theorem dX8_digestFrom_191 : decode cX8_digestFrom 191 = .ok (.getfield 61, 3) := by decide +kernel
theorem dX8_digestFrom_194 : decode cX8_digestFrom 194 = .ok (.if_icmp .ge 26, 3) := by decide +kernel
theorem dX8_digestFrom_197 : decode cX8_digestFrom 197 = .ok (.ldc2_w 52, 3) := by decide +kernel
theorem dX8_digestFrom_200 : decode cX8_digestFrom 200 = .ok (.lload_n 3, 1) := by decide +kernel
theorem dX8_digestFrom_201 : decode cX8_digestFrom 201 = .ok (.lmul, 1) := by decide +kernel
theorem dX8_digestFrom_202 : decode cX8_digestFrom 202 = .ok (.aload_n 0, 1) := by decide +kernel
theorem dX8_digestFrom_203 : decode cX8_digestFrom 203 = .ok (.getfield 19, 3) := by decide +kernel
theorem dX8_digestFrom_206 : decode cX8_digestFrom 206 = .ok (.iload 5, 2) := by decide +kernel
theorem dX8_digestFrom_208 : decode cX8_digestFrom 208 = .ok (.invokevirtual 82, 3) := by decide +kernel
theorem dX8_digestFrom_211 : decode cX8_digestFrom 211 = .ok (.i2l, 1) := by decide +kernel
theorem dX8_digestFrom_212 : decode cX8_digestFrom 212 = .ok (.ladd, 1) := by decide +kernel
theorem dX8_digestFrom_213 : decode cX8_digestFrom 213 = .ok (.lstore_n 3, 1) := by decide +kernel
theorem dX8_digestFrom_214 : decode cX8_digestFrom 214 = .ok (.iinc 5 1, 3) := by decide +kernel
theorem dX8_digestFrom_217 : decode cX8_digestFrom 217 = .ok (.goto (-32), 3) := by decide +kernel
theorem dX8_digestFrom_220 : decode cX8_digestFrom 220 = .ok (.iconst 0, 1) := by decide +kernel
theorem dX8_digestFrom_221 : decode cX8_digestFrom 221 = .ok (.istore 5, 2) := by decide +kernel
theorem dX8_digestFrom_223 : decode cX8_digestFrom 223 = .ok (.iload 5, 2) := by decide +kernel
theorem dX8_digestFrom_225 : decode cX8_digestFrom 225 = .ok (.bipush 10, 2) := by decide +kernel
theorem dX8_digestFrom_227 : decode cX8_digestFrom 227 = .ok (.if_icmp .ge 24, 3) := by decide +kernel
theorem dX8_digestFrom_230 : decode cX8_digestFrom 230 = .ok (.ldc2_w 52, 3) := by decide +kernel
theorem dX8_digestFrom_233 : decode cX8_digestFrom 233 = .ok (.lload_n 3, 1) := by decide +kernel
theorem dX8_digestFrom_234 : decode cX8_digestFrom 234 = .ok (.lmul, 1) := by decide +kernel
theorem dX8_digestFrom_235 : decode cX8_digestFrom 235 = .ok (.aload_n 0, 1) := by decide +kernel
theorem dX8_digestFrom_236 : decode cX8_digestFrom 236 = .ok (.getfield 25, 3) := by decide +kernel
theorem dX8_digestFrom_239 : decode cX8_digestFrom 239 = .ok (.iload 5, 2) := by decide +kernel
theorem dX8_digestFrom_241 : decode cX8_digestFrom 241 = .ok (.iaload, 1) := by decide +kernel
theorem dX8_digestFrom_242 : decode cX8_digestFrom 242 = .ok (.i2l, 1) := by decide +kernel
theorem dX8_digestFrom_243 : decode cX8_digestFrom 243 = .ok (.ladd, 1) := by decide +kernel
theorem dX8_digestFrom_244 : decode cX8_digestFrom 244 = .ok (.lstore_n 3, 1) := by decide +kernel
theorem dX8_digestFrom_245 : decode cX8_digestFrom 245 = .ok (.iinc 5 1, 3) := by decide +kernel
theorem dX8_digestFrom_248 : decode cX8_digestFrom 248 = .ok (.goto (-25), 3) := by decide +kernel
theorem dX8_digestFrom_251 : decode cX8_digestFrom 251 = .ok (.iconst 0, 1) := by decide +kernel
theorem dX8_digestFrom_252 : decode cX8_digestFrom 252 = .ok (.istore 5, 2) := by decide +kernel
theorem dX8_digestFrom_254 : decode cX8_digestFrom 254 = .ok (.iload 5, 2) := by decide +kernel
theorem dX8_digestFrom_256 : decode cX8_digestFrom 256 = .ok (.aload_n 0, 1) := by decide +kernel
theorem dX8_digestFrom_257 : decode cX8_digestFrom 257 = .ok (.getfield 32, 3) := by decide +kernel
theorem dX8_digestFrom_260 : decode cX8_digestFrom 260 = .ok (.getfield 64, 3) := by decide +kernel
theorem dX8_digestFrom_263 : decode cX8_digestFrom 263 = .ok (.if_icmp .ge 69, 3) := by decide +kernel
theorem dX8_digestFrom_266 : decode cX8_digestFrom 266 = .ok (.ldc2_w 52, 3) := by decide +kernel
theorem dX8_digestFrom_269 : decode cX8_digestFrom 269 = .ok (.ldc2_w 52, 3) := by decide +kernel
theorem dX8_digestFrom_272 : decode cX8_digestFrom 272 = .ok (.lload_n 3, 1) := by decide +kernel
theorem dX8_digestFrom_273 : decode cX8_digestFrom 273 = .ok (.lmul, 1) := by decide +kernel
theorem dX8_digestFrom_274 : decode cX8_digestFrom 274 = .ok (.aload_n 0, 1) := by decide +kernel
theorem dX8_digestFrom_275 : decode cX8_digestFrom 275 = .ok (.getfield 32, 3) := by decide +kernel
theorem dX8_digestFrom_278 : decode cX8_digestFrom 278 = .ok (.getfield 86, 3) := by decide +kernel
theorem dX8_digestFrom_281 : decode cX8_digestFrom 281 = .ok (.iload 5, 2) := by decide +kernel
theorem dX8_digestFrom_283 : decode cX8_digestFrom 283 = .ok (.iaload, 1) := by decide +kernel
theorem dX8_digestFrom_284 : decode cX8_digestFrom 284 = .ok (.i2l, 1) := by decide +kernel
theorem dX8_digestFrom_285 : decode cX8_digestFrom 285 = .ok (.ladd, 1) := by decide +kernel
theorem dX8_digestFrom_286 : decode cX8_digestFrom 286 = .ok (.lmul, 1) := by decide +kernel
theorem dX8_digestFrom_287 : decode cX8_digestFrom 287 = .ok (.aload_n 0, 1) := by decide +kernel
theorem dX8_digestFrom_288 : decode cX8_digestFrom 288 = .ok (.getfield 32, 3) := by decide +kernel
theorem dX8_digestFrom_291 : decode cX8_digestFrom 291 = .ok (.getfield 89, 3) := by decide +kernel
theorem dX8_digestFrom_294 : decode cX8_digestFrom 294 = .ok (.iload 5, 2) := by decide +kernel
theorem dX8_digestFrom_296 : decode cX8_digestFrom 296 = .ok (.iaload, 1) := by decide +kernel
theorem dX8_digestFrom_297 : decode cX8_digestFrom 297 = .ok (.i2l, 1) := by decide +kernel
theorem dX8_digestFrom_298 : decode cX8_digestFrom 298 = .ok (.ladd, 1) := by decide +kernel
theorem dX8_digestFrom_299 : decode cX8_digestFrom 299 = .ok (.lstore_n 3, 1) := by decide +kernel
theorem dX8_digestFrom_300 : decode cX8_digestFrom 300 = .ok (.ldc2_w 52, 3) := by decide +kernel
theorem dX8_digestFrom_303 : decode cX8_digestFrom 303 = .ok (.lload_n 3, 1) := by decide +kernel
theorem dX8_digestFrom_304 : decode cX8_digestFrom 304 = .ok (.lmul, 1) := by decide +kernel
theorem dX8_digestFrom_305 : decode cX8_digestFrom 305 = .ok (.aload_n 0, 1) := by decide +kernel
theorem dX8_digestFrom_306 : decode cX8_digestFrom 306 = .ok (.getfield 32, 3) := by decide +kernel
theorem dX8_digestFrom_309 : decode cX8_digestFrom 309 = .ok (.getfield 92, 3) := by decide +kernel
theorem dX8_digestFrom_312 : decode cX8_digestFrom 312 = .ok (.iload 5, 2) := by decide +kernel
theorem dX8_digestFrom_314 : decode cX8_digestFrom 314 = .ok (.baload, 1) := by decide +kernel
theorem dX8_digestFrom_315 : decode cX8_digestFrom 315 = .ok (.ifCond .eq 7, 3) := by decide +kernel
theorem dX8_digestFrom_318 : decode cX8_digestFrom 318 = .ok (.iconst 1, 1) := by decide +kernel
theorem dX8_digestFrom_319 : decode cX8_digestFrom 319 = .ok (.goto 4, 3) := by decide +kernel
theorem dX8_digestFrom_322 : decode cX8_digestFrom 322 = .ok (.iconst 0, 1) := by decide +kernel
theorem dX8_digestFrom_323 : decode cX8_digestFrom 323 = .ok (.i2l, 1) := by decide +kernel
theorem dX8_digestFrom_324 : decode cX8_digestFrom 324 = .ok (.ladd, 1) := by decide +kernel
theorem dX8_digestFrom_325 : decode cX8_digestFrom 325 = .ok (.lstore_n 3, 1) := by decide +kernel
theorem dX8_digestFrom_326 : decode cX8_digestFrom 326 = .ok (.iinc 5 1, 3) := by decide +kernel
theorem dX8_digestFrom_329 : decode cX8_digestFrom 329 = .ok (.goto (-75), 3) := by decide +kernel
theorem dX8_digestFrom_332 : decode cX8_digestFrom 332 = .ok (.ldc2_w 52, 3) := by decide +kernel
theorem dX8_digestFrom_335 : decode cX8_digestFrom 335 = .ok (.lload_n 3, 1) := by decide +kernel
theorem dX8_digestFrom_336 : decode cX8_digestFrom 336 = .ok (.lmul, 1) := by decide +kernel
theorem dX8_digestFrom_337 : decode cX8_digestFrom 337 = .ok (.aload_n 0, 1) := by decide +kernel
theorem dX8_digestFrom_338 : decode cX8_digestFrom 338 = .ok (.getfield 32, 3) := by decide +kernel
theorem dX8_digestFrom_341 : decode cX8_digestFrom 341 = .ok (.getfield 96, 3) := by decide +kernel
theorem dX8_digestFrom_344 : decode cX8_digestFrom 344 = .ok (.i2l, 1) := by decide +kernel
theorem dX8_digestFrom_345 : decode cX8_digestFrom 345 = .ok (.ladd, 1) := by decide +kernel
theorem dX8_digestFrom_346 : decode cX8_digestFrom 346 = .ok (.lreturn, 1) := by decide +kernel
theorem dX9_init_0 : decode cX9_init 0 = .ok (.aload_n 0, 1) := by decide +kernel
theorem dX9_init_1 : decode cX9_init 1 = .ok (.invokespecial 3, 3) := by decide +kernel
theorem dX9_init_4 : decode cX9_init 4 = .ok (.aload_n 0, 1) := by decide +kernel
theorem dX9_init_5 : decode cX9_init 5 = .ok (.sipush 610, 3) := by decide +kernel
theorem dX9_init_8 : decode cX9_init 8 = .ok (.newarray .long, 2) := by decide +kernel
theorem dX9_init_10 : decode cX9_init 10 = .ok (.putfield 9, 3) := by decide +kernel
theorem dX9_init_13 : decode cX9_init 13 = .ok (.aload_n 0, 1) := by decide +kernel
theorem dX9_init_14 : decode cX9_init 14 = .ok (.aload_n 1, 1) := by decide +kernel
theorem dX9_init_15 : decode cX9_init 15 = .ok (.putfield 13, 3) := by decide +kernel
theorem dX9_init_18 : decode cX9_init 18 = .ok (.return_, 1) := by decide +kernel
theorem dX9_countSets_0 : decode cX9_countSets 0 = .ok (.iconst 0, 1) := by decide +kernel
theorem dX9_countSets_1 : decode cX9_countSets 1 = .ok (.istore_n 1, 1) := by decide +kernel
theorem dX9_countSets_2 : decode cX9_countSets 2 = .ok (.iload_n 1, 1) := by decide +kernel
theorem dX9_countSets_3 : decode cX9_countSets 3 = .ok (.aload_n 0, 1) := by decide +kernel
theorem dX9_countSets_4 : decode cX9_countSets 4 = .ok (.getfield 9, 3) := by decide +kernel
theorem dX9_countSets_7 : decode cX9_countSets 7 = .ok (.arraylength, 1) := by decide +kernel
theorem dX9_countSets_8 : decode cX9_countSets 8 = .ok (.if_icmp .ge 16, 3) := by decide +kernel
theorem dX9_countSets_11 : decode cX9_countSets 11 = .ok (.aload_n 0, 1) := by decide +kernel
theorem dX9_countSets_12 : decode cX9_countSets 12 = .ok (.getfield 9, 3) := by decide +kernel
theorem dX9_countSets_15 : decode cX9_countSets 15 = .ok (.iload_n 1, 1) := by decide +kernel
theorem dX9_countSets_16 : decode cX9_countSets 16 = .ok (.lconst 0, 1) := by decide +kernel
theorem dX9_countSets_17 : decode cX9_countSets 17 = .ok (.lastore, 1) := by decide +kernel
theorem dX9_countSets_18 : decode cX9_countSets 18 = .ok (.iinc 1 1, 3) := by decide +kernel
theorem dX9_countSets_21 : decode cX9_countSets 21 = .ok (.goto (-19), 3) := by decide +kernel
theorem dX9_countSets_24 : decode cX9_countSets 24 = .ok (.aload_n 0, 1) := by decide +kernel
theorem dX9_countSets_25 : decode cX9_countSets 25 = .ok (.getfield 9, 3) := by decide +kernel
theorem dX9_countSets_28 : decode cX9_countSets 28 = .ok (.iconst 0, 1) := by decide +kernel
theorem dX9_countSets_29 : decode cX9_countSets 29 = .ok (.lconst 1, 1) := by decide +kernel
theorem dX9_countSets_30 : decode cX9_countSets 30 = .ok (.lastore, 1) := by decide +kernel
theorem dX9_countSets_31 : decode cX9_countSets 31 = .ok (.iconst 0, 1) := by decide +kernel
theorem dX9_countSets_32 : decode cX9_countSets 32 = .ok (.istore_n 1, 1) := by decide +kernel
theorem dX9_countSets_33 : decode cX9_countSets 33 = .ok (.iconst 0, 1) := by decide +kernel
theorem dX9_countSets_34 : decode cX9_countSets 34 = .ok (.istore_n 2, 1) := by decide +kernel
theorem dX9_countSets_35 : decode cX9_countSets 35 = .ok (.iload_n 2, 1) := by decide +kernel
theorem dX9_countSets_36 : decode cX9_countSets 36 = .ok (.bipush 10, 2) := by decide +kernel
theorem dX9_countSets_38 : decode cX9_countSets 38 = .ok (.if_icmp .ge 42, 3) := by decide +kernel
theorem dX9_countSets_41 : decode cX9_countSets 41 = .ok (.iconst 0, 1) := by decide +kernel
theorem dX9_countSets_42 : decode cX9_countSets 42 = .ok (.istore_n 3, 1) := by decide +kernel
theorem dX9_countSets_43 : decode cX9_countSets 43 = .ok (.iload_n 3, 1) := by decide +kernel
theorem dX9_countSets_44 : decode cX9_countSets 44 = .ok (.aload_n 0, 1) := by decide +kernel
theorem dX9_countSets_45 : decode cX9_countSets 45 = .ok (.getfield 13, 3) := by decide +kernel
theorem dX9_countSets_48 : decode cX9_countSets 48 = .ok (.iload_n 2, 1) := by decide +kernel
theorem dX9_countSets_49 : decode cX9_countSets 49 = .ok (.iaload, 1) := by decide +kernel
theorem dX9_countSets_50 : decode cX9_countSets 50 = .ok (.if_icmp .ge 24, 3) := by decide +kernel
theorem dX9_countSets_53 : decode cX9_countSets 53 = .ok (.iload_n 1, 1) := by decide +kernel
theorem dX9_countSets_54 : decode cX9_countSets 54 = .ok (.bipush 60, 2) := by decide +kernel
theorem dX9_countSets_56 : decode cX9_countSets 56 = .ok (.if_icmp .ge 18, 3) := by decide +kernel
theorem dX9_countSets_59 : decode cX9_countSets 59 = .ok (.iinc 1 1, 3) := by decide +kernel
theorem dX9_countSets_62 : decode cX9_countSets 62 = .ok (.aload_n 0, 1) := by decide +kernel
theorem dX9_countSets_63 : decode cX9_countSets 63 = .ok (.iload_n 2, 1) := by decide +kernel
theorem dX9_countSets_64 : decode cX9_countSets 64 = .ok (.iload_n 1, 1) := by decide +kernel
theorem dX9_countSets_65 : decode cX9_countSets 65 = .ok (.invokevirtual 17, 3) := by decide +kernel
theorem dX9_countSets_68 : decode cX9_countSets 68 = .ok (.iinc 3 1, 3) := by decide +kernel
theorem dX9_countSets_71 : decode cX9_countSets 71 = .ok (.goto (-28), 3) := by decide +kernel
theorem dX9_countSets_74 : decode cX9_countSets 74 = .ok (.iinc 2 1, 3) := by decide +kernel
theorem dX9_countSets_77 : decode cX9_countSets 77 = .ok (.goto (-42), 3) := by decide +kernel
theorem dX9_countSets_80 : decode cX9_countSets 80 = .ok (.iload_n 1, 1) := by decide +kernel
theorem dX9_countSets_81 : decode cX9_countSets 81 = .ok (.ireturn, 1) := by decide +kernel
theorem dX9_addOne_0 : decode cX9_addOne 0 = .ok (.iload_n 2, 1) := by decide +kernel
theorem dX9_addOne_1 : decode cX9_addOne 1 = .ok (.istore_n 3, 1) := by decide +kernel
theorem dX9_addOne_2 : decode cX9_addOne 2 = .ok (.iload_n 3, 1) := by decide +kernel
theorem dX9_addOne_3 : decode cX9_addOne 3 = .ok (.iconst 1, 1) := by decide +kernel
theorem dX9_addOne_4 : decode cX9_addOne 4 = .ok (.if_icmp .lt 66, 3) := by decide +kernel
theorem dX9_addOne_7 : decode cX9_addOne 7 = .ok (.iconst 0, 1) := by decide +kernel
theorem dX9_addOne_8 : decode cX9_addOne 8 = .ok (.istore 4, 2) := by decide +kernel
theorem dX9_addOne_10 : decode cX9_addOne 10 = .ok (.iload 4, 2) := by decide +kernel
theorem dX9_addOne_12 : decode cX9_addOne 12 = .ok (.bipush 10, 2) := by decide +kernel
theorem dX9_addOne_14 : decode cX9_addOne 14 = .ok (.if_icmp .ge 50, 3) := by decide +kernel
theorem dX9_addOne_17 : decode cX9_addOne 17 = .ok (.iload 4, 2) := by decide +kernel
theorem dX9_addOne_19 : decode cX9_addOne 19 = .ok (.bipush 10, 2) := by decide +kernel
theorem dX9_addOne_21 : decode cX9_addOne 21 = .ok (.iadd, 1) := by decide +kernel
theorem dX9_addOne_22 : decode cX9_addOne 22 = .ok (.iload_n 1, 1) := by decide +kernel
theorem dX9_addOne_23 : decode cX9_addOne 23 = .ok (.isub, 1) := by decide +kernel
theorem dX9_addOne_24 : decode cX9_addOne 24 = .ok (.bipush 10, 2) := by decide +kernel
theorem dX9_addOne_26 : decode cX9_addOne 26 = .ok (.irem, 1) := by decide +kernel
theorem dX9_addOne_27 : decode cX9_addOne 27 = .ok (.istore 5, 2) := by decide +kernel
theorem dX9_addOne_29 : decode cX9_addOne 29 = .ok (.aload_n 0, 1) := by decide +kernel
theorem dX9_addOne_30 : decode cX9_addOne 30 = .ok (.getfield 9, 3) := by decide +kernel
theorem dX9_addOne_33 : decode cX9_addOne 33 = .ok (.iload_n 3, 1) := by decide +kernel
theorem dX9_addOne_34 : decode cX9_addOne 34 = .ok (.bipush 10, 2) := by decide +kernel
theorem dX9_addOne_36 : decode cX9_addOne 36 = .ok (.imul, 1) := by decide +kernel
theorem dX9_addOne_37 : decode cX9_addOne 37 = .ok (.iload 4, 2) := by decide +kernel
theorem dX9_addOne_39 : decode cX9_addOne 39 = .ok (.iadd, 1) := by decide +kernel
theorem dX9_addOne_40 : decode cX9_addOne 40 = .ok (.dup2, 1) := by decide +kernel
theorem dX9_addOne_41 : decode cX9_addOne 41 = .ok (.laload, 1) := by decide +kernel
theorem dX9_addOne_42 : decode cX9_addOne 42 = .ok (.aload_n 0, 1) := by decide +kernel
theorem dX9_addOne_43 : decode cX9_addOne 43 = .ok (.getfield 9, 3) := by decide +kernel
theorem dX9_addOne_46 : decode cX9_addOne 46 = .ok (.iload_n 3, 1) := by decide +kernel
theorem dX9_addOne_47 : decode cX9_addOne 47 = .ok (.iconst 1, 1) := by decide +kernel
theorem dX9_addOne_48 : decode cX9_addOne 48 = .ok (.isub, 1) := by decide +kernel
theorem dX9_addOne_49 : decode cX9_addOne 49 = .ok (.bipush 10, 2) := by decide +kernel
theorem dX9_addOne_51 : decode cX9_addOne 51 = .ok (.imul, 1) := by decide +kernel
theorem dX9_addOne_52 : decode cX9_addOne 52 = .ok (.iload 5, 2) := by decide +kernel
theorem dX9_addOne_54 : decode cX9_addOne 54 = .ok (.iadd, 1) := by decide +kernel
theorem dX9_addOne_55 : decode cX9_addOne 55 = .ok (.laload, 1) := by decide +kernel
theorem dX9_addOne_56 : decode cX9_addOne 56 = .ok (.ladd, 1) := by decide +kernel
theorem dX9_addOne_57 : decode cX9_addOne 57 = .ok (.lastore, 1) := by decide +kernel
theorem dX9_addOne_58 : decode cX9_addOne 58 = .ok (.iinc 4 1, 3) := by decide +kernel
theorem dX9_addOne_61 : decode cX9_addOne 61 = .ok (.goto (-51), 3) := by decide +kernel
theorem dX9_addOne_64 : decode cX9_addOne 64 = .ok (.iinc 3 (-1), 3) := by decide +kernel
theorem dX9_addOne_67 : decode cX9_addOne 67 = .ok (.goto (-65), 3) := by decide +kernel
theorem dX9_addOne_70 : decode cX9_addOne 70 = .ok (.return_, 1) := by decide +kernel
theorem dX9_setsOfTens_0 : decode cX9_setsOfTens 0 = .ok (.aload_n 0, 1) := by decide +kernel
theorem dX9_setsOfTens_1 : decode cX9_setsOfTens 1 = .ok (.getfield 9, 3) := by decide +kernel
theorem dX9_setsOfTens_4 : decode cX9_setsOfTens 4 = .ok (.iload_n 1, 1) := by decide +kernel
theorem dX9_setsOfTens_5 : decode cX9_setsOfTens 5 = .ok (.bipush 10, 2) := by decide +kernel
theorem dX9_setsOfTens_7 : decode cX9_setsOfTens 7 = .ok (.imul, 1) := by decide +kernel
theorem dX9_setsOfTens_8 : decode cX9_setsOfTens 8 = .ok (.laload, 1) := by decide +kernel
theorem dX9_setsOfTens_9 : decode cX9_setsOfTens 9 = .ok (.lreturn, 1) := by decide +kernel
theorem dX10_init_0 : decode cX10_init 0 = .ok (.aload_n 0, 1) := by decide +kernel
theorem dX10_init_1 : decode cX10_init 1 = .ok (.invokespecial 1, 3) := by decide +kernel
theorem dX10_init_4 : decode cX10_init 4 = .ok (.aload_n 0, 1) := by decide +kernel
theorem dX10_init_5 : decode cX10_init 5 = .ok (.new 7, 3) := by decide +kernel
theorem dX10_init_8 : decode cX10_init 8 = .ok (.dup, 1) := by decide +kernel
theorem dX10_init_9 : decode cX10_init 9 = .ok (.invokespecial 9, 3) := by decide +kernel
theorem dX10_init_12 : decode cX10_init 12 = .ok (.putfield 10, 3) := by decide +kernel
theorem dX10_init_15 : decode cX10_init 15 = .ok (.aload_n 0, 1) := by decide +kernel
theorem dX10_init_16 : decode cX10_init 16 = .ok (.iconst 2, 1) := by decide +kernel
theorem dX10_init_17 : decode cX10_init 17 = .ok (.anewarray 7, 3) := by decide +kernel
theorem dX10_init_20 : decode cX10_init 20 = .ok (.putfield 16, 3) := by decide +kernel
theorem dX10_init_23 : decode cX10_init 23 = .ok (.iconst 0, 1) := by decide +kernel
theorem dX10_init_24 : decode cX10_init 24 = .ok (.istore_n 1, 1) := by decide +kernel
theorem dX10_init_25 : decode cX10_init 25 = .ok (.iload_n 1, 1) := by decide +kernel
theorem dX10_init_26 : decode cX10_init 26 = .ok (.iconst 2, 1) := by decide +kernel
theorem dX10_init_27 : decode cX10_init 27 = .ok (.if_icmp .ge 22, 3) := by decide +kernel
theorem dX10_init_30 : decode cX10_init 30 = .ok (.aload_n 0, 1) := by decide +kernel
theorem dX10_init_31 : decode cX10_init 31 = .ok (.getfield 16, 3) := by decide +kernel
theorem dX10_init_34 : decode cX10_init 34 = .ok (.iload_n 1, 1) := by decide +kernel
theorem dX10_init_35 : decode cX10_init 35 = .ok (.new 7, 3) := by decide +kernel
theorem dX10_init_38 : decode cX10_init 38 = .ok (.dup, 1) := by decide +kernel
theorem dX10_init_39 : decode cX10_init 39 = .ok (.invokespecial 9, 3) := by decide +kernel
theorem dX10_init_42 : decode cX10_init 42 = .ok (.aastore, 1) := by decide +kernel
theorem dX10_init_43 : decode cX10_init 43 = .ok (.iinc 1 1, 3) := by decide +kernel
theorem dX10_init_46 : decode cX10_init 46 = .ok (.goto (-21), 3) := by decide +kernel
theorem dX10_init_49 : decode cX10_init 49 = .ok (.aload_n 0, 1) := by decide +kernel
theorem dX10_init_50 : decode cX10_init 50 = .ok (.iconst 2, 1) := by decide +kernel
theorem dX10_init_51 : decode cX10_init 51 = .ok (.newarray .boolean, 2) := by decide +kernel
theorem dX10_init_53 : decode cX10_init 53 = .ok (.putfield 20, 3) := by decide +kernel
theorem dX10_init_56 : decode cX10_init 56 = .ok (.aload_n 0, 1) := by decide +kernel
theorem dX10_init_57 : decode cX10_init 57 = .ok (.new 24, 3) := by decide +kernel
theorem dX10_init_60 : decode cX10_init 60 = .ok (.dup, 1) := by decide +kernel
theorem dX10_init_61 : decode cX10_init 61 = .ok (.invokespecial 26, 3) := by decide +kernel
theorem dX10_init_64 : decode cX10_init 64 = .ok (.putfield 27, 3) := by decide +kernel
theorem dX10_init_67 : decode cX10_init 67 = .ok (.aload_n 0, 1) := by decide +kernel
theorem dX10_init_68 : decode cX10_init 68 = .ok (.new 31, 3) := by decide +kernel
theorem dX10_init_71 : decode cX10_init 71 = .ok (.dup, 1) := by decide +kernel
theorem dX10_init_72 : decode cX10_init 72 = .ok (.aload_n 0, 1) := by decide +kernel
theorem dX10_init_73 : decode cX10_init 73 = .ok (.getfield 10, 3) := by decide +kernel
theorem dX10_init_76 : decode cX10_init 76 = .ok (.getfield 33, 3) := by decide +kernel
theorem dX10_init_79 : decode cX10_init 79 = .ok (.aload_n 0, 1) := by decide +kernel
theorem dX10_init_80 : decode cX10_init 80 = .ok (.getfield 27, 3) := by decide +kernel
theorem dX10_init_83 : decode cX10_init 83 = .ok (.invokespecial 37, 3) := by decide +kernel
theorem dX10_init_86 : decode cX10_init 86 = .ok (.putfield 40, 3) := by decide +kernel
theorem dX10_init_89 : decode cX10_init 89 = .ok (.aload_n 0, 1) := by decide +kernel
theorem dX10_init_90 : decode cX10_init 90 = .ok (.new 44, 3) := by decide +kernel
theorem dX10_init_93 : decode cX10_init 93 = .ok (.dup, 1) := by decide +kernel
theorem dX10_init_94 : decode cX10_init 94 = .ok (.aload_n 0, 1) := by decide +kernel
theorem dX10_init_95 : decode cX10_init 95 = .ok (.getfield 10, 3) := by decide +kernel
theorem dX10_init_98 : decode cX10_init 98 = .ok (.getfield 46, 3) := by decide +kernel
theorem dX10_init_101 : decode cX10_init 101 = .ok (.invokespecial 49, 3) := by decide +kernel
theorem dX10_init_104 : decode cX10_init 104 = .ok (.putfield 52, 3) := by decide +kernel
theorem dX10_init_107 : decode cX10_init 107 = .ok (.aload_n 0, 1) := by decide +kernel
theorem dX10_init_108 : decode cX10_init 108 = .ok (.new 56, 3) := by decide +kernel
theorem dX10_init_111 : decode cX10_init 111 = .ok (.dup, 1) := by decide +kernel
theorem dX10_init_112 : decode cX10_init 112 = .ok (.aload_n 0, 1) := by decide +kernel
theorem dX10_init_113 : decode cX10_init 113 = .ok (.getfield 52, 3) := by decide +kernel
theorem dX10_init_116 : decode cX10_init 116 = .ok (.invokespecial 58, 3) := by decide +kernel
theorem dX10_init_119 : decode cX10_init 119 = .ok (.putfield 61, 3) := by decide +kernel
theorem dX10_init_122 : decode cX10_init 122 = .ok (.aload_n 0, 1) := by decide +kernel
theorem dX10_init_123 : decode cX10_init 123 = .ok (.new 65, 3) := by decide +kernel
theorem dX10_init_126 : decode cX10_init 126 = .ok (.dup, 1) := by decide +kernel
theorem dX10_init_127 : decode cX10_init 127 = .ok (.aload_n 0, 1) := by decide +kernel
theorem dX10_init_128 : decode cX10_init 128 = .ok (.getfield 10, 3) := by decide +kernel
theorem dX10_init_131 : decode cX10_init 131 = .ok (.getfield 67, 3) := by decide +kernel
theorem dX10_init_134 : decode cX10_init 134 = .ok (.invokespecial 71, 3) := by decide +kernel
theorem dX10_init_137 : decode cX10_init 137 = .ok (.putfield 74, 3) := by decide +kernel
theorem dX10_init_140 : decode cX10_init 140 = .ok (.aload_n 0, 1) := by decide +kernel
theorem dX10_init_141 : decode cX10_init 141 = .ok (.new 78, 3) := by decide +kernel
theorem dX10_init_144 : decode cX10_init 144 = .ok (.dup, 1) := by decide +kernel
theorem dX10_init_145 : decode cX10_init 145 = .ok (.aload_n 0, 1) := by decide +kernel
theorem dX10_init_146 : decode cX10_init 146 = .ok (.getfield 10, 3) := by decide +kernel
theorem dX10_init_149 : decode cX10_init 149 = .ok (.getfield 80, 3) := by decide +kernel
theorem dX10_init_152 : decode cX10_init 152 = .ok (.invokespecial 84, 3) := by decide +kernel
theorem dX10_init_155 : decode cX10_init 155 = .ok (.putfield 87, 3) := by decide +kernel
theorem dX10_init_158 : decode cX10_init 158 = .ok (.aload_n 0, 1) := by decide +kernel
theorem dX10_init_159 : decode cX10_init 159 = .ok (.iconst 0, 1) := by decide +kernel
theorem dX10_init_160 : decode cX10_init 160 = .ok (.putfield 91, 3) := by decide +kernel
theorem dX10_init_163 : decode cX10_init 163 = .ok (.aload_n 0, 1) := by decide +kernel
theorem dX10_init_164 : decode cX10_init 164 = .ok (.iconst 1, 1) := by decide +kernel
theorem dX10_init_165 : decode cX10_init 165 = .ok (.putfield 95, 3) := by decide +kernel
theorem dX10_init_168 : decode cX10_init 168 = .ok (.return_, 1) := by decide +kernel
theorem dX10_day_0 : decode cX10_day 0 = .ok (.iload_n 1, 1) := by decide +kernel
theorem dX10_day_1 : decode cX10_day 1 = .ok (.iload_n 2, 1) := by decide +kernel
theorem dX10_day_2 : decode cX10_day 2 = .ok (.iload_n 3, 1) := by decide +kernel
theorem dX10_day_3 : decode cX10_day 3 = .ok (.invokestatic 98, 3) := by decide +kernel
theorem dX10_day_6 : decode cX10_day 6 = .ok (.ifCond .eq 12, 3) := by decide +kernel
theorem dX10_day_9 : decode cX10_day 9 = .ok (.iload_n 1, 1) := by decide +kernel
theorem dX10_day_10 : decode cX10_day 10 = .ok (.iload_n 2, 1) := by decide +kernel
theorem dX10_day_11 : decode cX10_day 11 = .ok (.iload_n 3, 1) := by decide +kernel
theorem dX10_day_12 : decode cX10_day 12 = .ok (.invokestatic 104, 3) := by decide +kernel
theorem dX10_day_15 : decode cX10_day 15 = .ok (.goto 9, 3) := by decide +kernel
theorem dX10_day_18 : decode cX10_day 18 = .ok (.aload_n 0, 1) := by decide +kernel
theorem dX10_day_19 : decode cX10_day 19 = .ok (.bipush (-2), 2) := by decide +kernel
theorem dX10_day_21 : decode cX10_day 21 = .ok (.invokevirtual 108, 3) := by decide +kernel
theorem dX10_day_24 : decode cX10_day 24 = .ok (.ireturn, 1) := by decide +kernel
theorem dX10_date_0 : decode cX10_date 0 = .ok (.iload_n 1, 1) := by decide +kernel
theorem dX10_date_1 : decode cX10_date 1 = .ok (.invokestatic 112, 3) := by decide +kernel
theorem dX10_date_4 : decode cX10_date 4 = .ok (.ifCond .eq 12, 3) := by decide +kernel
theorem dX10_date_7 : decode cX10_date 7 = .ok (.iload_n 2, 1) := by decide +kernel
theorem dX10_date_8 : decode cX10_date 8 = .ok (.ifCond .lt 8, 3) := by decide +kernel
theorem dX10_date_11 : decode cX10_date 11 = .ok (.iload_n 2, 1) := by decide +kernel
theorem dX10_date_12 : decode cX10_date 12 = .ok (.iconst 2, 1) := by decide +kernel
theorem dX10_date_13 : decode cX10_date 13 = .ok (.if_icmp .le 10, 3) := by decide +kernel
theorem dX10_date_16 : decode cX10_date 16 = .ok (.aload_n 0, 1) := by decide +kernel
theorem dX10_date_17 : decode cX10_date 17 = .ok (.bipush (-2), 2) := by decide +kernel
theorem dX10_date_19 : decode cX10_date 19 = .ok (.invokevirtual 108, 3) := by decide +kernel
theorem dX10_date_22 : decode cX10_date 22 = .ok (.ireturn, 1) := by decide +kernel
theorem dX10_date_23 : decode cX10_date 23 = .ok (.iload_n 1, 1) := by decide +kernel
theorem dX10_date_24 : decode cX10_date 24 = .ok (.invokestatic 116, 3) := by decide +kernel
theorem dX10_date_27 : decode cX10_date 27 = .ok (.istore_n 3, 1) := by decide +kernel
theorem dX10_date_28 : decode cX10_date 28 = .ok (.iload_n 2, 1) := by decide +kernel
theorem dX10_date_29 : decode cX10_date 29 = .ok (.ifCond .ne 5, 3) := by decide +kernel
theorem dX10_date_32 : decode cX10_date 32 = .ok (.iload_n 3, 1) := by decide +kernel
theorem dX10_date_33 : decode cX10_date 33 = .ok (.ireturn, 1) := by decide +kernel
theorem dX10_date_34 : decode cX10_date 34 = .ok (.iload_n 1, 1) := by decide +kernel
theorem dX10_date_35 : decode cX10_date 35 = .ok (.iload_n 3, 1) := by decide +kernel
theorem dX10_date_36 : decode cX10_date 36 = .ok (.invokestatic 119, 3) := by decide +kernel
theorem dX10_date_39 : decode cX10_date 39 = .ok (.istore 4, 2) := by decide +kernel
theorem dX10_date_41 : decode cX10_date 41 = .ok (.iload 4, 2) := by decide +kernel
theorem dX10_date_43 : decode cX10_date 43 = .ok (.invokestatic 123, 3) := by decide +kernel
theorem dX10_date_46 : decode cX10_date 46 = .ok (.istore 5, 2) := by decide +kernel
theorem dX10_date_48 : decode cX10_date 48 = .ok (.iload_n 2, 1) := by decide +kernel
theorem dX10_date_49 : decode cX10_date 49 = .ok (.iconst 1, 1) := by decide +kernel
theorem dX10_date_50 : decode cX10_date 50 = .ok (.if_icmp .ne 8, 3) := by decide +kernel
theorem dX10_date_53 : decode cX10_date 53 = .ok (.iload 5, 2) := by decide +kernel
theorem dX10_date_55 : decode cX10_date 55 = .ok (.goto 13, 3) := by decide +kernel
theorem dX10_date_58 : decode cX10_date 58 = .ok (.iload 4, 2) := by decide +kernel
theorem dX10_date_60 : decode cX10_date 60 = .ok (.iload 5, 2) := by decide +kernel
theorem dX10_date_62 : decode cX10_date 62 = .ok (.invokestatic 126, 3) := by decide +kernel
theorem dX10_date_65 : decode cX10_date 65 = .ok (.isub, 1) := by decide +kernel
theorem dX10_date_66 : decode cX10_date 66 = .ok (.iconst 1, 1) := by decide +kernel
theorem dX10_date_67 : decode cX10_date 67 = .ok (.iadd, 1) := by decide +kernel
theorem dX10_date_68 : decode cX10_date 68 = .ok (.ireturn, 1) := by decide +kernel
theorem dX10_person_0 : decode cX10_person 0 = .ok (.iload_n 1, 1) := by decide +kernel
theorem dX10_person_1 : decode cX10_person 1 = .ok (.invokestatic 112, 3) := by decide +kernel
theorem dX10_person_4 : decode cX10_person 4 = .ok (.ifCond .ne 10, 3) := by decide +kernel
theorem dX10_person_7 : decode cX10_person 7 = .ok (.aload_n 0, 1) := by decide +kernel
theorem dX10_person_8 : decode cX10_person 8 = .ok (.bipush (-2), 2) := by decide +kernel
theorem dX10_person_10 : decode cX10_person 10 = .ok (.invokevirtual 108, 3) := by decide +kernel
theorem dX10_person_13 : decode cX10_person 13 = .ok (.ireturn, 1) := by decide +kernel
theorem dX10_person_14 : decode cX10_person 14 = .ok (.aload_n 0, 1) := by decide +kernel
theorem dX10_person_15 : decode cX10_person 15 = .ok (.getfield 10, 3) := by decide +kernel
theorem dX10_person_18 : decode cX10_person 18 = .ok (.getfield 46, 3) := by decide +kernel
theorem dX10_person_21 : decode cX10_person 21 = .ok (.getfield 129, 3) := by decide +kernel
theorem dX10_person_24 : decode cX10_person 24 = .ok (.bipush 8, 2) := by decide +kernel
theorem dX10_person_26 : decode cX10_person 26 = .ok (.if_icmp .ge 17, 3) := by decide +kernel
theorem dX10_person_29 : decode cX10_person 29 = .ok (.aload_n 0, 1) := by decide +kernel
theorem dX10_person_30 : decode cX10_person 30 = .ok (.getfield 10, 3) := by decide +kernel
theorem dX10_person_33 : decode cX10_person 33 = .ok (.getfield 46, 3) := by decide +kernel
theorem dX10_person_36 : decode cX10_person 36 = .ok (.iload_n 1, 1) := by decide +kernel
theorem dX10_person_37 : decode cX10_person 37 = .ok (.invokevirtual 132, 3) := by decide +kernel
theorem dX10_person_40 : decode cX10_person 40 = .ok (.goto 9, 3) := by decide +kernel
theorem dX10_person_43 : decode cX10_person 43 = .ok (.aload_n 0, 1) := by decide +kernel
theorem dX10_person_44 : decode cX10_person 44 = .ok (.bipush (-4), 2) := by decide +kernel
theorem dX10_person_46 : decode cX10_person 46 = .ok (.invokevirtual 108, 3) := by decide +kernel
theorem dX10_person_49 : decode cX10_person 49 = .ok (.ireturn, 1) := by decide +kernel
theorem dX10_gate_0 : decode cX10_gate 0 = .ok (.iload_n 1, 1) := by decide +kernel
theorem dX10_gate_1 : decode cX10_gate 1 = .ok (.invokestatic 135, 3) := by decide +kernel
theorem dX10_gate_4 : decode cX10_gate 4 = .ok (.ifCond .eq 10, 3) := by decide +kernel
theorem dX10_gate_7 : decode cX10_gate 7 = .ok (.iload_n 2, 1) := by decide +kernel
theorem dX10_gate_8 : decode cX10_gate 8 = .ok (.invokestatic 138, 3) := by decide +kernel
theorem dX10_gate_11 : decode cX10_gate 11 = .ok (.ifCond .ne 10, 3) := by decide +kernel
theorem dX10_gate_14 : decode cX10_gate 14 = .ok (.aload_n 0, 1) := by decide +kernel
theorem dX10_gate_15 : decode cX10_gate 15 = .ok (.bipush (-2), 2) := by decide +kernel
theorem dX10_gate_17 : decode cX10_gate 17 = .ok (.invokevirtual 108, 3) := by decide +kernel
theorem dX10_gate_20 : decode cX10_gate 20 = .ok (.ireturn, 1) := by decide +kernel
theorem dX10_gate_21 : decode cX10_gate 21 = .ok (.aload_n 0, 1) := by decide +kernel
theorem dX10_gate_22 : decode cX10_gate 22 = .ok (.getfield 10, 3) := by decide +kernel
theorem dX10_gate_25 : decode cX10_gate 25 = .ok (.getfield 46, 3) := by decide +kernel
theorem dX10_gate_28 : decode cX10_gate 28 = .ok (.getfield 141, 3) := by decide +kernel
theorem dX10_gate_31 : decode cX10_gate 31 = .ok (.iconst 4, 1) := by decide +kernel
theorem dX10_gate_32 : decode cX10_gate 32 = .ok (.if_icmp .ge 18, 3) := by decide +kernel
theorem dX10_gate_35 : decode cX10_gate 35 = .ok (.aload_n 0, 1) := by decide +kernel
theorem dX10_gate_36 : decode cX10_gate 36 = .ok (.getfield 10, 3) := by decide +kernel
theorem dX10_gate_39 : decode cX10_gate 39 = .ok (.getfield 46, 3) := by decide +kernel
theorem dX10_gate_42 : decode cX10_gate 42 = .ok (.iload_n 1, 1) := by decide +kernel
theorem dX10_gate_43 : decode cX10_gate 43 = .ok (.iload_n 2, 1) := by decide +kernel
theorem dX10_gate_44 : decode cX10_gate 44 = .ok (.invokevirtual 144, 3) := by decide +kernel
theorem dX10_gate_47 : decode cX10_gate 47 = .ok (.goto 9, 3) := by decide +kernel
theorem dX10_gate_50 : decode cX10_gate 50 = .ok (.aload_n 0, 1) := by decide +kernel
theorem dX10_gate_51 : decode cX10_gate 51 = .ok (.bipush (-4), 2) := by decide +kernel
theorem dX10_gate_53 : decode cX10_gate 53 = .ok (.invokevirtual 108, 3) := by decide +kernel
theorem dX10_gate_56 : decode cX10_gate 56 = .ok (.ireturn, 1) := by decide +kernel
theorem dX10_pair_0 : decode cX10_pair 0 = .ok (.aload_n 0, 1) := by decide +kernel
theorem dX10_pair_1 : decode cX10_pair 1 = .ok (.getfield 10, 3) := by decide +kernel
theorem dX10_pair_4 : decode cX10_pair 4 = .ok (.getfield 46, 3) := by decide +kernel
theorem dX10_pair_7 : decode cX10_pair 7 = .ok (.astore 4, 2) := by decide +kernel
theorem dX10_pair_9 : decode cX10_pair 9 = .ok (.aload 4, 2) := by decide +kernel
theorem dX10_pair_11 : decode cX10_pair 11 = .ok (.iload_n 1, 1) := by decide +kernel
theorem dX10_pair_12 : decode cX10_pair 12 = .ok (.invokevirtual 147, 3) := by decide +kernel
theorem dX10_pair_15 : decode cX10_pair 15 = .ok (.ifCond .eq 26, 3) := by decide +kernel
theorem dX10_pair_18 : decode cX10_pair 18 = .ok (.aload 4, 2) := by decide +kernel
theorem dX10_pair_20 : decode cX10_pair 20 = .ok (.iload_n 2, 1) := by decide +kernel
theorem dX10_pair_21 : decode cX10_pair 21 = .ok (.invokevirtual 147, 3) := by decide +kernel
theorem dX10_pair_24 : decode cX10_pair 24 = .ok (.ifCond .eq 17, 3) := by decide +kernel
theorem dX10_pair_27 : decode cX10_pair 27 = .ok (.iload_n 1, 1) := by decide +kernel
theorem dX10_pair_28 : decode cX10_pair 28 = .ok (.iload_n 2, 1) := by decide +kernel
theorem dX10_pair_29 : decode cX10_pair 29 = .ok (.if_icmp .eq 12, 3) := by decide +kernel
theorem dX10_pair_32 : decode cX10_pair 32 = .ok (.iload_n 3, 1) := by decide +kernel
theorem dX10_pair_33 : decode cX10_pair 33 = .ok (.ifCond .lt 8, 3) := by decide +kernel
theorem dX10_pair_36 : decode cX10_pair 36 = .ok (.iload_n 3, 1) := by decide +kernel
theorem dX10_pair_37 : decode cX10_pair 37 = .ok (.iconst 1, 1) := by decide +kernel
theorem dX10_pair_38 : decode cX10_pair 38 = .ok (.if_icmp .le 10, 3) := by decide +kernel
theorem dX10_pair_41 : decode cX10_pair 41 = .ok (.aload_n 0, 1) := by decide +kernel
theorem dX10_pair_42 : decode cX10_pair 42 = .ok (.bipush (-2), 2) := by decide +kernel
theorem dX10_pair_44 : decode cX10_pair 44 = .ok (.invokevirtual 108, 3) := by decide +kernel
theorem dX10_pair_47 : decode cX10_pair 47 = .ok (.ireturn, 1) := by decide +kernel
theorem dX10_pair_48 : decode cX10_pair 48 = .ok (.iload_n 3, 1) := by decide +kernel
theorem dX10_pair_49 : decode cX10_pair 49 = .ok (.ifCond .ne 11, 3) := by decide +kernel
theorem dX10_pair_52 : decode cX10_pair 52 = .ok (.aload 4, 2) := by decide +kernel
theorem dX10_pair_54 : decode cX10_pair 54 = .ok (.getfield 150, 3) := by decide +kernel
theorem dX10_pair_57 : decode cX10_pair 57 = .ok (.goto 8, 3) := by decide +kernel
theorem dX10_pair_60 : decode cX10_pair 60 = .ok (.aload 4, 2) := by decide +kernel
theorem dX10_pair_62 : decode cX10_pair 62 = .ok (.getfield 153, 3) := by decide +kernel
theorem dX10_pair_65 : decode cX10_pair 65 = .ok (.iload_n 1, 1) := by decide +kernel
theorem dX10_pair_66 : decode cX10_pair 66 = .ok (.iload_n 2, 1) := by decide +kernel
theorem dX10_pair_67 : decode cX10_pair 67 = .ok (.invokestatic 156, 3) := by decide +kernel
theorem dX10_pair_70 : decode cX10_pair 70 = .ok (.ifCond .eq 7, 3) := by decide +kernel
theorem dX10_pair_73 : decode cX10_pair 73 = .ok (.iconst 1, 1) := by decide +kernel
theorem dX10_pair_74 : decode cX10_pair 74 = .ok (.goto 9, 3) := by decide +kernel
theorem dX10_pair_77 : decode cX10_pair 77 = .ok (.aload_n 0, 1) := by decide +kernel
theorem dX10_pair_78 : decode cX10_pair 78 = .ok (.bipush (-3), 2) := by decide +kernel
theorem dX10_pair_80 : decode cX10_pair 80 = .ok (.invokevirtual 108, 3) := by decide +kernel
theorem dX10_pair_83 : decode cX10_pair 83 = .ok (.ireturn, 1) := by decide +kernel
theorem dX10_age_0 : decode cX10_age 0 = .ok (.aload_n 0, 1) := by decide +kernel
theorem dX10_age_1 : decode cX10_age 1 = .ok (.getfield 10, 3) := by decide +kernel
theorem dX10_age_4 : decode cX10_age 4 = .ok (.getfield 46, 3) := by decide +kernel
theorem dX10_age_7 : decode cX10_age 7 = .ok (.iload_n 1, 1) := by decide +kernel
theorem dX10_age_8 : decode cX10_age 8 = .ok (.invokevirtual 147, 3) := by decide +kernel
theorem dX10_age_11 : decode cX10_age 11 = .ok (.ifCond .eq 10, 3) := by decide +kernel
theorem dX10_age_14 : decode cX10_age 14 = .ok (.iload_n 2, 1) := by decide +kernel
theorem dX10_age_15 : decode cX10_age 15 = .ok (.invokestatic 112, 3) := by decide +kernel
theorem dX10_age_18 : decode cX10_age 18 = .ok (.ifCond .ne 10, 3) := by decide +kernel
theorem dX10_age_21 : decode cX10_age 21 = .ok (.aload_n 0, 1) := by decide +kernel
theorem dX10_age_22 : decode cX10_age 22 = .ok (.bipush (-2), 2) := by decide +kernel
theorem dX10_age_24 : decode cX10_age 24 = .ok (.invokevirtual 108, 3) := by decide +kernel
theorem dX10_age_27 : decode cX10_age 27 = .ok (.ireturn, 1) := by decide +kernel
theorem dX10_age_28 : decode cX10_age 28 = .ok (.aload_n 0, 1) := by decide +kernel
theorem dX10_age_29 : decode cX10_age 29 = .ok (.getfield 10, 3) := by decide +kernel
theorem dX10_age_32 : decode cX10_age 32 = .ok (.getfield 46, 3) := by decide +kernel
theorem dX10_age_35 : decode cX10_age 35 = .ok (.iload_n 1, 1) := by decide +kernel
theorem dX10_age_36 : decode cX10_age 36 = .ok (.iload_n 2, 1) := by decide +kernel
theorem dX10_age_37 : decode cX10_age 37 = .ok (.iload_n 2, 1) := by decide +kernel
theorem dX10_age_38 : decode cX10_age 38 = .ok (.invokestatic 116, 3) := by decide +kernel
theorem dX10_age_41 : decode cX10_age 41 = .ok (.invokevirtual 160, 3) := by decide +kernel
theorem dX10_age_44 : decode cX10_age 44 = .ok (.ireturn, 1) := by decide +kernel
theorem dX10_why_0 : decode cX10_why 0 = .ok (.aload_n 0, 1) := by decide +kernel
theorem dX10_why_1 : decode cX10_why 1 = .ok (.getfield 10, 3) := by decide +kernel
theorem dX10_why_4 : decode cX10_why 4 = .ok (.getfield 46, 3) := by decide +kernel
theorem dX10_why_7 : decode cX10_why 7 = .ok (.iload_n 1, 1) := by decide +kernel
theorem dX10_why_8 : decode cX10_why 8 = .ok (.invokevirtual 163, 3) := by decide +kernel
theorem dX10_why_11 : decode cX10_why 11 = .ok (.ifCond .eq 12, 3) := by decide +kernel
theorem dX10_why_14 : decode cX10_why 14 = .ok (.aload_n 0, 1) := by decide +kernel
theorem dX10_why_15 : decode cX10_why 15 = .ok (.iload_n 2, 1) := by decide +kernel
theorem dX10_why_16 : decode cX10_why 16 = .ok (.iload_n 3, 1) := by decide +kernel
theorem dX10_why_17 : decode cX10_why 17 = .ok (.invokevirtual 166, 3) := by decide +kernel
theorem dX10_why_20 : decode cX10_why 20 = .ok (.ifCond .ne 12, 3) := by decide +kernel
theorem dX10_why_23 : decode cX10_why 23 = .ok (.aload_n 0, 1) := by decide +kernel
theorem dX10_why_24 : decode cX10_why 24 = .ok (.bipush (-2), 2) := by decide +kernel
theorem dX10_why_26 : decode cX10_why 26 = .ok (.bipush (-10), 2) := by decide +kernel
theorem dX10_why_28 : decode cX10_why 28 = .ok (.invokevirtual 170, 3) := by decide +kernel
theorem dX10_why_31 : decode cX10_why 31 = .ok (.ireturn, 1) := by decide +kernel
theorem dX10_why_32 : decode cX10_why 32 = .ok (.aload_n 0, 1) := by decide +kernel
theorem dX10_why_33 : decode cX10_why 33 = .ok (.getfield 52, 3) := by decide +kernel
theorem dX10_why_36 : decode cX10_why 36 = .ok (.iload_n 3, 1) := by decide +kernel
theorem dX10_why_37 : decode cX10_why 37 = .ok (.invokevirtual 173, 3) := by decide +kernel
theorem dX10_why_40 : decode cX10_why 40 = .ok (.aload_n 0, 1) := by decide +kernel
theorem dX10_why_41 : decode cX10_why 41 = .ok (.getfield 52, 3) := by decide +kernel
theorem dX10_why_44 : decode cX10_why 44 = .ok (.iload_n 1, 1) := by decide +kernel
theorem dX10_why_45 : decode cX10_why 45 = .ok (.iload_n 2, 1) := by decide +kernel
theorem dX10_why_46 : decode cX10_why 46 = .ok (.invokevirtual 177, 3) := by decide +kernel
theorem dX10_why_49 : decode cX10_why 49 = .ok (.ireturn, 1) := by decide +kernel
theorem dX10_type_0 : decode cX10_type 0 = .ok (.iload_n 3, 1) := by decide +kernel
theorem dX10_type_1 : decode cX10_type 1 = .ok (.iconst 1, 1) := by decide +kernel
theorem dX10_type_2 : decode cX10_type 2 = .ok (.if_icmp .lt 9, 3) := by decide +kernel
theorem dX10_type_5 : decode cX10_type 5 = .ok (.iload_n 3, 1) := by decide +kernel
theorem dX10_type_6 : decode cX10_type 6 = .ok (.bipush 8, 2) := by decide +kernel
theorem dX10_type_8 : decode cX10_type 8 = .ok (.if_icmp .le 10, 3) := by decide +kernel
theorem dX10_type_11 : decode cX10_type 11 = .ok (.aload_n 0, 1) := by decide +kernel
theorem dX10_type_12 : decode cX10_type 12 = .ok (.bipush (-2), 2) := by decide +kernel
theorem dX10_type_14 : decode cX10_type 14 = .ok (.invokevirtual 108, 3) := by decide +kernel
theorem dX10_type_17 : decode cX10_type 17 = .ok (.ireturn, 1) := by decide +kernel
theorem dX10_type_18 : decode cX10_type 18 = .ok (.aload_n 0, 1) := by decide +kernel
theorem dX10_type_19 : decode cX10_type 19 = .ok (.getfield 10, 3) := by decide +kernel
theorem dX10_type_22 : decode cX10_type 22 = .ok (.getfield 33, 3) := by decide +kernel
theorem dX10_type_25 : decode cX10_type 25 = .ok (.getfield 180, 3) := by decide +kernel
theorem dX10_type_28 : decode cX10_type 28 = .ok (.iload_n 3, 1) := by decide +kernel
theorem dX10_type_29 : decode cX10_type 29 = .ok (.iadd, 1) := by decide +kernel
theorem dX10_type_30 : decode cX10_type 30 = .ok (.sipush 200, 3) := by decide +kernel
theorem dX10_type_33 : decode cX10_type 33 = .ok (.if_icmp .gt 18, 3) := by decide +kernel
theorem dX10_type_36 : decode cX10_type 36 = .ok (.aload_n 0, 1) := by decide +kernel
theorem dX10_type_37 : decode cX10_type 37 = .ok (.getfield 10, 3) := by decide +kernel
theorem dX10_type_40 : decode cX10_type 40 = .ok (.getfield 33, 3) := by decide +kernel
theorem dX10_type_43 : decode cX10_type 43 = .ok (.lload_n 1, 1) := by decide +kernel
theorem dX10_type_44 : decode cX10_type 44 = .ok (.iload_n 3, 1) := by decide +kernel
theorem dX10_type_45 : decode cX10_type 45 = .ok (.invokevirtual 185, 3) := by decide +kernel
theorem dX10_type_48 : decode cX10_type 48 = .ok (.goto 9, 3) := by decide +kernel
theorem dX10_type_51 : decode cX10_type 51 = .ok (.aload_n 0, 1) := by decide +kernel
theorem dX10_type_52 : decode cX10_type 52 = .ok (.bipush (-4), 2) := by decide +kernel
theorem dX10_type_54 : decode cX10_type 54 = .ok (.invokevirtual 108, 3) := by decide +kernel
theorem dX10_type_57 : decode cX10_type 57 = .ok (.ireturn, 1) := by decide +kernel
theorem dX10_clear_0 : decode cX10_clear 0 = .ok (.aload_n 0, 1) := by decide +kernel
theorem dX10_clear_1 : decode cX10_clear 1 = .ok (.getfield 10, 3) := by decide +kernel
theorem dX10_clear_4 : decode cX10_clear 4 = .ok (.getfield 33, 3) := by decide +kernel
theorem dX10_clear_7 : decode cX10_clear 7 = .ok (.getfield 180, 3) := by decide +kernel
theorem dX10_clear_10 : decode cX10_clear 10 = .ok (.istore_n 1, 1) := by decide +kernel
theorem dX10_clear_11 : decode cX10_clear 11 = .ok (.aload_n 0, 1) := by decide +kernel
theorem dX10_clear_12 : decode cX10_clear 12 = .ok (.getfield 10, 3) := by decide +kernel
theorem dX10_clear_15 : decode cX10_clear 15 = .ok (.getfield 33, 3) := by decide +kernel
theorem dX10_clear_18 : decode cX10_clear 18 = .ok (.iconst 0, 1) := by decide +kernel
theorem dX10_clear_19 : decode cX10_clear 19 = .ok (.putfield 180, 3) := by decide +kernel
theorem dX10_clear_22 : decode cX10_clear 22 = .ok (.iload_n 1, 1) := by decide +kernel
theorem dX10_clear_23 : decode cX10_clear 23 = .ok (.ireturn, 1) := by decide +kernel
theorem dX10_read_0 : decode cX10_read 0 = .ok (.aload_n 0, 1) := by decide +kernel
theorem dX10_read_1 : decode cX10_read 1 = .ok (.getfield 40, 3) := by decide +kernel
theorem dX10_read_4 : decode cX10_read 4 = .ok (.invokevirtual 189, 3) := by decide +kernel
theorem dX10_read_7 : decode cX10_read 7 = .ok (.istore_n 1, 1) := by decide +kernel
theorem dX10_read_8 : decode cX10_read 8 = .ok (.iload_n 1, 1) := by decide +kernel
theorem dX10_read_9 : decode cX10_read 9 = .ok (.ifCond .lt 17, 3) := by decide +kernel
theorem dX10_read_12 : decode cX10_read 12 = .ok (.aload_n 0, 1) := by decide +kernel
theorem dX10_read_13 : decode cX10_read 13 = .ok (.getfield 10, 3) := by decide +kernel
theorem dX10_read_16 : decode cX10_read 16 = .ok (.getfield 46, 3) := by decide +kernel
theorem dX10_read_19 : decode cX10_read 19 = .ok (.aload_n 0, 1) := by decide +kernel
theorem dX10_read_20 : decode cX10_read 20 = .ok (.getfield 27, 3) := by decide +kernel
theorem dX10_read_23 : decode cX10_read 23 = .ok (.invokevirtual 193, 3) := by decide +kernel
theorem dX10_read_26 : decode cX10_read 26 = .ok (.iload_n 1, 1) := by decide +kernel
theorem dX10_read_27 : decode cX10_read 27 = .ok (.ireturn, 1) := by decide +kernel
theorem dX10_can_0 : decode cX10_can 0 = .ok (.aload_n 0, 1) := by decide +kernel
theorem dX10_can_1 : decode cX10_can 1 = .ok (.iload_n 1, 1) := by decide +kernel
theorem dX10_can_2 : decode cX10_can 2 = .ok (.iload_n 2, 1) := by decide +kernel
theorem dX10_can_3 : decode cX10_can 3 = .ok (.invokevirtual 166, 3) := by decide +kernel
theorem dX10_can_6 : decode cX10_can 6 = .ok (.ifCond .eq 19, 3) := by decide +kernel
theorem dX10_can_9 : decode cX10_can 9 = .ok (.iload_n 3, 1) := by decide +kernel
theorem dX10_can_10 : decode cX10_can 10 = .ok (.ifCond .lt 15, 3) := by decide +kernel
theorem dX10_can_13 : decode cX10_can 13 = .ok (.iload_n 3, 1) := by decide +kernel
theorem dX10_can_14 : decode cX10_can 14 = .ok (.bipush 8, 2) := by decide +kernel
theorem dX10_can_16 : decode cX10_can 16 = .ok (.if_icmp .gt 9, 3) := by decide +kernel
theorem dX10_can_19 : decode cX10_can 19 = .ok (.iload 4, 2) := by decide +kernel
theorem dX10_can_21 : decode cX10_can 21 = .ok (.iconst (-1), 1) := by decide +kernel
theorem dX10_can_22 : decode cX10_can 22 = .ok (.if_icmp .ge 12, 3) := by decide +kernel
theorem dX10_can_25 : decode cX10_can 25 = .ok (.aload_n 0, 1) := by decide +kernel
theorem dX10_can_26 : decode cX10_can 26 = .ok (.bipush (-2), 2) := by decide +kernel
theorem dX10_can_28 : decode cX10_can 28 = .ok (.bipush (-10), 2) := by decide +kernel
theorem dX10_can_30 : decode cX10_can 30 = .ok (.invokevirtual 170, 3) := by decide +kernel
theorem dX10_can_33 : decode cX10_can 33 = .ok (.ireturn, 1) := by decide +kernel
theorem dX10_can_34 : decode cX10_can 34 = .ok (.aload_n 0, 1) := by decide +kernel
theorem dX10_can_35 : decode cX10_can 35 = .ok (.getfield 52, 3) := by decide +kernel
theorem dX10_can_38 : decode cX10_can 38 = .ok (.iload_n 2, 1) := by decide +kernel
theorem dX10_can_39 : decode cX10_can 39 = .ok (.invokevirtual 173, 3) := by decide +kernel
theorem dX10_can_42 : decode cX10_can 42 = .ok (.iconst 0, 1) := by decide +kernel
theorem dX10_can_43 : decode cX10_can 43 = .ok (.istore 5, 2) := by decide +kernel
theorem dX10_can_45 : decode cX10_can 45 = .ok (.iconst 1, 1) := by decide +kernel
theorem dX10_can_46 : decode cX10_can 46 = .ok (.istore 6, 2) := by decide +kernel
theorem dX10_can_48 : decode cX10_can 48 = .ok (.iload 6, 2) := by decide +kernel
theorem dX10_can_50 : decode cX10_can 50 = .ok (.aload_n 0, 1) := by decide +kernel
theorem dX10_can_51 : decode cX10_can 51 = .ok (.getfield 10, 3) := by decide +kernel
theorem dX10_can_54 : decode cX10_can 54 = .ok (.getfield 46, 3) := by decide +kernel
theorem dX10_can_57 : decode cX10_can 57 = .ok (.invokevirtual 196, 3) := by decide +kernel
theorem dX10_can_60 : decode cX10_can 60 = .ok (.if_icmp .gt 48, 3) := by decide +kernel
theorem dX10_can_63 : decode cX10_can 63 = .ok (.iload_n 3, 1) := by decide +kernel
theorem dX10_can_64 : decode cX10_can 64 = .ok (.ifCond .eq 12, 3) := by decide +kernel
theorem dX10_can_67 : decode cX10_can 67 = .ok (.iload 6, 2) := by decide +kernel
theorem dX10_can_69 : decode cX10_can 69 = .ok (.invokestatic 199, 3) := by decide +kernel
theorem dX10_can_72 : decode cX10_can 72 = .ok (.iload_n 3, 1) := by decide +kernel
theorem dX10_can_73 : decode cX10_can 73 = .ok (.if_icmp .ne 29, 3) := by decide +kernel
theorem dX10_can_76 : decode cX10_can 76 = .ok (.aload_n 0, 1) := by decide +kernel
theorem dX10_can_77 : decode cX10_can 77 = .ok (.getfield 52, 3) := by decide +kernel
theorem dX10_can_80 : decode cX10_can 80 = .ok (.iload 6, 2) := by decide +kernel
theorem dX10_can_82 : decode cX10_can 82 = .ok (.iload_n 1, 1) := by decide +kernel
theorem dX10_can_83 : decode cX10_can 83 = .ok (.invokevirtual 177, 3) := by decide +kernel
theorem dX10_can_86 : decode cX10_can 86 = .ok (.ifCond .ne 16, 3) := by decide +kernel
theorem dX10_can_89 : decode cX10_can 89 = .ok (.iload 5, 2) := by decide +kernel
theorem dX10_can_91 : decode cX10_can 91 = .ok (.iload 4, 2) := by decide +kernel
theorem dX10_can_93 : decode cX10_can 93 = .ok (.if_icmp .ne 6, 3) := by decide +kernel
theorem dX10_can_96 : decode cX10_can 96 = .ok (.iload 6, 2) := by decide +kernel
theorem dX10_can_98 : decode cX10_can 98 = .ok (.ireturn, 1) := by decide +kernel
theorem dX10_can_99 : decode cX10_can 99 = .ok (.iinc 5 1, 3) := by decide +kernel
theorem dX10_can_102 : decode cX10_can 102 = .ok (.iinc 6 1, 3) := by decide +kernel
theorem dX10_can_105 : decode cX10_can 105 = .ok (.goto (-57), 3) := by decide +kernel
theorem dX10_can_108 : decode cX10_can 108 = .ok (.iload 4, 2) := by decide +kernel
theorem dX10_can_110 : decode cX10_can 110 = .ok (.iconst (-1), 1) := by decide +kernel
theorem dX10_can_111 : decode cX10_can 111 = .ok (.if_icmp .ne 8, 3) := by decide +kernel
theorem dX10_can_114 : decode cX10_can 114 = .ok (.iload 5, 2) := by decide +kernel
theorem dX10_can_116 : decode cX10_can 116 = .ok (.goto 5, 3) := by decide +kernel
theorem dX10_can_119 : decode cX10_can 119 = .ok (.bipush (-5), 2) := by decide +kernel
theorem dX10_can_121 : decode cX10_can 121 = .ok (.ireturn, 1) := by decide +kernel
theorem dX10_over_0 : decode cX10_over 0 = .ok (.aload_n 0, 1) := by decide +kernel
theorem dX10_over_1 : decode cX10_over 1 = .ok (.getfield 10, 3) := by decide +kernel
theorem dX10_over_4 : decode cX10_over 4 = .ok (.getfield 46, 3) := by decide +kernel
theorem dX10_over_7 : decode cX10_over 7 = .ok (.iload_n 1, 1) := by decide +kernel
theorem dX10_over_8 : decode cX10_over 8 = .ok (.invokevirtual 204, 3) := by decide +kernel
theorem dX10_over_11 : decode cX10_over 11 = .ok (.ifCond .eq 23, 3) := by decide +kernel
theorem dX10_over_14 : decode cX10_over 14 = .ok (.aload_n 0, 1) := by decide +kernel
theorem dX10_over_15 : decode cX10_over 15 = .ok (.iload_n 2, 1) := by decide +kernel
theorem dX10_over_16 : decode cX10_over 16 = .ok (.iload_n 3, 1) := by decide +kernel
theorem dX10_over_17 : decode cX10_over 17 = .ok (.invokevirtual 166, 3) := by decide +kernel
theorem dX10_over_20 : decode cX10_over 20 = .ok (.ifCond .eq 14, 3) := by decide +kernel
theorem dX10_over_23 : decode cX10_over 23 = .ok (.iload 4, 2) := by decide +kernel
theorem dX10_over_25 : decode cX10_over 25 = .ok (.ifCond .lt 9, 3) := by decide +kernel
theorem dX10_over_28 : decode cX10_over 28 = .ok (.iload 4, 2) := by decide +kernel
theorem dX10_over_30 : decode cX10_over 30 = .ok (.iconst 2, 1) := by decide +kernel
theorem dX10_over_31 : decode cX10_over 31 = .ok (.if_icmp .le 10, 3) := by decide +kernel
theorem dX10_over_34 : decode cX10_over 34 = .ok (.aload_n 0, 1) := by decide +kernel
theorem dX10_over_35 : decode cX10_over 35 = .ok (.bipush (-2), 2) := by decide +kernel
theorem dX10_over_37 : decode cX10_over 37 = .ok (.invokevirtual 108, 3) := by decide +kernel
theorem dX10_over_40 : decode cX10_over 40 = .ok (.ireturn, 1) := by decide +kernel
theorem dX10_over_41 : decode cX10_over 41 = .ok (.aload_n 0, 1) := by decide +kernel
theorem dX10_over_42 : decode cX10_over 42 = .ok (.getfield 52, 3) := by decide +kernel
theorem dX10_over_45 : decode cX10_over 45 = .ok (.iload_n 3, 1) := by decide +kernel
theorem dX10_over_46 : decode cX10_over 46 = .ok (.invokevirtual 173, 3) := by decide +kernel
theorem dX10_over_49 : decode cX10_over 49 = .ok (.aload_n 0, 1) := by decide +kernel
theorem dX10_over_50 : decode cX10_over 50 = .ok (.getfield 61, 3) := by decide +kernel
theorem dX10_over_53 : decode cX10_over 53 = .ok (.iload_n 1, 1) := by decide +kernel
theorem dX10_over_54 : decode cX10_over 54 = .ok (.iload_n 2, 1) := by decide +kernel
theorem dX10_over_55 : decode cX10_over 55 = .ok (.invokevirtual 207, 3) := by decide +kernel
theorem dX10_over_58 : decode cX10_over 58 = .ok (.iload 4, 2) := by decide +kernel
theorem dX10_over_60 : decode cX10_over 60 = .ok (.ifCond .ne 14, 3) := by decide +kernel
theorem dX10_over_63 : decode cX10_over 63 = .ok (.aload_n 0, 1) := by decide +kernel
theorem dX10_over_64 : decode cX10_over 64 = .ok (.getfield 61, 3) := by decide +kernel
theorem dX10_over_67 : decode cX10_over 67 = .ok (.getfield 211, 3) := by decide +kernel
theorem dX10_over_70 : decode cX10_over 70 = .ok (.invokestatic 199, 3) := by decide +kernel
theorem dX10_over_73 : decode cX10_over 73 = .ok (.ireturn, 1) := by decide +kernel
theorem dX10_over_74 : decode cX10_over 74 = .ok (.iload 4, 2) := by decide +kernel
theorem dX10_over_76 : decode cX10_over 76 = .ok (.iconst 1, 1) := by decide +kernel
theorem dX10_over_77 : decode cX10_over 77 = .ok (.if_icmp .ne 13, 3) := by decide +kernel
theorem dX10_over_80 : decode cX10_over 80 = .ok (.aload_n 0, 1) := by decide +kernel
theorem dX10_over_81 : decode cX10_over 81 = .ok (.getfield 61, 3) := by decide +kernel
theorem dX10_over_84 : decode cX10_over 84 = .ok (.getfield 214, 3) := by decide +kernel
theorem dX10_over_87 : decode cX10_over 87 = .ok (.goto 10, 3) := by decide +kernel
theorem dX10_over_90 : decode cX10_over 90 = .ok (.aload_n 0, 1) := by decide +kernel
theorem dX10_over_91 : decode cX10_over 91 = .ok (.getfield 61, 3) := by decide +kernel
theorem dX10_over_94 : decode cX10_over 94 = .ok (.getfield 211, 3) := by decide +kernel
theorem dX10_over_97 : decode cX10_over 97 = .ok (.ireturn, 1) := by decide +kernel
theorem dX10_parts_0 : decode cX10_parts 0 = .ok (.aload_n 0, 1) := by decide +kernel
theorem dX10_parts_1 : decode cX10_parts 1 = .ok (.getfield 10, 3) := by decide +kernel
theorem dX10_parts_4 : decode cX10_parts 4 = .ok (.getfield 46, 3) := by decide +kernel
theorem dX10_parts_7 : decode cX10_parts 7 = .ok (.iload_n 1, 1) := by decide +kernel
theorem dX10_parts_8 : decode cX10_parts 8 = .ok (.invokevirtual 204, 3) := by decide +kernel
theorem dX10_parts_11 : decode cX10_parts 11 = .ok (.ifCond .eq 17, 3) := by decide +kernel
theorem dX10_parts_14 : decode cX10_parts 14 = .ok (.aload_n 0, 1) := by decide +kernel
theorem dX10_parts_15 : decode cX10_parts 15 = .ok (.iload_n 2, 1) := by decide +kernel
theorem dX10_parts_16 : decode cX10_parts 16 = .ok (.iload_n 3, 1) := by decide +kernel
theorem dX10_parts_17 : decode cX10_parts 17 = .ok (.invokevirtual 166, 3) := by decide +kernel
theorem dX10_parts_20 : decode cX10_parts 20 = .ok (.ifCond .eq 8, 3) := by decide +kernel
theorem dX10_parts_23 : decode cX10_parts 23 = .ok (.iload 4, 2) := by decide +kernel
theorem dX10_parts_25 : decode cX10_parts 25 = .ok (.ifCond .ge 12, 3) := by decide +kernel
theorem dX10_parts_28 : decode cX10_parts 28 = .ok (.aload_n 0, 1) := by decide +kernel
theorem dX10_parts_29 : decode cX10_parts 29 = .ok (.bipush (-2), 2) := by decide +kernel
theorem dX10_parts_31 : decode cX10_parts 31 = .ok (.bipush (-10), 2) := by decide +kernel
theorem dX10_parts_33 : decode cX10_parts 33 = .ok (.invokevirtual 170, 3) := by decide +kernel
theorem dX10_parts_36 : decode cX10_parts 36 = .ok (.ireturn, 1) := by decide +kernel
theorem dX10_parts_37 : decode cX10_parts 37 = .ok (.aload_n 0, 1) := by decide +kernel
theorem dX10_parts_38 : decode cX10_parts 38 = .ok (.getfield 52, 3) := by decide +kernel
theorem dX10_parts_41 : decode cX10_parts 41 = .ok (.iload_n 3, 1) := by decide +kernel
theorem dX10_parts_42 : decode cX10_parts 42 = .ok (.invokevirtual 173, 3) := by decide +kernel
theorem dX10_parts_45 : decode cX10_parts 45 = .ok (.aload_n 0, 1) := by decide +kernel
theorem dX10_parts_46 : decode cX10_parts 46 = .ok (.getfield 61, 3) := by decide +kernel
theorem dX10_parts_49 : decode cX10_parts 49 = .ok (.iload_n 1, 1) := by decide +kernel
theorem dX10_parts_50 : decode cX10_parts 50 = .ok (.iload_n 2, 1) := by decide +kernel
theorem dX10_parts_51 : decode cX10_parts 51 = .ok (.invokevirtual 207, 3) := by decide +kernel
theorem dX10_parts_54 : decode cX10_parts 54 = .ok (.iload 4, 2) := by decide +kernel
theorem dX10_parts_56 : decode cX10_parts 56 = .ok (.aload_n 0, 1) := by decide +kernel
theorem dX10_parts_57 : decode cX10_parts 57 = .ok (.getfield 61, 3) := by decide +kernel
theorem dX10_parts_60 : decode cX10_parts 60 = .ok (.getfield 214, 3) := by decide +kernel
theorem dX10_parts_63 : decode cX10_parts 63 = .ok (.if_icmp .ge 16, 3) := by decide +kernel
theorem dX10_parts_66 : decode cX10_parts 66 = .ok (.aload_n 0, 1) := by decide +kernel
theorem dX10_parts_67 : decode cX10_parts 67 = .ok (.getfield 61, 3) := by decide +kernel
theorem dX10_parts_70 : decode cX10_parts 70 = .ok (.getfield 217, 3) := by decide +kernel
theorem dX10_parts_73 : decode cX10_parts 73 = .ok (.iload 4, 2) := by decide +kernel
theorem dX10_parts_75 : decode cX10_parts 75 = .ok (.iaload, 1) := by decide +kernel
theorem dX10_parts_76 : decode cX10_parts 76 = .ok (.goto 5, 3) := by decide +kernel
theorem dX10_parts_79 : decode cX10_parts 79 = .ok (.bipush (-5), 2) := by decide +kernel
theorem dX10_parts_81 : decode cX10_parts 81 = .ok (.ireturn, 1) := by decide +kernel
theorem dX10_lent_0 : decode cX10_lent 0 = .ok (.aload_n 0, 1) := by decide +kernel
theorem dX10_lent_1 : decode cX10_lent 1 = .ok (.getfield 10, 3) := by decide +kernel
theorem dX10_lent_4 : decode cX10_lent 4 = .ok (.getfield 46, 3) := by decide +kernel
theorem dX10_lent_7 : decode cX10_lent 7 = .ok (.iload_n 1, 1) := by decide +kernel
theorem dX10_lent_8 : decode cX10_lent 8 = .ok (.invokevirtual 204, 3) := by decide +kernel
theorem dX10_lent_11 : decode cX10_lent 11 = .ok (.ifCond .eq 12, 3) := by decide +kernel
theorem dX10_lent_14 : decode cX10_lent 14 = .ok (.aload_n 0, 1) := by decide +kernel
theorem dX10_lent_15 : decode cX10_lent 15 = .ok (.iload_n 2, 1) := by decide +kernel
theorem dX10_lent_16 : decode cX10_lent 16 = .ok (.iload_n 3, 1) := by decide +kernel
theorem dX10_lent_17 : decode cX10_lent 17 = .ok (.invokevirtual 166, 3) := by decide +kernel
theorem dX10_lent_20 : decode cX10_lent 20 = .ok (.ifCond .ne 10, 3) := by decide +kernel
theorem dX10_lent_23 : decode cX10_lent 23 = .ok (.aload_n 0, 1) := by decide +kernel
theorem dX10_lent_24 : decode cX10_lent 24 = .ok (.bipush (-2), 2) := by decide +kernel
theorem dX10_lent_26 : decode cX10_lent 26 = .ok (.invokevirtual 108, 3) := by decide +kernel
theorem dX10_lent_29 : decode cX10_lent 29 = .ok (.ireturn, 1) := by decide +kernel
theorem dX10_lent_30 : decode cX10_lent 30 = .ok (.aload_n 0, 1) := by decide +kernel
theorem dX10_lent_31 : decode cX10_lent 31 = .ok (.getfield 52, 3) := by decide +kernel
theorem dX10_lent_34 : decode cX10_lent 34 = .ok (.iload_n 3, 1) := by decide +kernel
theorem dX10_lent_35 : decode cX10_lent 35 = .ok (.invokevirtual 173, 3) := by decide +kernel
theorem dX10_lent_38 : decode cX10_lent 38 = .ok (.iconst (-1), 1) := by decide +kernel
theorem dX10_lent_39 : decode cX10_lent 39 = .ok (.istore 4, 2) := by decide +kernel
theorem dX10_lent_41 : decode cX10_lent 41 = .ok (.bipush 9, 2) := by decide +kernel
theorem dX10_lent_43 : decode cX10_lent 43 = .ok (.istore 5, 2) := by decide +kernel
theorem dX10_lent_45 : decode cX10_lent 45 = .ok (.iconst 1, 1) := by decide +kernel
theorem dX10_lent_46 : decode cX10_lent 46 = .ok (.istore 6, 2) := by decide +kernel
theorem dX10_lent_48 : decode cX10_lent 48 = .ok (.iload 6, 2) := by decide +kernel
theorem dX10_lent_50 : decode cX10_lent 50 = .ok (.aload_n 0, 1) := by decide +kernel
theorem dX10_lent_51 : decode cX10_lent 51 = .ok (.getfield 10, 3) := by decide +kernel
theorem dX10_lent_54 : decode cX10_lent 54 = .ok (.getfield 46, 3) := by decide +kernel
theorem dX10_lent_57 : decode cX10_lent 57 = .ok (.invokevirtual 196, 3) := by decide +kernel
theorem dX10_lent_60 : decode cX10_lent 60 = .ok (.if_icmp .gt 71, 3) := by decide +kernel
theorem dX10_lent_63 : decode cX10_lent 63 = .ok (.iload 6, 2) := by decide +kernel
theorem dX10_lent_65 : decode cX10_lent 65 = .ok (.iload_n 1, 1) := by decide +kernel
theorem dX10_lent_66 : decode cX10_lent 66 = .ok (.iconst (-1), 1) := by decide +kernel
theorem dX10_lent_67 : decode cX10_lent 67 = .ok (.ixor, 1) := by decide +kernel
end
section
theorem dX10_lent_68 : decode cX10_lent 68 = .ok (.iand, 1) := by decide +kernel
theorem dX10_lent_69 : decode cX10_lent 69 = .ok (.istore 7, 2) := by decide +kernel
theorem dX10_lent_71 : decode cX10_lent 71 = .ok (.iload 7, 2) := by decide +kernel
theorem dX10_lent_73 : decode cX10_lent 73 = .ok (.invokestatic 199, 3) := by decide +kernel
theorem dX10_lent_76 : decode cX10_lent 76 = .ok (.iload 5, 2) := by decide +kernel
theorem dX10_lent_78 : decode cX10_lent 78 = .ok (.if_icmp .ge 7, 3) := by decide +kernel
theorem dX10_lent_81 : decode cX10_lent 81 = .ok (.iconst 1, 1) := by decide +kernel
theorem dX10_lent_82 : decode cX10_lent 82 = .ok (.goto 4, 3) := by decide +kernel
theorem dX10_lent_85 : decode cX10_lent 85 = .ok (.iconst 0, 1) := by decide +kernel
theorem dX10_lent_86 : decode cX10_lent 86 = .ok (.istore 8, 2) := by decide +kernel
theorem dX10_lent_88 : decode cX10_lent 88 = .ok (.iload 6, 2) := by decide +kernel
theorem dX10_lent_90 : decode cX10_lent 90 = .ok (.iload_n 1, 1) := by decide +kernel
theorem dX10_lent_91 : decode cX10_lent 91 = .ok (.iand, 1) := by decide +kernel
theorem dX10_lent_92 : decode cX10_lent 92 = .ok (.iload_n 1, 1) := by decide +kernel
theorem dX10_lent_93 : decode cX10_lent 93 = .ok (.if_icmp .ne 32, 3) := by decide +kernel
theorem dX10_lent_96 : decode cX10_lent 96 = .ok (.iload 8, 2) := by decide +kernel
theorem dX10_lent_98 : decode cX10_lent 98 = .ok (.ifCond .eq 27, 3) := by decide +kernel
theorem dX10_lent_101 : decode cX10_lent 101 = .ok (.aload_n 0, 1) := by decide +kernel
theorem dX10_lent_102 : decode cX10_lent 102 = .ok (.getfield 52, 3) := by decide +kernel
theorem dX10_lent_105 : decode cX10_lent 105 = .ok (.iload 6, 2) := by decide +kernel
theorem dX10_lent_107 : decode cX10_lent 107 = .ok (.iload_n 2, 1) := by decide +kernel
theorem dX10_lent_108 : decode cX10_lent 108 = .ok (.invokevirtual 177, 3) := by decide +kernel
theorem dX10_lent_111 : decode cX10_lent 111 = .ok (.ifCond .ne 14, 3) := by decide +kernel
theorem dX10_lent_114 : decode cX10_lent 114 = .ok (.iload 7, 2) := by decide +kernel
theorem dX10_lent_116 : decode cX10_lent 116 = .ok (.istore 4, 2) := by decide +kernel
theorem dX10_lent_118 : decode cX10_lent 118 = .ok (.iload 7, 2) := by decide +kernel
theorem dX10_lent_120 : decode cX10_lent 120 = .ok (.invokestatic 199, 3) := by decide +kernel
theorem dX10_lent_123 : decode cX10_lent 123 = .ok (.istore 5, 2) := by decide +kernel
theorem dX10_lent_125 : decode cX10_lent 125 = .ok (.iinc 6 1, 3) := by decide +kernel
theorem dX10_lent_128 : decode cX10_lent 128 = .ok (.goto (-80), 3) := by decide +kernel
theorem dX10_lent_131 : decode cX10_lent 131 = .ok (.iload 4, 2) := by decide +kernel
theorem dX10_lent_133 : decode cX10_lent 133 = .ok (.ireturn, 1) := by decide +kernel
theorem dX10_worth_0 : decode cX10_worth 0 = .ok (.aload_n 0, 1) := by decide +kernel
theorem dX10_worth_1 : decode cX10_worth 1 = .ok (.getfield 10, 3) := by decide +kernel
theorem dX10_worth_4 : decode cX10_worth 4 = .ok (.getfield 46, 3) := by decide +kernel
theorem dX10_worth_7 : decode cX10_worth 7 = .ok (.iload_n 1, 1) := by decide +kernel
theorem dX10_worth_8 : decode cX10_worth 8 = .ok (.invokevirtual 147, 3) := by decide +kernel
theorem dX10_worth_11 : decode cX10_worth 11 = .ok (.ifCond .eq 12, 3) := by decide +kernel
theorem dX10_worth_14 : decode cX10_worth 14 = .ok (.aload_n 0, 1) := by decide +kernel
theorem dX10_worth_15 : decode cX10_worth 15 = .ok (.iload_n 2, 1) := by decide +kernel
theorem dX10_worth_16 : decode cX10_worth 16 = .ok (.iload_n 3, 1) := by decide +kernel
theorem dX10_worth_17 : decode cX10_worth 17 = .ok (.invokevirtual 166, 3) := by decide +kernel
theorem dX10_worth_20 : decode cX10_worth 20 = .ok (.ifCond .ne 10, 3) := by decide +kernel
theorem dX10_worth_23 : decode cX10_worth 23 = .ok (.aload_n 0, 1) := by decide +kernel
theorem dX10_worth_24 : decode cX10_worth 24 = .ok (.bipush (-2), 2) := by decide +kernel
theorem dX10_worth_26 : decode cX10_worth 26 = .ok (.invokevirtual 108, 3) := by decide +kernel
theorem dX10_worth_29 : decode cX10_worth 29 = .ok (.ireturn, 1) := by decide +kernel
theorem dX10_worth_30 : decode cX10_worth 30 = .ok (.aload_n 0, 1) := by decide +kernel
theorem dX10_worth_31 : decode cX10_worth 31 = .ok (.getfield 52, 3) := by decide +kernel
theorem dX10_worth_34 : decode cX10_worth 34 = .ok (.iload_n 3, 1) := by decide +kernel
theorem dX10_worth_35 : decode cX10_worth 35 = .ok (.invokevirtual 173, 3) := by decide +kernel
theorem dX10_worth_38 : decode cX10_worth 38 = .ok (.iconst 0, 1) := by decide +kernel
theorem dX10_worth_39 : decode cX10_worth 39 = .ok (.istore 4, 2) := by decide +kernel
theorem dX10_worth_41 : decode cX10_worth 41 = .ok (.iconst 1, 1) := by decide +kernel
theorem dX10_worth_42 : decode cX10_worth 42 = .ok (.istore 5, 2) := by decide +kernel
theorem dX10_worth_44 : decode cX10_worth 44 = .ok (.iload 5, 2) := by decide +kernel
theorem dX10_worth_46 : decode cX10_worth 46 = .ok (.aload_n 0, 1) := by decide +kernel
theorem dX10_worth_47 : decode cX10_worth 47 = .ok (.getfield 10, 3) := by decide +kernel
theorem dX10_worth_50 : decode cX10_worth 50 = .ok (.getfield 46, 3) := by decide +kernel
theorem dX10_worth_53 : decode cX10_worth 53 = .ok (.invokevirtual 196, 3) := by decide +kernel
theorem dX10_worth_56 : decode cX10_worth 56 = .ok (.if_icmp .gt 34, 3) := by decide +kernel
theorem dX10_worth_59 : decode cX10_worth 59 = .ok (.iload 5, 2) := by decide +kernel
theorem dX10_worth_61 : decode cX10_worth 61 = .ok (.iload_n 1, 1) := by decide +kernel
theorem dX10_worth_62 : decode cX10_worth 62 = .ok (.ishr, 1) := by decide +kernel
theorem dX10_worth_63 : decode cX10_worth 63 = .ok (.iconst 1, 1) := by decide +kernel
theorem dX10_worth_64 : decode cX10_worth 64 = .ok (.iand, 1) := by decide +kernel
theorem dX10_worth_65 : decode cX10_worth 65 = .ok (.ifCond .eq 19, 3) := by decide +kernel
theorem dX10_worth_68 : decode cX10_worth 68 = .ok (.aload_n 0, 1) := by decide +kernel
theorem dX10_worth_69 : decode cX10_worth 69 = .ok (.getfield 52, 3) := by decide +kernel
theorem dX10_worth_72 : decode cX10_worth 72 = .ok (.iload 5, 2) := by decide +kernel
theorem dX10_worth_74 : decode cX10_worth 74 = .ok (.iload_n 2, 1) := by decide +kernel
theorem dX10_worth_75 : decode cX10_worth 75 = .ok (.invokevirtual 177, 3) := by decide +kernel
theorem dX10_worth_78 : decode cX10_worth 78 = .ok (.ifCond .ne 6, 3) := by decide +kernel
theorem dX10_worth_81 : decode cX10_worth 81 = .ok (.iinc 4 1, 3) := by decide +kernel
theorem dX10_worth_84 : decode cX10_worth 84 = .ok (.iinc 5 1, 3) := by decide +kernel
theorem dX10_worth_87 : decode cX10_worth 87 = .ok (.goto (-43), 3) := by decide +kernel
theorem dX10_worth_90 : decode cX10_worth 90 = .ok (.iload 4, 2) := by decide +kernel
theorem dX10_worth_92 : decode cX10_worth 92 = .ok (.ireturn, 1) := by decide +kernel
theorem dX10_dates_0 : decode cX10_dates 0 = .ok (.aload_n 0, 1) := by decide +kernel
theorem dX10_dates_1 : decode cX10_dates 1 = .ok (.getfield 10, 3) := by decide +kernel
theorem dX10_dates_4 : decode cX10_dates 4 = .ok (.getfield 46, 3) := by decide +kernel
theorem dX10_dates_7 : decode cX10_dates 7 = .ok (.iload_n 1, 1) := by decide +kernel
theorem dX10_dates_8 : decode cX10_dates 8 = .ok (.invokevirtual 163, 3) := by decide +kernel
theorem dX10_dates_11 : decode cX10_dates 11 = .ok (.ifCond .eq 24, 3) := by decide +kernel
theorem dX10_dates_14 : decode cX10_dates 14 = .ok (.aload_n 0, 1) := by decide +kernel
theorem dX10_dates_15 : decode cX10_dates 15 = .ok (.getfield 10, 3) := by decide +kernel
theorem dX10_dates_18 : decode cX10_dates 18 = .ok (.getfield 46, 3) := by decide +kernel
theorem dX10_dates_21 : decode cX10_dates 21 = .ok (.iload_n 2, 1) := by decide +kernel
theorem dX10_dates_22 : decode cX10_dates 22 = .ok (.invokevirtual 220, 3) := by decide +kernel
theorem dX10_dates_25 : decode cX10_dates 25 = .ok (.ifCond .eq 10, 3) := by decide +kernel
theorem dX10_dates_28 : decode cX10_dates 28 = .ok (.iload_n 3, 1) := by decide +kernel
theorem dX10_dates_29 : decode cX10_dates 29 = .ok (.invokestatic 223, 3) := by decide +kernel
theorem dX10_dates_32 : decode cX10_dates 32 = .ok (.ifCond .ne 10, 3) := by decide +kernel
theorem dX10_dates_35 : decode cX10_dates 35 = .ok (.aload_n 0, 1) := by decide +kernel
theorem dX10_dates_36 : decode cX10_dates 36 = .ok (.bipush (-2), 2) := by decide +kernel
theorem dX10_dates_38 : decode cX10_dates 38 = .ok (.invokevirtual 108, 3) := by decide +kernel
theorem dX10_dates_41 : decode cX10_dates 41 = .ok (.ireturn, 1) := by decide +kernel
theorem dX10_dates_42 : decode cX10_dates 42 = .ok (.aload_n 0, 1) := by decide +kernel
theorem dX10_dates_43 : decode cX10_dates 43 = .ok (.getfield 52, 3) := by decide +kernel
theorem dX10_dates_46 : decode cX10_dates 46 = .ok (.iload_n 1, 1) := by decide +kernel
theorem dX10_dates_47 : decode cX10_dates 47 = .ok (.iload_n 2, 1) := by decide +kernel
theorem dX10_dates_48 : decode cX10_dates 48 = .ok (.iload_n 3, 1) := by decide +kernel
theorem dX10_dates_49 : decode cX10_dates 49 = .ok (.invokevirtual 226, 3) := by decide +kernel
theorem dX10_dates_52 : decode cX10_dates 52 = .ok (.ireturn, 1) := by decide +kernel
theorem dX10_next_0 : decode cX10_next 0 = .ok (.aload_n 0, 1) := by decide +kernel
theorem dX10_next_1 : decode cX10_next 1 = .ok (.getfield 10, 3) := by decide +kernel
theorem dX10_next_4 : decode cX10_next 4 = .ok (.getfield 46, 3) := by decide +kernel
theorem dX10_next_7 : decode cX10_next 7 = .ok (.iload_n 1, 1) := by decide +kernel
theorem dX10_next_8 : decode cX10_next 8 = .ok (.invokevirtual 163, 3) := by decide +kernel
theorem dX10_next_11 : decode cX10_next 11 = .ok (.ifCond .eq 12, 3) := by decide +kernel
theorem dX10_next_14 : decode cX10_next 14 = .ok (.aload_n 0, 1) := by decide +kernel
theorem dX10_next_15 : decode cX10_next 15 = .ok (.iload_n 2, 1) := by decide +kernel
theorem dX10_next_16 : decode cX10_next 16 = .ok (.iload_n 3, 1) := by decide +kernel
theorem dX10_next_17 : decode cX10_next 17 = .ok (.invokevirtual 166, 3) := by decide +kernel
theorem dX10_next_20 : decode cX10_next 20 = .ok (.ifCond .ne 10, 3) := by decide +kernel
theorem dX10_next_23 : decode cX10_next 23 = .ok (.aload_n 0, 1) := by decide +kernel
theorem dX10_next_24 : decode cX10_next 24 = .ok (.bipush (-2), 2) := by decide +kernel
theorem dX10_next_26 : decode cX10_next 26 = .ok (.invokevirtual 108, 3) := by decide +kernel
theorem dX10_next_29 : decode cX10_next 29 = .ok (.ireturn, 1) := by decide +kernel
theorem dX10_next_30 : decode cX10_next 30 = .ok (.aload_n 0, 1) := by decide +kernel
theorem dX10_next_31 : decode cX10_next 31 = .ok (.getfield 52, 3) := by decide +kernel
theorem dX10_next_34 : decode cX10_next 34 = .ok (.iload_n 1, 1) := by decide +kernel
theorem dX10_next_35 : decode cX10_next 35 = .ok (.iload_n 2, 1) := by decide +kernel
theorem dX10_next_36 : decode cX10_next 36 = .ok (.iload_n 3, 1) := by decide +kernel
theorem dX10_next_37 : decode cX10_next 37 = .ok (.invokevirtual 229, 3) := by decide +kernel
theorem dX10_next_40 : decode cX10_next 40 = .ok (.ireturn, 1) := by decide +kernel
theorem dX10_wedding_0 : decode cX10_wedding 0 = .ok (.aload_n 0, 1) := by decide +kernel
theorem dX10_wedding_1 : decode cX10_wedding 1 = .ok (.getfield 10, 3) := by decide +kernel
theorem dX10_wedding_4 : decode cX10_wedding 4 = .ok (.getfield 46, 3) := by decide +kernel
theorem dX10_wedding_7 : decode cX10_wedding 7 = .ok (.iload_n 1, 1) := by decide +kernel
theorem dX10_wedding_8 : decode cX10_wedding 8 = .ok (.invokevirtual 204, 3) := by decide +kernel
theorem dX10_wedding_11 : decode cX10_wedding 11 = .ok (.ifCond .eq 33, 3) := by decide +kernel
theorem dX10_wedding_14 : decode cX10_wedding 14 = .ok (.aload_n 0, 1) := by decide +kernel
theorem dX10_wedding_15 : decode cX10_wedding 15 = .ok (.getfield 10, 3) := by decide +kernel
theorem dX10_wedding_18 : decode cX10_wedding 18 = .ok (.getfield 46, 3) := by decide +kernel
theorem dX10_wedding_21 : decode cX10_wedding 21 = .ok (.iload_n 2, 1) := by decide +kernel
theorem dX10_wedding_22 : decode cX10_wedding 22 = .ok (.invokevirtual 204, 3) := by decide +kernel
theorem dX10_wedding_25 : decode cX10_wedding 25 = .ok (.ifCond .eq 19, 3) := by decide +kernel
theorem dX10_wedding_28 : decode cX10_wedding 28 = .ok (.iload_n 1, 1) := by decide +kernel
theorem dX10_wedding_29 : decode cX10_wedding 29 = .ok (.iload_n 2, 1) := by decide +kernel
theorem dX10_wedding_30 : decode cX10_wedding 30 = .ok (.iand, 1) := by decide +kernel
theorem dX10_wedding_31 : decode cX10_wedding 31 = .ok (.ifCond .ne 13, 3) := by decide +kernel
theorem dX10_wedding_34 : decode cX10_wedding 34 = .ok (.aload_n 0, 1) := by decide +kernel
theorem dX10_wedding_35 : decode cX10_wedding 35 = .ok (.iload_n 3, 1) := by decide +kernel
theorem dX10_wedding_36 : decode cX10_wedding 36 = .ok (.iload 4, 2) := by decide +kernel
theorem dX10_wedding_38 : decode cX10_wedding 38 = .ok (.invokevirtual 166, 3) := by decide +kernel
theorem dX10_wedding_41 : decode cX10_wedding 41 = .ok (.ifCond .ne 10, 3) := by decide +kernel
theorem dX10_wedding_44 : decode cX10_wedding 44 = .ok (.aload_n 0, 1) := by decide +kernel
theorem dX10_wedding_45 : decode cX10_wedding 45 = .ok (.bipush (-2), 2) := by decide +kernel
theorem dX10_wedding_47 : decode cX10_wedding 47 = .ok (.invokevirtual 108, 3) := by decide +kernel
theorem dX10_wedding_50 : decode cX10_wedding 50 = .ok (.ireturn, 1) := by decide +kernel
theorem dX10_wedding_51 : decode cX10_wedding 51 = .ok (.aload_n 0, 1) := by decide +kernel
theorem dX10_wedding_52 : decode cX10_wedding 52 = .ok (.getfield 61, 3) := by decide +kernel
theorem dX10_wedding_55 : decode cX10_wedding 55 = .ok (.iload_n 1, 1) := by decide +kernel
theorem dX10_wedding_56 : decode cX10_wedding 56 = .ok (.iload_n 2, 1) := by decide +kernel
theorem dX10_wedding_57 : decode cX10_wedding 57 = .ok (.iload_n 3, 1) := by decide +kernel
theorem dX10_wedding_58 : decode cX10_wedding 58 = .ok (.iload 4, 2) := by decide +kernel
theorem dX10_wedding_60 : decode cX10_wedding 60 = .ok (.invokevirtual 232, 3) := by decide +kernel
theorem dX10_wedding_63 : decode cX10_wedding 63 = .ok (.ireturn, 1) := by decide +kernel
theorem dX10_crowd_0 : decode cX10_crowd 0 = .ok (.iload_n 1, 1) := by decide +kernel
theorem dX10_crowd_1 : decode cX10_crowd 1 = .ok (.ifCond .lt 19, 3) := by decide +kernel
theorem dX10_crowd_4 : decode cX10_crowd 4 = .ok (.iload_n 1, 1) := by decide +kernel
theorem dX10_crowd_5 : decode cX10_crowd 5 = .ok (.bipush 10, 2) := by decide +kernel
theorem dX10_crowd_7 : decode cX10_crowd 7 = .ok (.if_icmp .ge 13, 3) := by decide +kernel
theorem dX10_crowd_10 : decode cX10_crowd 10 = .ok (.iload_n 2, 1) := by decide +kernel
theorem dX10_crowd_11 : decode cX10_crowd 11 = .ok (.ifCond .lt 9, 3) := by decide +kernel
theorem dX10_crowd_14 : decode cX10_crowd 14 = .ok (.iload_n 2, 1) := by decide +kernel
theorem dX10_crowd_15 : decode cX10_crowd 15 = .ok (.bipush 6, 2) := by decide +kernel
theorem dX10_crowd_17 : decode cX10_crowd 17 = .ok (.if_icmp .le 10, 3) := by decide +kernel
theorem dX10_crowd_20 : decode cX10_crowd 20 = .ok (.aload_n 0, 1) := by decide +kernel
theorem dX10_crowd_21 : decode cX10_crowd 21 = .ok (.bipush (-2), 2) := by decide +kernel
theorem dX10_crowd_23 : decode cX10_crowd 23 = .ok (.invokevirtual 108, 3) := by decide +kernel
theorem dX10_crowd_26 : decode cX10_crowd 26 = .ok (.ireturn, 1) := by decide +kernel
theorem dX10_crowd_27 : decode cX10_crowd 27 = .ok (.aload_n 0, 1) := by decide +kernel
theorem dX10_crowd_28 : decode cX10_crowd 28 = .ok (.getfield 10, 3) := by decide +kernel
theorem dX10_crowd_31 : decode cX10_crowd 31 = .ok (.getfield 67, 3) := by decide +kernel
theorem dX10_crowd_34 : decode cX10_crowd 34 = .ok (.iload_n 1, 1) := by decide +kernel
theorem dX10_crowd_35 : decode cX10_crowd 35 = .ok (.iaload, 1) := by decide +kernel
theorem dX10_crowd_36 : decode cX10_crowd 36 = .ok (.istore_n 3, 1) := by decide +kernel
theorem dX10_crowd_37 : decode cX10_crowd 37 = .ok (.aload_n 0, 1) := by decide +kernel
theorem dX10_crowd_38 : decode cX10_crowd 38 = .ok (.getfield 10, 3) := by decide +kernel
theorem dX10_crowd_41 : decode cX10_crowd 41 = .ok (.getfield 67, 3) := by decide +kernel
theorem dX10_crowd_44 : decode cX10_crowd 44 = .ok (.iload_n 1, 1) := by decide +kernel
theorem dX10_crowd_45 : decode cX10_crowd 45 = .ok (.iload_n 2, 1) := by decide +kernel
theorem dX10_crowd_46 : decode cX10_crowd 46 = .ok (.iastore, 1) := by decide +kernel
theorem dX10_crowd_47 : decode cX10_crowd 47 = .ok (.iload_n 3, 1) := by decide +kernel
theorem dX10_crowd_48 : decode cX10_crowd 48 = .ok (.ireturn, 1) := by decide +kernel
theorem dX10_tens_0 : decode cX10_tens 0 = .ok (.iload_n 1, 1) := by decide +kernel
theorem dX10_tens_1 : decode cX10_tens 1 = .ok (.ifCond .lt 9, 3) := by decide +kernel
theorem dX10_tens_4 : decode cX10_tens 4 = .ok (.iload_n 1, 1) := by decide +kernel
theorem dX10_tens_5 : decode cX10_tens 5 = .ok (.bipush 60, 2) := by decide +kernel
theorem dX10_tens_7 : decode cX10_tens 7 = .ok (.if_icmp .le 11, 3) := by decide +kernel
theorem dX10_tens_10 : decode cX10_tens 10 = .ok (.aload_n 0, 1) := by decide +kernel
theorem dX10_tens_11 : decode cX10_tens 11 = .ok (.bipush (-2), 2) := by decide +kernel
theorem dX10_tens_13 : decode cX10_tens 13 = .ok (.invokevirtual 108, 3) := by decide +kernel
theorem dX10_tens_16 : decode cX10_tens 16 = .ok (.i2l, 1) := by decide +kernel
theorem dX10_tens_17 : decode cX10_tens 17 = .ok (.lreturn, 1) := by decide +kernel
theorem dX10_tens_18 : decode cX10_tens 18 = .ok (.aload_n 0, 1) := by decide +kernel
theorem dX10_tens_19 : decode cX10_tens 19 = .ok (.getfield 74, 3) := by decide +kernel
theorem dX10_tens_22 : decode cX10_tens 22 = .ok (.invokevirtual 236, 3) := by decide +kernel
theorem dX10_tens_25 : decode cX10_tens 25 = .ok (.pop, 1) := by decide +kernel
theorem dX10_tens_26 : decode cX10_tens 26 = .ok (.aload_n 0, 1) := by decide +kernel
theorem dX10_tens_27 : decode cX10_tens 27 = .ok (.getfield 74, 3) := by decide +kernel
theorem dX10_tens_30 : decode cX10_tens 30 = .ok (.iload_n 1, 1) := by decide +kernel
theorem dX10_tens_31 : decode cX10_tens 31 = .ok (.invokevirtual 239, 3) := by decide +kernel
theorem dX10_tens_34 : decode cX10_tens 34 = .ok (.lreturn, 1) := by decide +kernel
theorem dX10_spare_0 : decode cX10_spare 0 = .ok (.aload_n 0, 1) := by decide +kernel
theorem dX10_spare_1 : decode cX10_spare 1 = .ok (.getfield 74, 3) := by decide +kernel
theorem dX10_spare_4 : decode cX10_spare 4 = .ok (.invokevirtual 236, 3) := by decide +kernel
theorem dX10_spare_7 : decode cX10_spare 7 = .ok (.istore_n 1, 1) := by decide +kernel
theorem dX10_spare_8 : decode cX10_spare 8 = .ok (.iload_n 1, 1) := by decide +kernel
theorem dX10_spare_9 : decode cX10_spare 9 = .ok (.istore_n 2, 1) := by decide +kernel
theorem dX10_spare_10 : decode cX10_spare 10 = .ok (.iload_n 2, 1) := by decide +kernel
theorem dX10_spare_11 : decode cX10_spare 11 = .ok (.iconst 1, 1) := by decide +kernel
theorem dX10_spare_12 : decode cX10_spare 12 = .ok (.if_icmp .lt 26, 3) := by decide +kernel
theorem dX10_spare_15 : decode cX10_spare 15 = .ok (.aload_n 0, 1) := by decide +kernel
theorem dX10_spare_16 : decode cX10_spare 16 = .ok (.getfield 74, 3) := by decide +kernel
theorem dX10_spare_19 : decode cX10_spare 19 = .ok (.iload_n 2, 1) := by decide +kernel
theorem dX10_spare_20 : decode cX10_spare 20 = .ok (.invokevirtual 239, 3) := by decide +kernel
theorem dX10_spare_23 : decode cX10_spare 23 = .ok (.lconst 0, 1) := by decide +kernel
theorem dX10_spare_24 : decode cX10_spare 24 = .ok (.lcmp, 1) := by decide +kernel
theorem dX10_spare_25 : decode cX10_spare 25 = .ok (.ifCond .le 7, 3) := by decide +kernel
theorem dX10_spare_28 : decode cX10_spare 28 = .ok (.iload_n 1, 1) := by decide +kernel
theorem dX10_spare_29 : decode cX10_spare 29 = .ok (.iload_n 2, 1) := by decide +kernel
theorem dX10_spare_30 : decode cX10_spare 30 = .ok (.isub, 1) := by decide +kernel
theorem dX10_spare_31 : decode cX10_spare 31 = .ok (.ireturn, 1) := by decide +kernel
theorem dX10_spare_32 : decode cX10_spare 32 = .ok (.iinc 2 (-1), 3) := by decide +kernel
theorem dX10_spare_35 : decode cX10_spare 35 = .ok (.goto (-25), 3) := by decide +kernel
theorem dX10_spare_38 : decode cX10_spare 38 = .ok (.iload_n 1, 1) := by decide +kernel
theorem dX10_spare_39 : decode cX10_spare 39 = .ok (.ireturn, 1) := by decide +kernel
theorem dX10_passing_0 : decode cX10_passing 0 = .ok (.iload_n 1, 1) := by decide +kernel
theorem dX10_passing_1 : decode cX10_passing 1 = .ok (.iconst 1, 1) := by decide +kernel
theorem dX10_passing_2 : decode cX10_passing 2 = .ok (.if_icmp .lt 19, 3) := by decide +kernel
theorem dX10_passing_5 : decode cX10_passing 5 = .ok (.iload_n 1, 1) := by decide +kernel
theorem dX10_passing_6 : decode cX10_passing 6 = .ok (.bipush 32, 2) := by decide +kernel
theorem dX10_passing_8 : decode cX10_passing 8 = .ok (.if_icmp .ge 13, 3) := by decide +kernel
theorem dX10_passing_11 : decode cX10_passing 11 = .ok (.iload_n 2, 1) := by decide +kernel
theorem dX10_passing_12 : decode cX10_passing 12 = .ok (.ifCond .lt 9, 3) := by decide +kernel
theorem dX10_passing_15 : decode cX10_passing 15 = .ok (.iload_n 2, 1) := by decide +kernel
theorem dX10_passing_16 : decode cX10_passing 16 = .ok (.bipush 99, 2) := by decide +kernel
theorem dX10_passing_18 : decode cX10_passing 18 = .ok (.if_icmp .le 10, 3) := by decide +kernel
theorem dX10_passing_21 : decode cX10_passing 21 = .ok (.aload_n 0, 1) := by decide +kernel
theorem dX10_passing_22 : decode cX10_passing 22 = .ok (.bipush (-2), 2) := by decide +kernel
theorem dX10_passing_24 : decode cX10_passing 24 = .ok (.invokevirtual 108, 3) := by decide +kernel
theorem dX10_passing_27 : decode cX10_passing 27 = .ok (.ireturn, 1) := by decide +kernel
theorem dX10_passing_28 : decode cX10_passing 28 = .ok (.aload_n 0, 1) := by decide +kernel
theorem dX10_passing_29 : decode cX10_passing 29 = .ok (.getfield 10, 3) := by decide +kernel
theorem dX10_passing_32 : decode cX10_passing 32 = .ok (.getfield 80, 3) := by decide +kernel
theorem dX10_passing_35 : decode cX10_passing 35 = .ok (.getfield 245, 3) := by decide +kernel
theorem dX10_passing_38 : decode cX10_passing 38 = .ok (.bipush 10, 2) := by decide +kernel
theorem dX10_passing_40 : decode cX10_passing 40 = .ok (.if_icmp .ge 19, 3) := by decide +kernel
theorem dX10_passing_43 : decode cX10_passing 43 = .ok (.aload_n 0, 1) := by decide +kernel
theorem dX10_passing_44 : decode cX10_passing 44 = .ok (.getfield 10, 3) := by decide +kernel
theorem dX10_passing_47 : decode cX10_passing 47 = .ok (.getfield 80, 3) := by decide +kernel
theorem dX10_passing_50 : decode cX10_passing 50 = .ok (.iload_n 1, 1) := by decide +kernel
theorem dX10_passing_51 : decode cX10_passing 51 = .ok (.iload_n 2, 1) := by decide +kernel
theorem dX10_passing_52 : decode cX10_passing 52 = .ok (.iload_n 3, 1) := by decide +kernel
theorem dX10_passing_53 : decode cX10_passing 53 = .ok (.invokevirtual 246, 3) := by decide +kernel
theorem dX10_passing_56 : decode cX10_passing 56 = .ok (.goto 9, 3) := by decide +kernel
theorem dX10_passing_59 : decode cX10_passing 59 = .ok (.aload_n 0, 1) := by decide +kernel
theorem dX10_passing_60 : decode cX10_passing 60 = .ok (.bipush (-4), 2) := by decide +kernel
theorem dX10_passing_62 : decode cX10_passing 62 = .ok (.invokevirtual 108, 3) := by decide +kernel
theorem dX10_passing_65 : decode cX10_passing 65 = .ok (.ireturn, 1) := by decide +kernel
theorem dX10_forget_0 : decode cX10_forget 0 = .ok (.aload_n 0, 1) := by decide +kernel
theorem dX10_forget_1 : decode cX10_forget 1 = .ok (.getfield 10, 3) := by decide +kernel
theorem dX10_forget_4 : decode cX10_forget 4 = .ok (.getfield 80, 3) := by decide +kernel
theorem dX10_forget_7 : decode cX10_forget 7 = .ok (.invokevirtual 249, 3) := by decide +kernel
theorem dX10_forget_10 : decode cX10_forget 10 = .ok (.ireturn, 1) := by decide +kernel
theorem dX10_liars_0 : decode cX10_liars 0 = .ok (.iload_n 1, 1) := by decide +kernel
theorem dX10_liars_1 : decode cX10_liars 1 = .ok (.ifCond .lt 8, 3) := by decide +kernel
theorem dX10_liars_4 : decode cX10_liars 4 = .ok (.iload_n 1, 1) := by decide +kernel
theorem dX10_liars_5 : decode cX10_liars 5 = .ok (.iconst 3, 1) := by decide +kernel
theorem dX10_liars_6 : decode cX10_liars 6 = .ok (.if_icmp .le 12, 3) := by decide +kernel
theorem dX10_liars_9 : decode cX10_liars 9 = .ok (.aload_n 0, 1) := by decide +kernel
theorem dX10_liars_10 : decode cX10_liars 10 = .ok (.bipush (-2), 2) := by decide +kernel
theorem dX10_liars_12 : decode cX10_liars 12 = .ok (.invokevirtual 108, 3) := by decide +kernel
theorem dX10_liars_15 : decode cX10_liars 15 = .ok (.goto 14, 3) := by decide +kernel
theorem dX10_liars_18 : decode cX10_liars 18 = .ok (.aload_n 0, 1) := by decide +kernel
theorem dX10_liars_19 : decode cX10_liars 19 = .ok (.getfield 10, 3) := by decide +kernel
theorem dX10_liars_22 : decode cX10_liars 22 = .ok (.getfield 80, 3) := by decide +kernel
theorem dX10_liars_25 : decode cX10_liars 25 = .ok (.iload_n 1, 1) := by decide +kernel
theorem dX10_liars_26 : decode cX10_liars 26 = .ok (.invokevirtual 252, 3) := by decide +kernel
theorem dX10_liars_29 : decode cX10_liars 29 = .ok (.ireturn, 1) := by decide +kernel
theorem dX10_fits_0 : decode cX10_fits 0 = .ok (.iload_n 1, 1) := by decide +kernel
theorem dX10_fits_1 : decode cX10_fits 1 = .ok (.iconst (-1), 1) := by decide +kernel
theorem dX10_fits_2 : decode cX10_fits 2 = .ok (.if_icmp .ge 12, 3) := by decide +kernel
theorem dX10_fits_5 : decode cX10_fits 5 = .ok (.aload_n 0, 1) := by decide +kernel
theorem dX10_fits_6 : decode cX10_fits 6 = .ok (.bipush (-2), 2) := by decide +kernel
theorem dX10_fits_8 : decode cX10_fits 8 = .ok (.bipush (-10), 2) := by decide +kernel
theorem dX10_fits_10 : decode cX10_fits 10 = .ok (.invokevirtual 170, 3) := by decide +kernel
theorem dX10_fits_13 : decode cX10_fits 13 = .ok (.ireturn, 1) := by decide +kernel
theorem dX10_fits_14 : decode cX10_fits 14 = .ok (.aload_n 0, 1) := by decide +kernel
theorem dX10_fits_15 : decode cX10_fits 15 = .ok (.getfield 87, 3) := by decide +kernel
theorem dX10_fits_18 : decode cX10_fits 18 = .ok (.invokevirtual 255, 3) := by decide +kernel
theorem dX10_fits_21 : decode cX10_fits 21 = .ok (.istore_n 2, 1) := by decide +kernel
theorem dX10_fits_22 : decode cX10_fits 22 = .ok (.iload_n 1, 1) := by decide +kernel
theorem dX10_fits_23 : decode cX10_fits 23 = .ok (.iconst (-1), 1) := by decide +kernel
theorem dX10_fits_24 : decode cX10_fits 24 = .ok (.if_icmp .ne 5, 3) := by decide +kernel
theorem dX10_fits_27 : decode cX10_fits 27 = .ok (.iload_n 2, 1) := by decide +kernel
theorem dX10_fits_28 : decode cX10_fits 28 = .ok (.ireturn, 1) := by decide +kernel
theorem dX10_fits_29 : decode cX10_fits 29 = .ok (.iload_n 1, 1) := by decide +kernel
theorem dX10_fits_30 : decode cX10_fits 30 = .ok (.iload_n 2, 1) := by decide +kernel
theorem dX10_fits_31 : decode cX10_fits 31 = .ok (.if_icmp .ge 14, 3) := by decide +kernel
theorem dX10_fits_34 : decode cX10_fits 34 = .ok (.aload_n 0, 1) := by decide +kernel
theorem dX10_fits_35 : decode cX10_fits 35 = .ok (.getfield 87, 3) := by decide +kernel
theorem dX10_fits_38 : decode cX10_fits 38 = .ok (.iload_n 1, 1) := by decide +kernel
theorem dX10_fits_39 : decode cX10_fits 39 = .ok (.invokevirtual 258, 3) := by decide +kernel
theorem dX10_fits_42 : decode cX10_fits 42 = .ok (.goto 5, 3) := by decide +kernel
theorem dX10_fits_45 : decode cX10_fits 45 = .ok (.bipush (-5), 2) := by decide +kernel
theorem dX10_fits_47 : decode cX10_fits 47 = .ok (.ireturn, 1) := by decide +kernel
theorem dX10_untold_0 : decode cX10_untold 0 = .ok (.iload_n 1, 1) := by decide +kernel
theorem dX10_untold_1 : decode cX10_untold 1 = .ok (.ifCond .lt 18, 3) := by decide +kernel
theorem dX10_untold_4 : decode cX10_untold 4 = .ok (.iload_n 1, 1) := by decide +kernel
theorem dX10_untold_5 : decode cX10_untold 5 = .ok (.iconst 5, 1) := by decide +kernel
theorem dX10_untold_6 : decode cX10_untold 6 = .ok (.if_icmp .ge 13, 3) := by decide +kernel
theorem dX10_untold_9 : decode cX10_untold 9 = .ok (.iload_n 2, 1) := by decide +kernel
theorem dX10_untold_10 : decode cX10_untold 10 = .ok (.ifCond .lt 9, 3) := by decide +kernel
theorem dX10_untold_13 : decode cX10_untold 13 = .ok (.iload_n 2, 1) := by decide +kernel
theorem dX10_untold_14 : decode cX10_untold 14 = .ok (.bipush 9, 2) := by decide +kernel
theorem dX10_untold_16 : decode cX10_untold 16 = .ok (.if_icmp .le 10, 3) := by decide +kernel
theorem dX10_untold_19 : decode cX10_untold 19 = .ok (.aload_n 0, 1) := by decide +kernel
theorem dX10_untold_20 : decode cX10_untold 20 = .ok (.bipush (-2), 2) := by decide +kernel
theorem dX10_untold_22 : decode cX10_untold 22 = .ok (.invokevirtual 108, 3) := by decide +kernel
theorem dX10_untold_25 : decode cX10_untold 25 = .ok (.ireturn, 1) := by decide +kernel
theorem dX10_untold_26 : decode cX10_untold 26 = .ok (.aload_n 0, 1) := by decide +kernel
theorem dX10_untold_27 : decode cX10_untold 27 = .ok (.getfield 87, 3) := by decide +kernel
theorem dX10_untold_30 : decode cX10_untold 30 = .ok (.invokevirtual 255, 3) := by decide +kernel
theorem dX10_untold_33 : decode cX10_untold 33 = .ok (.istore_n 3, 1) := by decide +kernel
theorem dX10_untold_34 : decode cX10_untold 34 = .ok (.iload_n 3, 1) := by decide +kernel
theorem dX10_untold_35 : decode cX10_untold 35 = .ok (.ifCond .ne 10, 3) := by decide +kernel
theorem dX10_untold_38 : decode cX10_untold 38 = .ok (.aload_n 0, 1) := by decide +kernel
theorem dX10_untold_39 : decode cX10_untold 39 = .ok (.bipush (-3), 2) := by decide +kernel
theorem dX10_untold_41 : decode cX10_untold 41 = .ok (.invokevirtual 108, 3) := by decide +kernel
theorem dX10_untold_44 : decode cX10_untold 44 = .ok (.ireturn, 1) := by decide +kernel
theorem dX10_untold_45 : decode cX10_untold 45 = .ok (.aload_n 0, 1) := by decide +kernel
theorem dX10_untold_46 : decode cX10_untold 46 = .ok (.aload_n 0, 1) := by decide +kernel
theorem dX10_untold_47 : decode cX10_untold 47 = .ok (.getfield 87, 3) := by decide +kernel
theorem dX10_untold_50 : decode cX10_untold 50 = .ok (.iload_n 1, 1) := by decide +kernel
theorem dX10_untold_51 : decode cX10_untold 51 = .ok (.iload_n 2, 1) := by decide +kernel
theorem dX10_untold_52 : decode cX10_untold 52 = .ok (.invokevirtual 261, 3) := by decide +kernel
theorem dX10_untold_55 : decode cX10_untold 55 = .ok (.iload_n 3, 1) := by decide +kernel
theorem dX10_untold_56 : decode cX10_untold 56 = .ok (.invokevirtual 264, 3) := by decide +kernel
theorem dX10_untold_59 : decode cX10_untold 59 = .ok (.iconst 1, 1) := by decide +kernel
theorem dX10_untold_60 : decode cX10_untold 60 = .ok (.ireturn, 1) := by decide +kernel
theorem dX10_part_0 : decode cX10_part 0 = .ok (.iload_n 1, 1) := by decide +kernel
theorem dX10_part_1 : decode cX10_part 1 = .ok (.ifCond .lt 8, 3) := by decide +kernel
theorem dX10_part_4 : decode cX10_part 4 = .ok (.iload_n 1, 1) := by decide +kernel
theorem dX10_part_5 : decode cX10_part 5 = .ok (.iconst 1, 1) := by decide +kernel
theorem dX10_part_6 : decode cX10_part 6 = .ok (.if_icmp .le 10, 3) := by decide +kernel
theorem dX10_part_9 : decode cX10_part 9 = .ok (.aload_n 0, 1) := by decide +kernel
theorem dX10_part_10 : decode cX10_part 10 = .ok (.bipush (-2), 2) := by decide +kernel
theorem dX10_part_12 : decode cX10_part 12 = .ok (.invokevirtual 108, 3) := by decide +kernel
theorem dX10_part_15 : decode cX10_part 15 = .ok (.ireturn, 1) := by decide +kernel
theorem dX10_part_16 : decode cX10_part 16 = .ok (.iload_n 1, 1) := by decide +kernel
theorem dX10_part_17 : decode cX10_part 17 = .ok (.ifCond .ne 10, 3) := by decide +kernel
theorem dX10_part_20 : decode cX10_part 20 = .ok (.aload_n 0, 1) := by decide +kernel
theorem dX10_part_21 : decode cX10_part 21 = .ok (.getfield 91, 3) := by decide +kernel
theorem dX10_part_24 : decode cX10_part 24 = .ok (.goto 7, 3) := by decide +kernel
theorem dX10_part_27 : decode cX10_part 27 = .ok (.aload_n 0, 1) := by decide +kernel
theorem dX10_part_28 : decode cX10_part 28 = .ok (.getfield 95, 3) := by decide +kernel
theorem dX10_part_31 : decode cX10_part 31 = .ok (.ireturn, 1) := by decide +kernel
theorem dX10_image_0 : decode cX10_image 0 = .ok (.iload_n 1, 1) := by decide +kernel
theorem dX10_image_1 : decode cX10_image 1 = .ok (.ifCond .lt 8, 3) := by decide +kernel
theorem dX10_image_4 : decode cX10_image 4 = .ok (.iload_n 1, 1) := by decide +kernel
theorem dX10_image_5 : decode cX10_image 5 = .ok (.iconst 2, 1) := by decide +kernel
theorem dX10_image_6 : decode cX10_image 6 = .ok (.if_icmp .lt 10, 3) := by decide +kernel
theorem dX10_image_9 : decode cX10_image 9 = .ok (.aload_n 0, 1) := by decide +kernel
theorem dX10_image_10 : decode cX10_image 10 = .ok (.bipush (-2), 2) := by decide +kernel
theorem dX10_image_12 : decode cX10_image 12 = .ok (.invokevirtual 108, 3) := by decide +kernel
theorem dX10_image_15 : decode cX10_image 15 = .ok (.ireturn, 1) := by decide +kernel
theorem dX10_image_16 : decode cX10_image 16 = .ok (.aload_n 0, 1) := by decide +kernel
theorem dX10_image_17 : decode cX10_image 17 = .ok (.getfield 16, 3) := by decide +kernel
theorem dX10_image_20 : decode cX10_image 20 = .ok (.iload_n 1, 1) := by decide +kernel
theorem dX10_image_21 : decode cX10_image 21 = .ok (.aaload, 1) := by decide +kernel
theorem dX10_image_22 : decode cX10_image 22 = .ok (.aload_n 0, 1) := by decide +kernel
theorem dX10_image_23 : decode cX10_image 23 = .ok (.getfield 10, 3) := by decide +kernel
theorem dX10_image_26 : decode cX10_image 26 = .ok (.invokevirtual 267, 3) := by decide +kernel
theorem dX10_image_29 : decode cX10_image 29 = .ok (.aload_n 0, 1) := by decide +kernel
theorem dX10_image_30 : decode cX10_image 30 = .ok (.getfield 20, 3) := by decide +kernel
theorem dX10_image_33 : decode cX10_image 33 = .ok (.iload_n 1, 1) := by decide +kernel
theorem dX10_image_34 : decode cX10_image 34 = .ok (.iconst 1, 1) := by decide +kernel
theorem dX10_image_35 : decode cX10_image 35 = .ok (.bastore, 1) := by decide +kernel
theorem dX10_image_36 : decode cX10_image 36 = .ok (.iconst 1, 1) := by decide +kernel
theorem dX10_image_37 : decode cX10_image 37 = .ok (.ireturn, 1) := by decide +kernel
theorem dX10_from_0 : decode cX10_from 0 = .ok (.iload_n 1, 1) := by decide +kernel
theorem dX10_from_1 : decode cX10_from 1 = .ok (.ifCond .lt 8, 3) := by decide +kernel
theorem dX10_from_4 : decode cX10_from 4 = .ok (.iload_n 1, 1) := by decide +kernel
theorem dX10_from_5 : decode cX10_from 5 = .ok (.iconst 2, 1) := by decide +kernel
theorem dX10_from_6 : decode cX10_from 6 = .ok (.if_icmp .lt 10, 3) := by decide +kernel
theorem dX10_from_9 : decode cX10_from 9 = .ok (.aload_n 0, 1) := by decide +kernel
theorem dX10_from_10 : decode cX10_from 10 = .ok (.bipush (-2), 2) := by decide +kernel
theorem dX10_from_12 : decode cX10_from 12 = .ok (.invokevirtual 108, 3) := by decide +kernel
theorem dX10_from_15 : decode cX10_from 15 = .ok (.ireturn, 1) := by decide +kernel
theorem dX10_from_16 : decode cX10_from 16 = .ok (.aload_n 0, 1) := by decide +kernel
theorem dX10_from_17 : decode cX10_from 17 = .ok (.getfield 20, 3) := by decide +kernel
theorem dX10_from_20 : decode cX10_from 20 = .ok (.iload_n 1, 1) := by decide +kernel
theorem dX10_from_21 : decode cX10_from 21 = .ok (.baload, 1) := by decide +kernel
theorem dX10_from_22 : decode cX10_from 22 = .ok (.ifCond .ne 10, 3) := by decide +kernel
theorem dX10_from_25 : decode cX10_from 25 = .ok (.aload_n 0, 1) := by decide +kernel
theorem dX10_from_26 : decode cX10_from 26 = .ok (.bipush (-3), 2) := by decide +kernel
theorem dX10_from_28 : decode cX10_from 28 = .ok (.invokevirtual 108, 3) := by decide +kernel
theorem dX10_from_31 : decode cX10_from 31 = .ok (.ireturn, 1) := by decide +kernel
theorem dX10_from_32 : decode cX10_from 32 = .ok (.aload_n 0, 1) := by decide +kernel
theorem dX10_from_33 : decode cX10_from 33 = .ok (.getfield 10, 3) := by decide +kernel
theorem dX10_from_36 : decode cX10_from 36 = .ok (.aload_n 0, 1) := by decide +kernel
theorem dX10_from_37 : decode cX10_from 37 = .ok (.getfield 16, 3) := by decide +kernel
theorem dX10_from_40 : decode cX10_from 40 = .ok (.iload_n 1, 1) := by decide +kernel
theorem dX10_from_41 : decode cX10_from 41 = .ok (.aaload, 1) := by decide +kernel
theorem dX10_from_42 : decode cX10_from 42 = .ok (.invokevirtual 267, 3) := by decide +kernel
theorem dX10_from_45 : decode cX10_from 45 = .ok (.iconst 1, 1) := by decide +kernel
theorem dX10_from_46 : decode cX10_from 46 = .ok (.ireturn, 1) := by decide +kernel
theorem dX10_status_0 : decode cX10_status 0 = .ok (.iload_n 1, 1) := by decide +kernel
theorem dX10_status_1 : decode cX10_status 1 = .ok (.tableswitch 42 0 2 #[27, 32, 37], 27) := by decide +kernel
theorem dX10_status_28 : decode cX10_status 28 = .ok (.aload_n 0, 1) := by decide +kernel
theorem dX10_status_29 : decode cX10_status 29 = .ok (.getfield 270, 3) := by decide +kernel
theorem dX10_status_32 : decode cX10_status 32 = .ok (.ireturn, 1) := by decide +kernel
theorem dX10_status_33 : decode cX10_status 33 = .ok (.aload_n 0, 1) := by decide +kernel
theorem dX10_status_34 : decode cX10_status 34 = .ok (.getfield 273, 3) := by decide +kernel
theorem dX10_status_37 : decode cX10_status 37 = .ok (.ireturn, 1) := by decide +kernel
theorem dX10_status_38 : decode cX10_status 38 = .ok (.aload_n 0, 1) := by decide +kernel
theorem dX10_status_39 : decode cX10_status 39 = .ok (.getfield 276, 3) := by decide +kernel
theorem dX10_status_42 : decode cX10_status 42 = .ok (.ireturn, 1) := by decide +kernel
theorem dX10_status_43 : decode cX10_status 43 = .ok (.aload_n 0, 1) := by decide +kernel
theorem dX10_status_44 : decode cX10_status 44 = .ok (.bipush (-2), 2) := by decide +kernel
theorem dX10_status_46 : decode cX10_status 46 = .ok (.iconst (-1), 1) := by decide +kernel
theorem dX10_status_47 : decode cX10_status 47 = .ok (.invokevirtual 170, 3) := by decide +kernel
theorem dX10_status_50 : decode cX10_status 50 = .ok (.ireturn, 1) := by decide +kernel
theorem dX10_count_0 : decode cX10_count 0 = .ok (.iload_n 1, 1) := by decide +kernel
theorem dX10_count_1 : decode cX10_count 1 = .ok (.tableswitch 75 0 3 #[31, 42, 53, 64], 31) := by decide +kernel
theorem dX10_count_32 : decode cX10_count 32 = .ok (.aload_n 0, 1) := by decide +kernel
theorem dX10_count_33 : decode cX10_count 33 = .ok (.getfield 10, 3) := by decide +kernel
theorem dX10_count_36 : decode cX10_count 36 = .ok (.getfield 46, 3) := by decide +kernel
theorem dX10_count_39 : decode cX10_count 39 = .ok (.getfield 129, 3) := by decide +kernel
theorem dX10_count_42 : decode cX10_count 42 = .ok (.ireturn, 1) := by decide +kernel
theorem dX10_count_43 : decode cX10_count 43 = .ok (.aload_n 0, 1) := by decide +kernel
theorem dX10_count_44 : decode cX10_count 44 = .ok (.getfield 10, 3) := by decide +kernel
theorem dX10_count_47 : decode cX10_count 47 = .ok (.getfield 46, 3) := by decide +kernel
theorem dX10_count_50 : decode cX10_count 50 = .ok (.getfield 141, 3) := by decide +kernel
theorem dX10_count_53 : decode cX10_count 53 = .ok (.ireturn, 1) := by decide +kernel
theorem dX10_count_54 : decode cX10_count 54 = .ok (.aload_n 0, 1) := by decide +kernel
theorem dX10_count_55 : decode cX10_count 55 = .ok (.getfield 10, 3) := by decide +kernel
theorem dX10_count_58 : decode cX10_count 58 = .ok (.getfield 33, 3) := by decide +kernel
theorem dX10_count_61 : decode cX10_count 61 = .ok (.getfield 180, 3) := by decide +kernel
theorem dX10_count_64 : decode cX10_count 64 = .ok (.ireturn, 1) := by decide +kernel
theorem dX10_count_65 : decode cX10_count 65 = .ok (.aload_n 0, 1) := by decide +kernel
theorem dX10_count_66 : decode cX10_count 66 = .ok (.getfield 10, 3) := by decide +kernel
theorem dX10_count_69 : decode cX10_count 69 = .ok (.getfield 80, 3) := by decide +kernel
theorem dX10_count_72 : decode cX10_count 72 = .ok (.getfield 245, 3) := by decide +kernel
theorem dX10_count_75 : decode cX10_count 75 = .ok (.ireturn, 1) := by decide +kernel
theorem dX10_count_76 : decode cX10_count 76 = .ok (.aload_n 0, 1) := by decide +kernel
theorem dX10_count_77 : decode cX10_count 77 = .ok (.bipush (-2), 2) := by decide +kernel
theorem dX10_count_79 : decode cX10_count 79 = .ok (.invokevirtual 108, 3) := by decide +kernel
theorem dX10_count_82 : decode cX10_count 82 = .ok (.ireturn, 1) := by decide +kernel
theorem dX10_digest_0 : decode cX10_digest 0 = .ok (.ldc2_w 279, 3) := by decide +kernel
theorem dX10_digest_3 : decode cX10_digest 3 = .ok (.ldc2_w 279, 3) := by decide +kernel
theorem dX10_digest_6 : decode cX10_digest 6 = .ok (.aload_n 0, 1) := by decide +kernel
theorem dX10_digest_7 : decode cX10_digest 7 = .ok (.getfield 10, 3) := by decide +kernel
theorem dX10_digest_10 : decode cX10_digest 10 = .ok (.ldc2_w 281, 3) := by decide +kernel
theorem dX10_digest_13 : decode cX10_digest 13 = .ok (.invokevirtual 283, 3) := by decide +kernel
theorem dX10_digest_16 : decode cX10_digest 16 = .ok (.lmul, 1) := by decide +kernel
theorem dX10_digest_17 : decode cX10_digest 17 = .ok (.aload_n 0, 1) := by decide +kernel
theorem dX10_digest_18 : decode cX10_digest 18 = .ok (.getfield 91, 3) := by decide +kernel
theorem dX10_digest_21 : decode cX10_digest 21 = .ok (.i2l, 1) := by decide +kernel
theorem dX10_digest_22 : decode cX10_digest 22 = .ok (.ladd, 1) := by decide +kernel
theorem dX10_digest_23 : decode cX10_digest 23 = .ok (.lmul, 1) := by decide +kernel
theorem dX10_digest_24 : decode cX10_digest 24 = .ok (.aload_n 0, 1) := by decide +kernel
theorem dX10_digest_25 : decode cX10_digest 25 = .ok (.getfield 95, 3) := by decide +kernel
theorem dX10_digest_28 : decode cX10_digest 28 = .ok (.i2l, 1) := by decide +kernel
theorem dX10_digest_29 : decode cX10_digest 29 = .ok (.ladd, 1) := by decide +kernel
theorem dX10_digest_30 : decode cX10_digest 30 = .ok (.lreturn, 1) := by decide +kernel
theorem dX10_isPlace_0 : decode cX10_isPlace 0 = .ok (.aload_n 0, 1) := by decide +kernel
theorem dX10_isPlace_1 : decode cX10_isPlace 1 = .ok (.getfield 10, 3) := by decide +kernel
theorem dX10_isPlace_4 : decode cX10_isPlace 4 = .ok (.getfield 46, 3) := by decide +kernel
theorem dX10_isPlace_7 : decode cX10_isPlace 7 = .ok (.iload_n 1, 1) := by decide +kernel
theorem dX10_isPlace_8 : decode cX10_isPlace 8 = .ok (.invokevirtual 220, 3) := by decide +kernel
theorem dX10_isPlace_11 : decode cX10_isPlace 11 = .ok (.ifCond .eq 14, 3) := by decide +kernel
theorem dX10_isPlace_14 : decode cX10_isPlace 14 = .ok (.iload_n 2, 1) := by decide +kernel
theorem dX10_isPlace_15 : decode cX10_isPlace 15 = .ok (.invokestatic 112, 3) := by decide +kernel
theorem dX10_isPlace_18 : decode cX10_isPlace 18 = .ok (.ifCond .eq 7, 3) := by decide +kernel
theorem dX10_isPlace_21 : decode cX10_isPlace 21 = .ok (.iconst 1, 1) := by decide +kernel
theorem dX10_isPlace_22 : decode cX10_isPlace 22 = .ok (.goto 4, 3) := by decide +kernel
theorem dX10_isPlace_25 : decode cX10_isPlace 25 = .ok (.iconst 0, 1) := by decide +kernel
theorem dX10_isPlace_26 : decode cX10_isPlace 26 = .ok (.ireturn, 1) := by decide +kernel
theorem dX10_refuse_0 : decode cX10_refuse 0 = .ok (.aload_n 0, 1) := by decide +kernel
theorem dX10_refuse_1 : decode cX10_refuse 1 = .ok (.iload_n 1, 1) := by decide +kernel
theorem dX10_refuse_2 : decode cX10_refuse 2 = .ok (.iload_n 1, 1) := by decide +kernel
theorem dX10_refuse_3 : decode cX10_refuse 3 = .ok (.invokevirtual 170, 3) := by decide +kernel
theorem dX10_refuse_6 : decode cX10_refuse 6 = .ok (.ireturn, 1) := by decide +kernel
theorem dX10_refuseAs_0 : decode cX10_refuseAs 0 = .ok (.iload_n 1, 1) := by decide +kernel
theorem dX10_refuseAs_1 : decode cX10_refuseAs 1 = .ok (.bipush (-2), 2) := by decide +kernel
theorem dX10_refuseAs_3 : decode cX10_refuseAs 3 = .ok (.if_icmp .ne 16, 3) := by decide +kernel
theorem dX10_refuseAs_6 : decode cX10_refuseAs 6 = .ok (.aload_n 0, 1) := by decide +kernel
theorem dX10_refuseAs_7 : decode cX10_refuseAs 7 = .ok (.dup, 1) := by decide +kernel
theorem dX10_refuseAs_8 : decode cX10_refuseAs 8 = .ok (.getfield 270, 3) := by decide +kernel
theorem dX10_refuseAs_11 : decode cX10_refuseAs 11 = .ok (.iconst 1, 1) := by decide +kernel
theorem dX10_refuseAs_12 : decode cX10_refuseAs 12 = .ok (.iadd, 1) := by decide +kernel
theorem dX10_refuseAs_13 : decode cX10_refuseAs 13 = .ok (.putfield 270, 3) := by decide +kernel
theorem dX10_refuseAs_16 : decode cX10_refuseAs 16 = .ok (.goto 32, 3) := by decide +kernel
theorem dX10_refuseAs_19 : decode cX10_refuseAs 19 = .ok (.iload_n 1, 1) := by decide +kernel
theorem dX10_refuseAs_20 : decode cX10_refuseAs 20 = .ok (.bipush (-3), 2) := by decide +kernel
theorem dX10_refuseAs_22 : decode cX10_refuseAs 22 = .ok (.if_icmp .ne 16, 3) := by decide +kernel
theorem dX10_refuseAs_25 : decode cX10_refuseAs 25 = .ok (.aload_n 0, 1) := by decide +kernel
theorem dX10_refuseAs_26 : decode cX10_refuseAs 26 = .ok (.dup, 1) := by decide +kernel
theorem dX10_refuseAs_27 : decode cX10_refuseAs 27 = .ok (.getfield 273, 3) := by decide +kernel
theorem dX10_refuseAs_30 : decode cX10_refuseAs 30 = .ok (.iconst 1, 1) := by decide +kernel
theorem dX10_refuseAs_31 : decode cX10_refuseAs 31 = .ok (.iadd, 1) := by decide +kernel
theorem dX10_refuseAs_32 : decode cX10_refuseAs 32 = .ok (.putfield 273, 3) := by decide +kernel
theorem dX10_refuseAs_35 : decode cX10_refuseAs 35 = .ok (.goto 13, 3) := by decide +kernel
theorem dX10_refuseAs_38 : decode cX10_refuseAs 38 = .ok (.aload_n 0, 1) := by decide +kernel
theorem dX10_refuseAs_39 : decode cX10_refuseAs 39 = .ok (.dup, 1) := by decide +kernel
theorem dX10_refuseAs_40 : decode cX10_refuseAs 40 = .ok (.getfield 276, 3) := by decide +kernel
theorem dX10_refuseAs_43 : decode cX10_refuseAs 43 = .ok (.iconst 1, 1) := by decide +kernel
theorem dX10_refuseAs_44 : decode cX10_refuseAs 44 = .ok (.iadd, 1) := by decide +kernel
theorem dX10_refuseAs_45 : decode cX10_refuseAs 45 = .ok (.putfield 276, 3) := by decide +kernel
theorem dX10_refuseAs_48 : decode cX10_refuseAs 48 = .ok (.iload_n 2, 1) := by decide +kernel
theorem dX10_refuseAs_49 : decode cX10_refuseAs 49 = .ok (.ireturn, 1) := by decide +kernel
theorem dX10_setFraction_0 : decode cX10_setFraction 0 = .ok (.iload_n 2, 1) := by decide +kernel
theorem dX10_setFraction_1 : decode cX10_setFraction 1 = .ok (.istore_n 3, 1) := by decide +kernel
theorem dX10_setFraction_2 : decode cX10_setFraction 2 = .ok (.iload_n 1, 1) := by decide +kernel
theorem dX10_setFraction_3 : decode cX10_setFraction 3 = .ok (.istore 4, 2) := by decide +kernel
theorem dX10_setFraction_5 : decode cX10_setFraction 5 = .ok (.iconst 0, 1) := by decide +kernel
theorem dX10_setFraction_6 : decode cX10_setFraction 6 = .ok (.istore 5, 2) := by decide +kernel
theorem dX10_setFraction_8 : decode cX10_setFraction 8 = .ok (.iload 5, 2) := by decide +kernel
theorem dX10_setFraction_10 : decode cX10_setFraction 10 = .ok (.bipush 64, 2) := by decide +kernel
theorem dX10_setFraction_12 : decode cX10_setFraction 12 = .ok (.if_icmp .ge 27, 3) := by decide +kernel
theorem dX10_setFraction_15 : decode cX10_setFraction 15 = .ok (.iload 4, 2) := by decide +kernel
theorem dX10_setFraction_17 : decode cX10_setFraction 17 = .ok (.ifCond .eq 22, 3) := by decide +kernel
theorem dX10_setFraction_20 : decode cX10_setFraction 20 = .ok (.iload_n 3, 1) := by decide +kernel
theorem dX10_setFraction_21 : decode cX10_setFraction 21 = .ok (.iload 4, 2) := by decide +kernel
theorem dX10_setFraction_23 : decode cX10_setFraction 23 = .ok (.irem, 1) := by decide +kernel
theorem dX10_setFraction_24 : decode cX10_setFraction 24 = .ok (.istore 6, 2) := by decide +kernel
theorem dX10_setFraction_26 : decode cX10_setFraction 26 = .ok (.iload 4, 2) := by decide +kernel
theorem dX10_setFraction_28 : decode cX10_setFraction 28 = .ok (.istore_n 3, 1) := by decide +kernel
theorem dX10_setFraction_29 : decode cX10_setFraction 29 = .ok (.iload 6, 2) := by decide +kernel
theorem dX10_setFraction_31 : decode cX10_setFraction 31 = .ok (.istore 4, 2) := by decide +kernel
theorem dX10_setFraction_33 : decode cX10_setFraction 33 = .ok (.iinc 5 1, 3) := by decide +kernel
theorem dX10_setFraction_36 : decode cX10_setFraction 36 = .ok (.goto (-28), 3) := by decide +kernel
theorem dX10_setFraction_39 : decode cX10_setFraction 39 = .ok (.iload_n 3, 1) := by decide +kernel
theorem dX10_setFraction_40 : decode cX10_setFraction 40 = .ok (.ifCond .le 17, 3) := by decide +kernel
theorem dX10_setFraction_43 : decode cX10_setFraction 43 = .ok (.aload_n 0, 1) := by decide +kernel
theorem dX10_setFraction_44 : decode cX10_setFraction 44 = .ok (.iload_n 1, 1) := by decide +kernel
theorem dX10_setFraction_45 : decode cX10_setFraction 45 = .ok (.iload_n 3, 1) := by decide +kernel
theorem dX10_setFraction_46 : decode cX10_setFraction 46 = .ok (.idiv, 1) := by decide +kernel
theorem dX10_setFraction_47 : decode cX10_setFraction 47 = .ok (.putfield 91, 3) := by decide +kernel
theorem dX10_setFraction_50 : decode cX10_setFraction 50 = .ok (.aload_n 0, 1) := by decide +kernel
theorem dX10_setFraction_51 : decode cX10_setFraction 51 = .ok (.iload_n 2, 1) := by decide +kernel
theorem dX10_setFraction_52 : decode cX10_setFraction 52 = .ok (.iload_n 3, 1) := by decide +kernel
theorem dX10_setFraction_53 : decode cX10_setFraction 53 = .ok (.idiv, 1) := by decide +kernel
theorem dX10_setFraction_54 : decode cX10_setFraction 54 = .ok (.putfield 95, 3) := by decide +kernel
theorem dX10_setFraction_57 : decode cX10_setFraction 57 = .ok (.return_, 1) := by decide +kernel
theorem dX11_init_0 : decode cX11_init 0 = .ok (.aload_n 0, 1) := by decide +kernel
theorem dX11_init_1 : decode cX11_init 1 = .ok (.invokespecial 1, 3) := by decide +kernel
theorem dX11_init_4 : decode cX11_init 4 = .ok (.aload_n 0, 1) := by decide +kernel
theorem dX11_init_5 : decode cX11_init 5 = .ok (.sipush 277, 3) := by decide +kernel
theorem dX11_init_8 : decode cX11_init 8 = .ok (.newarray .int, 2) := by decide +kernel
theorem dX11_init_10 : decode cX11_init 10 = .ok (.putfield 7, 3) := by decide +kernel
theorem dX11_init_13 : decode cX11_init 13 = .ok (.aload_n 0, 1) := by decide +kernel
theorem dX11_init_14 : decode cX11_init 14 = .ok (.sipush 277, 3) := by decide +kernel
theorem dX11_init_17 : decode cX11_init 17 = .ok (.newarray .int, 2) := by decide +kernel
theorem dX11_init_19 : decode cX11_init 19 = .ok (.putfield 13, 3) := by decide +kernel
theorem dX11_init_22 : decode cX11_init 22 = .ok (.aload_n 0, 1) := by decide +kernel
theorem dX11_init_23 : decode cX11_init 23 = .ok (.sipush 277, 3) := by decide +kernel
theorem dX11_init_26 : decode cX11_init 26 = .ok (.newarray .int, 2) := by decide +kernel
theorem dX11_init_28 : decode cX11_init 28 = .ok (.putfield 16, 3) := by decide +kernel
theorem dX11_init_31 : decode cX11_init 31 = .ok (.aload_n 0, 1) := by decide +kernel
theorem dX11_init_32 : decode cX11_init 32 = .ok (.lconst 1, 1) := by decide +kernel
theorem dX11_init_33 : decode cX11_init 33 = .ok (.putfield 19, 3) := by decide +kernel
theorem dX11_init_36 : decode cX11_init 36 = .ok (.aload_n 0, 1) := by decide +kernel
theorem dX11_init_37 : decode cX11_init 37 = .ok (.iconst 3, 1) := by decide +kernel
theorem dX11_init_38 : decode cX11_init 38 = .ok (.newarray .int, 2) := by decide +kernel
theorem dX11_init_40 : decode cX11_init 40 = .ok (.putfield 23, 3) := by decide +kernel
theorem dX11_init_43 : decode cX11_init 43 = .ok (.aload_n 0, 1) := by decide +kernel
theorem dX11_init_44 : decode cX11_init 44 = .ok (.bipush 8, 2) := by decide +kernel
theorem dX11_init_46 : decode cX11_init 46 = .ok (.newarray .int, 2) := by decide +kernel
theorem dX11_init_48 : decode cX11_init 48 = .ok (.putfield 26, 3) := by decide +kernel
theorem dX11_init_51 : decode cX11_init 51 = .ok (.aload_n 0, 1) := by decide +kernel
theorem dX11_init_52 : decode cX11_init 52 = .ok (.bipush 8, 2) := by decide +kernel
theorem dX11_init_54 : decode cX11_init 54 = .ok (.newarray .int, 2) := by decide +kernel
theorem dX11_init_56 : decode cX11_init 56 = .ok (.putfield 29, 3) := by decide +kernel
theorem dX11_init_59 : decode cX11_init 59 = .ok (.aload_n 0, 1) := by decide +kernel
theorem dX11_init_60 : decode cX11_init 60 = .ok (.bipush 8, 2) := by decide +kernel
theorem dX11_init_62 : decode cX11_init 62 = .ok (.newarray .int, 2) := by decide +kernel
theorem dX11_init_64 : decode cX11_init 64 = .ok (.putfield 32, 3) := by decide +kernel
theorem dX11_init_67 : decode cX11_init 67 = .ok (.aload_n 0, 1) := by decide +kernel
theorem dX11_init_68 : decode cX11_init 68 = .ok (.bipush 37, 2) := by decide +kernel
theorem dX11_init_70 : decode cX11_init 70 = .ok (.newarray .int, 2) := by decide +kernel
theorem dX11_init_72 : decode cX11_init 72 = .ok (.putfield 35, 3) := by decide +kernel
theorem dX11_init_75 : decode cX11_init 75 = .ok (.aload_n 0, 1) := by decide +kernel
theorem dX11_init_76 : decode cX11_init 76 = .ok (.sipush 256, 3) := by decide +kernel
theorem dX11_init_79 : decode cX11_init 79 = .ok (.newarray .boolean, 2) := by decide +kernel
theorem dX11_init_81 : decode cX11_init 81 = .ok (.putfield 38, 3) := by decide +kernel
theorem dX11_init_84 : decode cX11_init 84 = .ok (.aload_n 0, 1) := by decide +kernel
theorem dX11_init_85 : decode cX11_init 85 = .ok (.sipush 256, 3) := by decide +kernel
theorem dX11_init_88 : decode cX11_init 88 = .ok (.newarray .int, 2) := by decide +kernel
theorem dX11_init_90 : decode cX11_init 90 = .ok (.putfield 42, 3) := by decide +kernel
theorem dX11_init_93 : decode cX11_init 93 = .ok (.aload_n 0, 1) := by decide +kernel
theorem dX11_init_94 : decode cX11_init 94 = .ok (.bipush 8, 2) := by decide +kernel
theorem dX11_init_96 : decode cX11_init 96 = .ok (.newarray .int, 2) := by decide +kernel
theorem dX11_init_98 : decode cX11_init 98 = .ok (.putfield 45, 3) := by decide +kernel
theorem dX11_init_101 : decode cX11_init 101 = .ok (.aload_n 0, 1) := by decide +kernel
theorem dX11_init_102 : decode cX11_init 102 = .ok (.bipush 8, 2) := by decide +kernel
theorem dX11_init_104 : decode cX11_init 104 = .ok (.newarray .int, 2) := by decide +kernel
theorem dX11_init_106 : decode cX11_init 106 = .ok (.putfield 48, 3) := by decide +kernel
theorem dX11_init_109 : decode cX11_init 109 = .ok (.aload_n 0, 1) := by decide +kernel
theorem dX11_init_110 : decode cX11_init 110 = .ok (.sipush 610, 3) := by decide +kernel
theorem dX11_init_113 : decode cX11_init 113 = .ok (.newarray .long, 2) := by decide +kernel
theorem dX11_init_115 : decode cX11_init 115 = .ok (.putfield 51, 3) := by decide +kernel
theorem dX11_init_118 : decode cX11_init 118 = .ok (.aload_n 0, 1) := by decide +kernel
theorem dX11_init_119 : decode cX11_init 119 = .ok (.sipush 610, 3) := by decide +kernel
theorem dX11_init_122 : decode cX11_init 122 = .ok (.newarray .long, 2) := by decide +kernel
theorem dX11_init_124 : decode cX11_init 124 = .ok (.putfield 55, 3) := by decide +kernel
theorem dX11_init_127 : decode cX11_init 127 = .ok (.return_, 1) := by decide +kernel
theorem dX11_in_0 : decode cX11_in 0 = .ok (.lload_n 0, 1) := by decide +kernel
theorem dX11_in_1 : decode cX11_in 1 = .ok (.lload_n 2, 1) := by decide +kernel
theorem dX11_in_2 : decode cX11_in 2 = .ok (.lcmp, 1) := by decide +kernel
theorem dX11_in_3 : decode cX11_in 3 = .ok (.ifCond .lt 14, 3) := by decide +kernel
theorem dX11_in_6 : decode cX11_in 6 = .ok (.lload_n 0, 1) := by decide +kernel
theorem dX11_in_7 : decode cX11_in 7 = .ok (.lload 4, 2) := by decide +kernel
theorem dX11_in_9 : decode cX11_in 9 = .ok (.lcmp, 1) := by decide +kernel
theorem dX11_in_10 : decode cX11_in 10 = .ok (.ifCond .gt 7, 3) := by decide +kernel
theorem dX11_in_13 : decode cX11_in 13 = .ok (.iconst 1, 1) := by decide +kernel
theorem dX11_in_14 : decode cX11_in 14 = .ok (.goto 4, 3) := by decide +kernel
theorem dX11_in_17 : decode cX11_in 17 = .ok (.iconst 0, 1) := by decide +kernel
theorem dX11_in_18 : decode cX11_in 18 = .ok (.ireturn, 1) := by decide +kernel
theorem dX11_has_0 : decode cX11_has 0 = .ok (.iload_n 0, 1) := by decide +kernel
theorem dX11_has_1 : decode cX11_has 1 = .ok (.iload_n 1, 1) := by decide +kernel
theorem dX11_has_2 : decode cX11_has 2 = .ok (.ishr, 1) := by decide +kernel
theorem dX11_has_3 : decode cX11_has 3 = .ok (.iconst 1, 1) := by decide +kernel
theorem dX11_has_4 : decode cX11_has 4 = .ok (.iand, 1) := by decide +kernel
theorem dX11_has_5 : decode cX11_has 5 = .ok (.iconst 1, 1) := by decide +kernel
theorem dX11_has_6 : decode cX11_has 6 = .ok (.if_icmp .ne 7, 3) := by decide +kernel
theorem dX11_has_9 : decode cX11_has 9 = .ok (.iconst 1, 1) := by decide +kernel
theorem dX11_has_10 : decode cX11_has 10 = .ok (.goto 4, 3) := by decide +kernel
theorem dX11_has_13 : decode cX11_has 13 = .ok (.iconst 0, 1) := by decide +kernel
theorem dX11_has_14 : decode cX11_has 14 = .ok (.ireturn, 1) := by decide +kernel
theorem dX11_bad_0 : decode cX11_bad 0 = .ok (.aload_n 0, 1) := by decide +kernel
theorem dX11_bad_1 : decode cX11_bad 1 = .ok (.getfield 23, 3) := by decide +kernel
theorem dX11_bad_4 : decode cX11_bad 4 = .ok (.iconst 0, 1) := by decide +kernel
theorem dX11_bad_5 : decode cX11_bad 5 = .ok (.dup2, 1) := by decide +kernel
theorem dX11_bad_6 : decode cX11_bad 6 = .ok (.iaload, 1) := by decide +kernel
theorem dX11_bad_7 : decode cX11_bad 7 = .ok (.iconst 1, 1) := by decide +kernel
theorem dX11_bad_8 : decode cX11_bad 8 = .ok (.iadd, 1) := by decide +kernel
theorem dX11_bad_9 : decode cX11_bad 9 = .ok (.iastore, 1) := by decide +kernel
theorem dX11_bad_10 : decode cX11_bad 10 = .ok (.iload_n 1, 1) := by decide +kernel
theorem dX11_bad_11 : decode cX11_bad 11 = .ok (.ireturn, 1) := by decide +kernel
theorem dX11_no_0 : decode cX11_no 0 = .ok (.aload_n 0, 1) := by decide +kernel
theorem dX11_no_1 : decode cX11_no 1 = .ok (.getfield 23, 3) := by decide +kernel
theorem dX11_no_4 : decode cX11_no 4 = .ok (.iconst 1, 1) := by decide +kernel
theorem dX11_no_5 : decode cX11_no 5 = .ok (.dup2, 1) := by decide +kernel
theorem dX11_no_6 : decode cX11_no 6 = .ok (.iaload, 1) := by decide +kernel
theorem dX11_no_7 : decode cX11_no 7 = .ok (.iconst 1, 1) := by decide +kernel
theorem dX11_no_8 : decode cX11_no 8 = .ok (.iadd, 1) := by decide +kernel
theorem dX11_no_9 : decode cX11_no 9 = .ok (.iastore, 1) := by decide +kernel
theorem dX11_no_10 : decode cX11_no 10 = .ok (.bipush (-3), 2) := by decide +kernel
theorem dX11_no_12 : decode cX11_no 12 = .ok (.ireturn, 1) := by decide +kernel
theorem dX11_full_0 : decode cX11_full 0 = .ok (.aload_n 0, 1) := by decide +kernel
theorem dX11_full_1 : decode cX11_full 1 = .ok (.getfield 23, 3) := by decide +kernel
theorem dX11_full_4 : decode cX11_full 4 = .ok (.iconst 2, 1) := by decide +kernel
theorem dX11_full_5 : decode cX11_full 5 = .ok (.dup2, 1) := by decide +kernel
theorem dX11_full_6 : decode cX11_full 6 = .ok (.iaload, 1) := by decide +kernel
theorem dX11_full_7 : decode cX11_full 7 = .ok (.iconst 1, 1) := by decide +kernel
theorem dX11_full_8 : decode cX11_full 8 = .ok (.iadd, 1) := by decide +kernel
theorem dX11_full_9 : decode cX11_full 9 = .ok (.iastore, 1) := by decide +kernel
theorem dX11_full_10 : decode cX11_full 10 = .ok (.bipush (-4), 2) := by decide +kernel
theorem dX11_full_12 : decode cX11_full 12 = .ok (.ireturn, 1) := by decide +kernel
theorem dX11_isLeap_0 : decode cX11_isLeap 0 = .ok (.iload_n 0, 1) := by decide +kernel
theorem dX11_isLeap_1 : decode cX11_isLeap 1 = .ok (.iconst 4, 1) := by decide +kernel
theorem dX11_isLeap_2 : decode cX11_isLeap 2 = .ok (.irem, 1) := by decide +kernel
theorem dX11_isLeap_3 : decode cX11_isLeap 3 = .ok (.ifCond .ne 22, 3) := by decide +kernel
theorem dX11_isLeap_6 : decode cX11_isLeap 6 = .ok (.iload_n 0, 1) := by decide +kernel
theorem dX11_isLeap_7 : decode cX11_isLeap 7 = .ok (.bipush 100, 2) := by decide +kernel
theorem dX11_isLeap_9 : decode cX11_isLeap 9 = .ok (.irem, 1) := by decide +kernel
theorem dX11_isLeap_10 : decode cX11_isLeap 10 = .ok (.ifCond .ne 11, 3) := by decide +kernel
theorem dX11_isLeap_13 : decode cX11_isLeap 13 = .ok (.iload_n 0, 1) := by decide +kernel
theorem dX11_isLeap_14 : decode cX11_isLeap 14 = .ok (.sipush 400, 3) := by decide +kernel
theorem dX11_isLeap_17 : decode cX11_isLeap 17 = .ok (.irem, 1) := by decide +kernel
theorem dX11_isLeap_18 : decode cX11_isLeap 18 = .ok (.ifCond .ne 7, 3) := by decide +kernel
theorem dX11_isLeap_21 : decode cX11_isLeap 21 = .ok (.iconst 1, 1) := by decide +kernel
theorem dX11_isLeap_22 : decode cX11_isLeap 22 = .ok (.goto 4, 3) := by decide +kernel
theorem dX11_isLeap_25 : decode cX11_isLeap 25 = .ok (.iconst 0, 1) := by decide +kernel
theorem dX11_isLeap_26 : decode cX11_isLeap 26 = .ok (.ireturn, 1) := by decide +kernel
theorem dX11_monthLong_0 : decode cX11_monthLong 0 = .ok (.iload_n 1, 1) := by decide +kernel
theorem dX11_monthLong_1 : decode cX11_monthLong 1 = .ok (.iconst 2, 1) := by decide +kernel
theorem dX11_monthLong_2 : decode cX11_monthLong 2 = .ok (.if_icmp .ne 18, 3) := by decide +kernel
theorem dX11_monthLong_5 : decode cX11_monthLong 5 = .ok (.iload_n 0, 1) := by decide +kernel
theorem dX11_monthLong_6 : decode cX11_monthLong 6 = .ok (.invokestatic 58, 3) := by decide +kernel
theorem dX11_monthLong_9 : decode cX11_monthLong 9 = .ok (.ifCond .eq 8, 3) := by decide +kernel
theorem dX11_monthLong_12 : decode cX11_monthLong 12 = .ok (.bipush 29, 2) := by decide +kernel
theorem dX11_monthLong_14 : decode cX11_monthLong 14 = .ok (.goto 5, 3) := by decide +kernel
theorem dX11_monthLong_17 : decode cX11_monthLong 17 = .ok (.bipush 28, 2) := by decide +kernel
theorem dX11_monthLong_19 : decode cX11_monthLong 19 = .ok (.ireturn, 1) := by decide +kernel
theorem dX11_monthLong_20 : decode cX11_monthLong 20 = .ok (.iload_n 1, 1) := by decide +kernel
theorem dX11_monthLong_21 : decode cX11_monthLong 21 = .ok (.iconst 4, 1) := by decide +kernel
theorem dX11_monthLong_22 : decode cX11_monthLong 22 = .ok (.if_icmp .eq 21, 3) := by decide +kernel
theorem dX11_monthLong_25 : decode cX11_monthLong 25 = .ok (.iload_n 1, 1) := by decide +kernel
theorem dX11_monthLong_26 : decode cX11_monthLong 26 = .ok (.bipush 6, 2) := by decide +kernel
theorem dX11_monthLong_28 : decode cX11_monthLong 28 = .ok (.if_icmp .eq 15, 3) := by decide +kernel
theorem dX11_monthLong_31 : decode cX11_monthLong 31 = .ok (.iload_n 1, 1) := by decide +kernel
theorem dX11_monthLong_32 : decode cX11_monthLong 32 = .ok (.bipush 9, 2) := by decide +kernel
theorem dX11_monthLong_34 : decode cX11_monthLong 34 = .ok (.if_icmp .eq 9, 3) := by decide +kernel
theorem dX11_monthLong_37 : decode cX11_monthLong 37 = .ok (.iload_n 1, 1) := by decide +kernel
theorem dX11_monthLong_38 : decode cX11_monthLong 38 = .ok (.bipush 11, 2) := by decide +kernel
theorem dX11_monthLong_40 : decode cX11_monthLong 40 = .ok (.if_icmp .ne 8, 3) := by decide +kernel
theorem dX11_monthLong_43 : decode cX11_monthLong 43 = .ok (.bipush 30, 2) := by decide +kernel
theorem dX11_monthLong_45 : decode cX11_monthLong 45 = .ok (.goto 5, 3) := by decide +kernel
theorem dX11_monthLong_48 : decode cX11_monthLong 48 = .ok (.bipush 31, 2) := by decide +kernel
theorem dX11_monthLong_50 : decode cX11_monthLong 50 = .ok (.ireturn, 1) := by decide +kernel
theorem dX11_isDate_0 : decode cX11_isDate 0 = .ok (.iload_n 0, 1) := by decide +kernel
theorem dX11_isDate_1 : decode cX11_isDate 1 = .ok (.i2l, 1) := by decide +kernel
theorem dX11_isDate_2 : decode cX11_isDate 2 = .ok (.ldc2_w 62, 3) := by decide +kernel
theorem dX11_isDate_5 : decode cX11_isDate 5 = .ok (.ldc2_w 64, 3) := by decide +kernel
theorem dX11_isDate_8 : decode cX11_isDate 8 = .ok (.invokestatic 66, 3) := by decide +kernel
theorem dX11_isDate_11 : decode cX11_isDate 11 = .ok (.ifCond .eq 33, 3) := by decide +kernel
theorem dX11_isDate_14 : decode cX11_isDate 14 = .ok (.iload_n 1, 1) := by decide +kernel
theorem dX11_isDate_15 : decode cX11_isDate 15 = .ok (.i2l, 1) := by decide +kernel
theorem dX11_isDate_16 : decode cX11_isDate 16 = .ok (.lconst 1, 1) := by decide +kernel
theorem dX11_isDate_17 : decode cX11_isDate 17 = .ok (.ldc2_w 70, 3) := by decide +kernel
theorem dX11_isDate_20 : decode cX11_isDate 20 = .ok (.invokestatic 66, 3) := by decide +kernel
theorem dX11_isDate_23 : decode cX11_isDate 23 = .ok (.ifCond .eq 21, 3) := by decide +kernel
theorem dX11_isDate_26 : decode cX11_isDate 26 = .ok (.iload_n 2, 1) := by decide +kernel
theorem dX11_isDate_27 : decode cX11_isDate 27 = .ok (.iconst 1, 1) := by decide +kernel
theorem dX11_isDate_28 : decode cX11_isDate 28 = .ok (.if_icmp .lt 16, 3) := by decide +kernel
theorem dX11_isDate_31 : decode cX11_isDate 31 = .ok (.iload_n 2, 1) := by decide +kernel
theorem dX11_isDate_32 : decode cX11_isDate 32 = .ok (.iload_n 0, 1) := by decide +kernel
theorem dX11_isDate_33 : decode cX11_isDate 33 = .ok (.iload_n 1, 1) := by decide +kernel
theorem dX11_isDate_34 : decode cX11_isDate 34 = .ok (.invokestatic 72, 3) := by decide +kernel
theorem dX11_isDate_37 : decode cX11_isDate 37 = .ok (.if_icmp .gt 7, 3) := by decide +kernel
theorem dX11_isDate_40 : decode cX11_isDate 40 = .ok (.iconst 1, 1) := by decide +kernel
theorem dX11_isDate_41 : decode cX11_isDate 41 = .ok (.goto 4, 3) := by decide +kernel
theorem dX11_isDate_44 : decode cX11_isDate 44 = .ok (.iconst 0, 1) := by decide +kernel
theorem dX11_isDate_45 : decode cX11_isDate 45 = .ok (.ireturn, 1) := by decide +kernel
theorem dX11_yearBegin_0 : decode cX11_yearBegin 0 = .ok (.iload_n 0, 1) := by decide +kernel
theorem dX11_yearBegin_1 : decode cX11_yearBegin 1 = .ok (.iconst 1, 1) := by decide +kernel
theorem dX11_yearBegin_2 : decode cX11_yearBegin 2 = .ok (.isub, 1) := by decide +kernel
theorem dX11_yearBegin_3 : decode cX11_yearBegin 3 = .ok (.istore_n 1, 1) := by decide +kernel
theorem dX11_yearBegin_4 : decode cX11_yearBegin 4 = .ok (.iload_n 1, 1) := by decide +kernel
theorem dX11_yearBegin_5 : decode cX11_yearBegin 5 = .ok (.iconst 4, 1) := by decide +kernel
theorem dX11_yearBegin_6 : decode cX11_yearBegin 6 = .ok (.idiv, 1) := by decide +kernel
theorem dX11_yearBegin_7 : decode cX11_yearBegin 7 = .ok (.iload_n 1, 1) := by decide +kernel
theorem dX11_yearBegin_8 : decode cX11_yearBegin 8 = .ok (.bipush 100, 2) := by decide +kernel
theorem dX11_yearBegin_10 : decode cX11_yearBegin 10 = .ok (.idiv, 1) := by decide +kernel
theorem dX11_yearBegin_11 : decode cX11_yearBegin 11 = .ok (.isub, 1) := by decide +kernel
theorem dX11_yearBegin_12 : decode cX11_yearBegin 12 = .ok (.iload_n 1, 1) := by decide +kernel
theorem dX11_yearBegin_13 : decode cX11_yearBegin 13 = .ok (.sipush 400, 3) := by decide +kernel
theorem dX11_yearBegin_16 : decode cX11_yearBegin 16 = .ok (.idiv, 1) := by decide +kernel
theorem dX11_yearBegin_17 : decode cX11_yearBegin 17 = .ok (.iadd, 1) := by decide +kernel
theorem dX11_yearBegin_18 : decode cX11_yearBegin 18 = .ok (.sipush 436, 3) := by decide +kernel
theorem dX11_yearBegin_21 : decode cX11_yearBegin 21 = .ok (.isub, 1) := by decide +kernel
theorem dX11_yearBegin_22 : decode cX11_yearBegin 22 = .ok (.istore_n 2, 1) := by decide +kernel
theorem dX11_yearBegin_23 : decode cX11_yearBegin 23 = .ok (.sipush 365, 3) := by decide +kernel
theorem dX11_yearBegin_26 : decode cX11_yearBegin 26 = .ok (.iload_n 0, 1) := by decide +kernel
theorem dX11_yearBegin_27 : decode cX11_yearBegin 27 = .ok (.sipush 1800, 3) := by decide +kernel
theorem dX11_yearBegin_30 : decode cX11_yearBegin 30 = .ok (.isub, 1) := by decide +kernel
theorem dX11_yearBegin_31 : decode cX11_yearBegin 31 = .ok (.imul, 1) := by decide +kernel
theorem dX11_yearBegin_32 : decode cX11_yearBegin 32 = .ok (.iload_n 2, 1) := by decide +kernel
theorem dX11_yearBegin_33 : decode cX11_yearBegin 33 = .ok (.iadd, 1) := by decide +kernel
theorem dX11_yearBegin_34 : decode cX11_yearBegin 34 = .ok (.ireturn, 1) := by decide +kernel
theorem dX11_numberOf_0 : decode cX11_numberOf 0 = .ok (.iload_n 0, 1) := by decide +kernel
theorem dX11_numberOf_1 : decode cX11_numberOf 1 = .ok (.invokestatic 76, 3) := by decide +kernel
theorem dX11_numberOf_4 : decode cX11_numberOf 4 = .ok (.istore_n 3, 1) := by decide +kernel
theorem dX11_numberOf_5 : decode cX11_numberOf 5 = .ok (.iconst 1, 1) := by decide +kernel
theorem dX11_numberOf_6 : decode cX11_numberOf 6 = .ok (.istore 4, 2) := by decide +kernel
theorem dX11_numberOf_8 : decode cX11_numberOf 8 = .ok (.iload 4, 2) := by decide +kernel
theorem dX11_numberOf_10 : decode cX11_numberOf 10 = .ok (.iload_n 1, 1) := by decide +kernel
theorem dX11_numberOf_11 : decode cX11_numberOf 11 = .ok (.if_icmp .ge 18, 3) := by decide +kernel
theorem dX11_numberOf_14 : decode cX11_numberOf 14 = .ok (.iload_n 3, 1) := by decide +kernel
theorem dX11_numberOf_15 : decode cX11_numberOf 15 = .ok (.iload_n 0, 1) := by decide +kernel
theorem dX11_numberOf_16 : decode cX11_numberOf 16 = .ok (.iload 4, 2) := by decide +kernel
theorem dX11_numberOf_18 : decode cX11_numberOf 18 = .ok (.invokestatic 72, 3) := by decide +kernel
theorem dX11_numberOf_21 : decode cX11_numberOf 21 = .ok (.iadd, 1) := by decide +kernel
theorem dX11_numberOf_22 : decode cX11_numberOf 22 = .ok (.istore_n 3, 1) := by decide +kernel
theorem dX11_numberOf_23 : decode cX11_numberOf 23 = .ok (.iinc 4 1, 3) := by decide +kernel
theorem dX11_numberOf_26 : decode cX11_numberOf 26 = .ok (.goto (-18), 3) := by decide +kernel
theorem dX11_numberOf_29 : decode cX11_numberOf 29 = .ok (.iload_n 3, 1) := by decide +kernel
theorem dX11_numberOf_30 : decode cX11_numberOf 30 = .ok (.iload_n 2, 1) := by decide +kernel
theorem dX11_numberOf_31 : decode cX11_numberOf 31 = .ok (.iadd, 1) := by decide +kernel
theorem dX11_numberOf_32 : decode cX11_numberOf 32 = .ok (.iconst 1, 1) := by decide +kernel
theorem dX11_numberOf_33 : decode cX11_numberOf 33 = .ok (.isub, 1) := by decide +kernel
theorem dX11_numberOf_34 : decode cX11_numberOf 34 = .ok (.ireturn, 1) := by decide +kernel
theorem dX11_yearOf_0 : decode cX11_yearOf 0 = .ok (.sipush 1800, 3) := by decide +kernel
theorem dX11_yearOf_3 : decode cX11_yearOf 3 = .ok (.iload_n 0, 1) := by decide +kernel
theorem dX11_yearOf_4 : decode cX11_yearOf 4 = .ok (.sipush 366, 3) := by decide +kernel
theorem dX11_yearOf_7 : decode cX11_yearOf 7 = .ok (.idiv, 1) := by decide +kernel
theorem dX11_yearOf_8 : decode cX11_yearOf 8 = .ok (.iadd, 1) := by decide +kernel
theorem dX11_yearOf_9 : decode cX11_yearOf 9 = .ok (.istore_n 1, 1) := by decide +kernel
theorem dX11_yearOf_10 : decode cX11_yearOf 10 = .ok (.iload_n 1, 1) := by decide +kernel
theorem dX11_yearOf_11 : decode cX11_yearOf 11 = .ok (.sipush 2199, 3) := by decide +kernel
theorem dX11_yearOf_14 : decode cX11_yearOf 14 = .ok (.if_icmp .ge 19, 3) := by decide +kernel
theorem dX11_yearOf_17 : decode cX11_yearOf 17 = .ok (.iload_n 1, 1) := by decide +kernel
theorem dX11_yearOf_18 : decode cX11_yearOf 18 = .ok (.iconst 1, 1) := by decide +kernel
theorem dX11_yearOf_19 : decode cX11_yearOf 19 = .ok (.iadd, 1) := by decide +kernel
theorem dX11_yearOf_20 : decode cX11_yearOf 20 = .ok (.invokestatic 76, 3) := by decide +kernel
theorem dX11_yearOf_23 : decode cX11_yearOf 23 = .ok (.iload_n 0, 1) := by decide +kernel
theorem dX11_yearOf_24 : decode cX11_yearOf 24 = .ok (.if_icmp .gt 9, 3) := by decide +kernel
theorem dX11_yearOf_27 : decode cX11_yearOf 27 = .ok (.iinc 1 1, 3) := by decide +kernel
theorem dX11_yearOf_30 : decode cX11_yearOf 30 = .ok (.goto (-20), 3) := by decide +kernel
theorem dX11_yearOf_33 : decode cX11_yearOf 33 = .ok (.iload_n 1, 1) := by decide +kernel
theorem dX11_yearOf_34 : decode cX11_yearOf 34 = .ok (.ireturn, 1) := by decide +kernel
theorem dX11_takeApart_0 : decode cX11_takeApart 0 = .ok (.aload_n 0, 1) := by decide +kernel
theorem dX11_takeApart_1 : decode cX11_takeApart 1 = .ok (.iload_n 1, 1) := by decide +kernel
theorem dX11_takeApart_2 : decode cX11_takeApart 2 = .ok (.invokestatic 80, 3) := by decide +kernel
theorem dX11_takeApart_5 : decode cX11_takeApart 5 = .ok (.putfield 83, 3) := by decide +kernel
theorem dX11_takeApart_8 : decode cX11_takeApart 8 = .ok (.iload_n 1, 1) := by decide +kernel
theorem dX11_takeApart_9 : decode cX11_takeApart 9 = .ok (.aload_n 0, 1) := by decide +kernel
theorem dX11_takeApart_10 : decode cX11_takeApart 10 = .ok (.getfield 83, 3) := by decide +kernel
theorem dX11_takeApart_13 : decode cX11_takeApart 13 = .ok (.invokestatic 76, 3) := by decide +kernel
theorem dX11_takeApart_16 : decode cX11_takeApart 16 = .ok (.isub, 1) := by decide +kernel
theorem dX11_takeApart_17 : decode cX11_takeApart 17 = .ok (.istore_n 2, 1) := by decide +kernel
theorem dX11_takeApart_18 : decode cX11_takeApart 18 = .ok (.aload_n 0, 1) := by decide +kernel
theorem dX11_takeApart_19 : decode cX11_takeApart 19 = .ok (.iconst 1, 1) := by decide +kernel
theorem dX11_takeApart_20 : decode cX11_takeApart 20 = .ok (.putfield 87, 3) := by decide +kernel
theorem dX11_takeApart_23 : decode cX11_takeApart 23 = .ok (.iload_n 2, 1) := by decide +kernel
theorem dX11_takeApart_24 : decode cX11_takeApart 24 = .ok (.aload_n 0, 1) := by decide +kernel
theorem dX11_takeApart_25 : decode cX11_takeApart 25 = .ok (.getfield 83, 3) := by decide +kernel
theorem dX11_takeApart_28 : decode cX11_takeApart 28 = .ok (.aload_n 0, 1) := by decide +kernel
theorem dX11_takeApart_29 : decode cX11_takeApart 29 = .ok (.getfield 87, 3) := by decide +kernel
theorem dX11_takeApart_32 : decode cX11_takeApart 32 = .ok (.invokestatic 72, 3) := by decide +kernel
theorem dX11_takeApart_35 : decode cX11_takeApart 35 = .ok (.if_icmp .lt 30, 3) := by decide +kernel
theorem dX11_takeApart_38 : decode cX11_takeApart 38 = .ok (.iload_n 2, 1) := by decide +kernel
theorem dX11_takeApart_39 : decode cX11_takeApart 39 = .ok (.aload_n 0, 1) := by decide +kernel
theorem dX11_takeApart_40 : decode cX11_takeApart 40 = .ok (.getfield 83, 3) := by decide +kernel
theorem dX11_takeApart_43 : decode cX11_takeApart 43 = .ok (.aload_n 0, 1) := by decide +kernel
theorem dX11_takeApart_44 : decode cX11_takeApart 44 = .ok (.getfield 87, 3) := by decide +kernel
theorem dX11_takeApart_47 : decode cX11_takeApart 47 = .ok (.invokestatic 72, 3) := by decide +kernel
theorem dX11_takeApart_50 : decode cX11_takeApart 50 = .ok (.isub, 1) := by decide +kernel
theorem dX11_takeApart_51 : decode cX11_takeApart 51 = .ok (.istore_n 2, 1) := by decide +kernel
theorem dX11_takeApart_52 : decode cX11_takeApart 52 = .ok (.aload_n 0, 1) := by decide +kernel
theorem dX11_takeApart_53 : decode cX11_takeApart 53 = .ok (.dup, 1) := by decide +kernel
theorem dX11_takeApart_54 : decode cX11_takeApart 54 = .ok (.getfield 87, 3) := by decide +kernel
theorem dX11_takeApart_57 : decode cX11_takeApart 57 = .ok (.iconst 1, 1) := by decide +kernel
theorem dX11_takeApart_58 : decode cX11_takeApart 58 = .ok (.iadd, 1) := by decide +kernel
theorem dX11_takeApart_59 : decode cX11_takeApart 59 = .ok (.putfield 87, 3) := by decide +kernel
theorem dX11_takeApart_62 : decode cX11_takeApart 62 = .ok (.goto (-39), 3) := by decide +kernel
theorem dX11_takeApart_65 : decode cX11_takeApart 65 = .ok (.aload_n 0, 1) := by decide +kernel
theorem dX11_takeApart_66 : decode cX11_takeApart 66 = .ok (.iload_n 2, 1) := by decide +kernel
theorem dX11_takeApart_67 : decode cX11_takeApart 67 = .ok (.iconst 1, 1) := by decide +kernel
theorem dX11_takeApart_68 : decode cX11_takeApart 68 = .ok (.iadd, 1) := by decide +kernel
theorem dX11_takeApart_69 : decode cX11_takeApart 69 = .ok (.putfield 90, 3) := by decide +kernel
theorem dX11_takeApart_72 : decode cX11_takeApart 72 = .ok (.return_, 1) := by decide +kernel
theorem dX11_isDay_0 : decode cX11_isDay 0 = .ok (.iload_n 0, 1) := by decide +kernel
theorem dX11_isDay_1 : decode cX11_isDay 1 = .ok (.i2l, 1) := by decide +kernel
theorem dX11_isDay_2 : decode cX11_isDay 2 = .ok (.lconst 0, 1) := by decide +kernel
theorem dX11_isDay_3 : decode cX11_isDay 3 = .ok (.ldc2_w 93, 3) := by decide +kernel
theorem dX11_isDay_6 : decode cX11_isDay 6 = .ok (.invokestatic 66, 3) := by decide +kernel
theorem dX11_isDay_9 : decode cX11_isDay 9 = .ok (.ireturn, 1) := by decide +kernel
theorem dX11_day_0 : decode cX11_day 0 = .ok (.iload_n 1, 1) := by decide +kernel
theorem dX11_day_1 : decode cX11_day 1 = .ok (.iload_n 2, 1) := by decide +kernel
theorem dX11_day_2 : decode cX11_day 2 = .ok (.iload_n 3, 1) := by decide +kernel
theorem dX11_day_3 : decode cX11_day 3 = .ok (.invokestatic 95, 3) := by decide +kernel
theorem dX11_day_6 : decode cX11_day 6 = .ok (.ifCond .eq 12, 3) := by decide +kernel
theorem dX11_day_9 : decode cX11_day 9 = .ok (.iload_n 1, 1) := by decide +kernel
theorem dX11_day_10 : decode cX11_day 10 = .ok (.iload_n 2, 1) := by decide +kernel
theorem dX11_day_11 : decode cX11_day 11 = .ok (.iload_n 3, 1) := by decide +kernel
theorem dX11_day_12 : decode cX11_day 12 = .ok (.invokestatic 99, 3) := by decide +kernel
theorem dX11_day_15 : decode cX11_day 15 = .ok (.goto 9, 3) := by decide +kernel
theorem dX11_day_18 : decode cX11_day 18 = .ok (.aload_n 0, 1) := by decide +kernel
theorem dX11_day_19 : decode cX11_day 19 = .ok (.bipush (-2), 2) := by decide +kernel
theorem dX11_day_21 : decode cX11_day 21 = .ok (.invokevirtual 103, 3) := by decide +kernel
theorem dX11_day_24 : decode cX11_day 24 = .ok (.ireturn, 1) := by decide +kernel
theorem dX11_date_0 : decode cX11_date 0 = .ok (.iload_n 1, 1) := by decide +kernel
theorem dX11_date_1 : decode cX11_date 1 = .ok (.invokestatic 106, 3) := by decide +kernel
theorem dX11_date_4 : decode cX11_date 4 = .ok (.ifCond .eq 15, 3) := by decide +kernel
theorem dX11_date_7 : decode cX11_date 7 = .ok (.iload_n 2, 1) := by decide +kernel
theorem dX11_date_8 : decode cX11_date 8 = .ok (.i2l, 1) := by decide +kernel
theorem dX11_date_9 : decode cX11_date 9 = .ok (.lconst 0, 1) := by decide +kernel
theorem dX11_date_10 : decode cX11_date 10 = .ok (.ldc2_w 109, 3) := by decide +kernel
theorem dX11_date_13 : decode cX11_date 13 = .ok (.invokestatic 66, 3) := by decide +kernel
theorem dX11_date_16 : decode cX11_date 16 = .ok (.ifCond .ne 10, 3) := by decide +kernel
theorem dX11_date_19 : decode cX11_date 19 = .ok (.aload_n 0, 1) := by decide +kernel
theorem dX11_date_20 : decode cX11_date 20 = .ok (.bipush (-2), 2) := by decide +kernel
theorem dX11_date_22 : decode cX11_date 22 = .ok (.invokevirtual 103, 3) := by decide +kernel
theorem dX11_date_25 : decode cX11_date 25 = .ok (.ireturn, 1) := by decide +kernel
theorem dX11_date_26 : decode cX11_date 26 = .ok (.aload_n 0, 1) := by decide +kernel
theorem dX11_date_27 : decode cX11_date 27 = .ok (.iload_n 1, 1) := by decide +kernel
theorem dX11_date_28 : decode cX11_date 28 = .ok (.invokevirtual 111, 3) := by decide +kernel
theorem dX11_date_31 : decode cX11_date 31 = .ok (.iload_n 2, 1) := by decide +kernel
theorem dX11_date_32 : decode cX11_date 32 = .ok (.ifCond .ne 10, 3) := by decide +kernel
theorem dX11_date_35 : decode cX11_date 35 = .ok (.aload_n 0, 1) := by decide +kernel
theorem dX11_date_36 : decode cX11_date 36 = .ok (.getfield 83, 3) := by decide +kernel
theorem dX11_date_39 : decode cX11_date 39 = .ok (.goto 19, 3) := by decide +kernel
theorem dX11_date_42 : decode cX11_date 42 = .ok (.iload_n 2, 1) := by decide +kernel
theorem dX11_date_43 : decode cX11_date 43 = .ok (.iconst 1, 1) := by decide +kernel
theorem dX11_date_44 : decode cX11_date 44 = .ok (.if_icmp .ne 10, 3) := by decide +kernel
theorem dX11_date_47 : decode cX11_date 47 = .ok (.aload_n 0, 1) := by decide +kernel
theorem dX11_date_48 : decode cX11_date 48 = .ok (.getfield 87, 3) := by decide +kernel
theorem dX11_date_51 : decode cX11_date 51 = .ok (.goto 7, 3) := by decide +kernel
theorem dX11_date_54 : decode cX11_date 54 = .ok (.aload_n 0, 1) := by decide +kernel
theorem dX11_date_55 : decode cX11_date 55 = .ok (.getfield 90, 3) := by decide +kernel
theorem dX11_date_58 : decode cX11_date 58 = .ok (.ireturn, 1) := by decide +kernel
theorem dX11_isPerson_0 : decode cX11_isPerson 0 = .ok (.iload_n 1, 1) := by decide +kernel
theorem dX11_isPerson_1 : decode cX11_isPerson 1 = .ok (.i2l, 1) := by decide +kernel
theorem dX11_isPerson_2 : decode cX11_isPerson 2 = .ok (.lconst 0, 1) := by decide +kernel
theorem dX11_isPerson_3 : decode cX11_isPerson 3 = .ok (.aload_n 0, 1) := by decide +kernel
theorem dX11_isPerson_4 : decode cX11_isPerson 4 = .ok (.getfield 7, 3) := by decide +kernel
theorem dX11_isPerson_7 : decode cX11_isPerson 7 = .ok (.iconst 0, 1) := by decide +kernel
theorem dX11_isPerson_8 : decode cX11_isPerson 8 = .ok (.iaload, 1) := by decide +kernel
theorem dX11_isPerson_9 : decode cX11_isPerson 9 = .ok (.iconst 1, 1) := by decide +kernel
theorem dX11_isPerson_10 : decode cX11_isPerson 10 = .ok (.isub, 1) := by decide +kernel
theorem dX11_isPerson_11 : decode cX11_isPerson 11 = .ok (.i2l, 1) := by decide +kernel
theorem dX11_isPerson_12 : decode cX11_isPerson 12 = .ok (.invokestatic 66, 3) := by decide +kernel
theorem dX11_isPerson_15 : decode cX11_isPerson 15 = .ok (.ireturn, 1) := by decide +kernel
theorem dX11_isGate_0 : decode cX11_isGate 0 = .ok (.iload_n 1, 1) := by decide +kernel
theorem dX11_isGate_1 : decode cX11_isGate 1 = .ok (.i2l, 1) := by decide +kernel
theorem dX11_isGate_2 : decode cX11_isGate 2 = .ok (.lconst 0, 1) := by decide +kernel
theorem dX11_isGate_3 : decode cX11_isGate 3 = .ok (.aload_n 0, 1) := by decide +kernel
theorem dX11_isGate_4 : decode cX11_isGate 4 = .ok (.getfield 7, 3) := by decide +kernel
theorem dX11_isGate_7 : decode cX11_isGate 7 = .ok (.iconst 1, 1) := by decide +kernel
theorem dX11_isGate_8 : decode cX11_isGate 8 = .ok (.iaload, 1) := by decide +kernel
theorem dX11_isGate_9 : decode cX11_isGate 9 = .ok (.iconst 1, 1) := by decide +kernel
theorem dX11_isGate_10 : decode cX11_isGate 10 = .ok (.isub, 1) := by decide +kernel
theorem dX11_isGate_11 : decode cX11_isGate 11 = .ok (.i2l, 1) := by decide +kernel
theorem dX11_isGate_12 : decode cX11_isGate 12 = .ok (.invokestatic 66, 3) := by decide +kernel
theorem dX11_isGate_15 : decode cX11_isGate 15 = .ok (.ireturn, 1) := by decide +kernel
theorem dX11_person_0 : decode cX11_person 0 = .ok (.iload_n 1, 1) := by decide +kernel
theorem dX11_person_1 : decode cX11_person 1 = .ok (.invokestatic 106, 3) := by decide +kernel
theorem dX11_person_4 : decode cX11_person 4 = .ok (.ifCond .ne 10, 3) := by decide +kernel
theorem dX11_person_7 : decode cX11_person 7 = .ok (.aload_n 0, 1) := by decide +kernel
theorem dX11_person_8 : decode cX11_person 8 = .ok (.bipush (-2), 2) := by decide +kernel
theorem dX11_person_10 : decode cX11_person 10 = .ok (.invokevirtual 103, 3) := by decide +kernel
theorem dX11_person_13 : decode cX11_person 13 = .ok (.ireturn, 1) := by decide +kernel
theorem dX11_person_14 : decode cX11_person 14 = .ok (.aload_n 0, 1) := by decide +kernel
theorem dX11_person_15 : decode cX11_person 15 = .ok (.getfield 7, 3) := by decide +kernel
theorem dX11_person_18 : decode cX11_person 18 = .ok (.iconst 0, 1) := by decide +kernel
theorem dX11_person_19 : decode cX11_person 19 = .ok (.iaload, 1) := by decide +kernel
theorem dX11_person_20 : decode cX11_person 20 = .ok (.bipush 8, 2) := by decide +kernel
theorem dX11_person_22 : decode cX11_person 22 = .ok (.if_icmp .ne 8, 3) := by decide +kernel
theorem dX11_person_25 : decode cX11_person 25 = .ok (.aload_n 0, 1) := by decide +kernel
theorem dX11_person_26 : decode cX11_person 26 = .ok (.invokevirtual 115, 3) := by decide +kernel
theorem dX11_person_29 : decode cX11_person 29 = .ok (.ireturn, 1) := by decide +kernel
theorem dX11_person_30 : decode cX11_person 30 = .ok (.aload_n 0, 1) := by decide +kernel
theorem dX11_person_31 : decode cX11_person 31 = .ok (.getfield 7, 3) := by decide +kernel
theorem dX11_person_34 : decode cX11_person 34 = .ok (.iconst 5, 1) := by decide +kernel
theorem dX11_person_35 : decode cX11_person 35 = .ok (.aload_n 0, 1) := by decide +kernel
theorem dX11_person_36 : decode cX11_person 36 = .ok (.getfield 7, 3) := by decide +kernel
theorem dX11_person_39 : decode cX11_person 39 = .ok (.iconst 0, 1) := by decide +kernel
theorem dX11_person_40 : decode cX11_person 40 = .ok (.iaload, 1) := by decide +kernel
theorem dX11_person_41 : decode cX11_person 41 = .ok (.iadd, 1) := by decide +kernel
theorem dX11_person_42 : decode cX11_person 42 = .ok (.iload_n 1, 1) := by decide +kernel
theorem dX11_person_43 : decode cX11_person 43 = .ok (.iastore, 1) := by decide +kernel
theorem dX11_person_44 : decode cX11_person 44 = .ok (.aload_n 0, 1) := by decide +kernel
theorem dX11_person_45 : decode cX11_person 45 = .ok (.getfield 7, 3) := by decide +kernel
theorem dX11_person_48 : decode cX11_person 48 = .ok (.bipush 13, 2) := by decide +kernel
theorem dX11_person_50 : decode cX11_person 50 = .ok (.aload_n 0, 1) := by decide +kernel
theorem dX11_person_51 : decode cX11_person 51 = .ok (.getfield 7, 3) := by decide +kernel
theorem dX11_person_54 : decode cX11_person 54 = .ok (.iconst 0, 1) := by decide +kernel
theorem dX11_person_55 : decode cX11_person 55 = .ok (.iaload, 1) := by decide +kernel
theorem dX11_person_56 : decode cX11_person 56 = .ok (.iadd, 1) := by decide +kernel
theorem dX11_person_57 : decode cX11_person 57 = .ok (.iconst 0, 1) := by decide +kernel
theorem dX11_person_58 : decode cX11_person 58 = .ok (.iastore, 1) := by decide +kernel
theorem dX11_person_59 : decode cX11_person 59 = .ok (.aload_n 0, 1) := by decide +kernel
theorem dX11_person_60 : decode cX11_person 60 = .ok (.getfield 7, 3) := by decide +kernel
theorem dX11_person_63 : decode cX11_person 63 = .ok (.bipush 21, 2) := by decide +kernel
theorem dX11_person_65 : decode cX11_person 65 = .ok (.aload_n 0, 1) := by decide +kernel
theorem dX11_person_66 : decode cX11_person 66 = .ok (.getfield 7, 3) := by decide +kernel
theorem dX11_person_69 : decode cX11_person 69 = .ok (.iconst 0, 1) := by decide +kernel
theorem dX11_person_70 : decode cX11_person 70 = .ok (.iaload, 1) := by decide +kernel
theorem dX11_person_71 : decode cX11_person 71 = .ok (.iadd, 1) := by decide +kernel
theorem dX11_person_72 : decode cX11_person 72 = .ok (.iconst 0, 1) := by decide +kernel
theorem dX11_person_73 : decode cX11_person 73 = .ok (.iastore, 1) := by decide +kernel
theorem dX11_person_74 : decode cX11_person 74 = .ok (.aload_n 0, 1) := by decide +kernel
theorem dX11_person_75 : decode cX11_person 75 = .ok (.getfield 7, 3) := by decide +kernel
theorem dX11_person_78 : decode cX11_person 78 = .ok (.iconst 0, 1) := by decide +kernel
theorem dX11_person_79 : decode cX11_person 79 = .ok (.dup2, 1) := by decide +kernel
theorem dX11_person_80 : decode cX11_person 80 = .ok (.iaload, 1) := by decide +kernel
theorem dX11_person_81 : decode cX11_person 81 = .ok (.iconst 1, 1) := by decide +kernel
theorem dX11_person_82 : decode cX11_person 82 = .ok (.iadd, 1) := by decide +kernel
theorem dX11_person_83 : decode cX11_person 83 = .ok (.iastore, 1) := by decide +kernel
theorem dX11_person_84 : decode cX11_person 84 = .ok (.aload_n 0, 1) := by decide +kernel
theorem dX11_person_85 : decode cX11_person 85 = .ok (.getfield 7, 3) := by decide +kernel
theorem dX11_person_88 : decode cX11_person 88 = .ok (.iconst 0, 1) := by decide +kernel
theorem dX11_person_89 : decode cX11_person 89 = .ok (.iaload, 1) := by decide +kernel
theorem dX11_person_90 : decode cX11_person 90 = .ok (.iconst 1, 1) := by decide +kernel
theorem dX11_person_91 : decode cX11_person 91 = .ok (.isub, 1) := by decide +kernel
theorem dX11_person_92 : decode cX11_person 92 = .ok (.ireturn, 1) := by decide +kernel
theorem dX11_gate_0 : decode cX11_gate 0 = .ok (.iload_n 1, 1) := by decide +kernel
theorem dX11_gate_1 : decode cX11_gate 1 = .ok (.i2l, 1) := by decide +kernel
theorem dX11_gate_2 : decode cX11_gate 2 = .ok (.lconst 0, 1) := by decide +kernel
theorem dX11_gate_3 : decode cX11_gate 3 = .ok (.ldc2_w 119, 3) := by decide +kernel
theorem dX11_gate_6 : decode cX11_gate 6 = .ok (.invokestatic 66, 3) := by decide +kernel
theorem dX11_gate_9 : decode cX11_gate 9 = .ok (.ifCond .eq 15, 3) := by decide +kernel
theorem dX11_gate_12 : decode cX11_gate 12 = .ok (.iload_n 2, 1) := by decide +kernel
theorem dX11_gate_13 : decode cX11_gate 13 = .ok (.i2l, 1) := by decide +kernel
theorem dX11_gate_14 : decode cX11_gate 14 = .ok (.lconst 1, 1) := by decide +kernel
theorem dX11_gate_15 : decode cX11_gate 15 = .ok (.ldc2_w 121, 3) := by decide +kernel
theorem dX11_gate_18 : decode cX11_gate 18 = .ok (.invokestatic 66, 3) := by decide +kernel
theorem dX11_gate_21 : decode cX11_gate 21 = .ok (.ifCond .ne 10, 3) := by decide +kernel
theorem dX11_gate_24 : decode cX11_gate 24 = .ok (.aload_n 0, 1) := by decide +kernel
theorem dX11_gate_25 : decode cX11_gate 25 = .ok (.bipush (-2), 2) := by decide +kernel
theorem dX11_gate_27 : decode cX11_gate 27 = .ok (.invokevirtual 103, 3) := by decide +kernel
theorem dX11_gate_30 : decode cX11_gate 30 = .ok (.ireturn, 1) := by decide +kernel
theorem dX11_gate_31 : decode cX11_gate 31 = .ok (.aload_n 0, 1) := by decide +kernel
theorem dX11_gate_32 : decode cX11_gate 32 = .ok (.getfield 7, 3) := by decide +kernel
theorem dX11_gate_35 : decode cX11_gate 35 = .ok (.iconst 1, 1) := by decide +kernel
theorem dX11_gate_36 : decode cX11_gate 36 = .ok (.iaload, 1) := by decide +kernel
theorem dX11_gate_37 : decode cX11_gate 37 = .ok (.iconst 4, 1) := by decide +kernel
theorem dX11_gate_38 : decode cX11_gate 38 = .ok (.if_icmp .ne 8, 3) := by decide +kernel
theorem dX11_gate_41 : decode cX11_gate 41 = .ok (.aload_n 0, 1) := by decide +kernel
theorem dX11_gate_42 : decode cX11_gate 42 = .ok (.invokevirtual 115, 3) := by decide +kernel
theorem dX11_gate_45 : decode cX11_gate 45 = .ok (.ireturn, 1) := by decide +kernel
theorem dX11_gate_46 : decode cX11_gate 46 = .ok (.aload_n 0, 1) := by decide +kernel
end
section
theorem dX11_gate_47 : decode cX11_gate 47 = .ok (.getfield 7, 3) := by decide +kernel
theorem dX11_gate_50 : decode cX11_gate 50 = .ok (.bipush 29, 2) := by decide +kernel
theorem dX11_gate_52 : decode cX11_gate 52 = .ok (.aload_n 0, 1) := by decide +kernel
theorem dX11_gate_53 : decode cX11_gate 53 = .ok (.getfield 7, 3) := by decide +kernel
theorem dX11_gate_56 : decode cX11_gate 56 = .ok (.iconst 1, 1) := by decide +kernel
theorem dX11_gate_57 : decode cX11_gate 57 = .ok (.iaload, 1) := by decide +kernel
theorem dX11_gate_58 : decode cX11_gate 58 = .ok (.iadd, 1) := by decide +kernel
theorem dX11_gate_59 : decode cX11_gate 59 = .ok (.iload_n 1, 1) := by decide +kernel
theorem dX11_gate_60 : decode cX11_gate 60 = .ok (.iastore, 1) := by decide +kernel
theorem dX11_gate_61 : decode cX11_gate 61 = .ok (.aload_n 0, 1) := by decide +kernel
theorem dX11_gate_62 : decode cX11_gate 62 = .ok (.getfield 7, 3) := by decide +kernel
theorem dX11_gate_65 : decode cX11_gate 65 = .ok (.bipush 33, 2) := by decide +kernel
theorem dX11_gate_67 : decode cX11_gate 67 = .ok (.aload_n 0, 1) := by decide +kernel
theorem dX11_gate_68 : decode cX11_gate 68 = .ok (.getfield 7, 3) := by decide +kernel
theorem dX11_gate_71 : decode cX11_gate 71 = .ok (.iconst 1, 1) := by decide +kernel
theorem dX11_gate_72 : decode cX11_gate 72 = .ok (.iaload, 1) := by decide +kernel
theorem dX11_gate_73 : decode cX11_gate 73 = .ok (.iadd, 1) := by decide +kernel
theorem dX11_gate_74 : decode cX11_gate 74 = .ok (.iload_n 2, 1) := by decide +kernel
theorem dX11_gate_75 : decode cX11_gate 75 = .ok (.iastore, 1) := by decide +kernel
theorem dX11_gate_76 : decode cX11_gate 76 = .ok (.aload_n 0, 1) := by decide +kernel
theorem dX11_gate_77 : decode cX11_gate 77 = .ok (.getfield 7, 3) := by decide +kernel
theorem dX11_gate_80 : decode cX11_gate 80 = .ok (.iconst 1, 1) := by decide +kernel
theorem dX11_gate_81 : decode cX11_gate 81 = .ok (.dup2, 1) := by decide +kernel
theorem dX11_gate_82 : decode cX11_gate 82 = .ok (.iaload, 1) := by decide +kernel
theorem dX11_gate_83 : decode cX11_gate 83 = .ok (.iconst 1, 1) := by decide +kernel
theorem dX11_gate_84 : decode cX11_gate 84 = .ok (.iadd, 1) := by decide +kernel
theorem dX11_gate_85 : decode cX11_gate 85 = .ok (.iastore, 1) := by decide +kernel
theorem dX11_gate_86 : decode cX11_gate 86 = .ok (.aload_n 0, 1) := by decide +kernel
theorem dX11_gate_87 : decode cX11_gate 87 = .ok (.getfield 7, 3) := by decide +kernel
theorem dX11_gate_90 : decode cX11_gate 90 = .ok (.iconst 1, 1) := by decide +kernel
theorem dX11_gate_91 : decode cX11_gate 91 = .ok (.iaload, 1) := by decide +kernel
theorem dX11_gate_92 : decode cX11_gate 92 = .ok (.iconst 1, 1) := by decide +kernel
theorem dX11_gate_93 : decode cX11_gate 93 = .ok (.isub, 1) := by decide +kernel
theorem dX11_gate_94 : decode cX11_gate 94 = .ok (.ireturn, 1) := by decide +kernel
theorem dX11_pair_0 : decode cX11_pair 0 = .ok (.aload_n 0, 1) := by decide +kernel
theorem dX11_pair_1 : decode cX11_pair 1 = .ok (.iload_n 1, 1) := by decide +kernel
theorem dX11_pair_2 : decode cX11_pair 2 = .ok (.invokevirtual 123, 3) := by decide +kernel
theorem dX11_pair_5 : decode cX11_pair 5 = .ok (.ifCond .eq 26, 3) := by decide +kernel
theorem dX11_pair_8 : decode cX11_pair 8 = .ok (.aload_n 0, 1) := by decide +kernel
theorem dX11_pair_9 : decode cX11_pair 9 = .ok (.iload_n 2, 1) := by decide +kernel
theorem dX11_pair_10 : decode cX11_pair 10 = .ok (.invokevirtual 123, 3) := by decide +kernel
theorem dX11_pair_13 : decode cX11_pair 13 = .ok (.ifCond .eq 18, 3) := by decide +kernel
theorem dX11_pair_16 : decode cX11_pair 16 = .ok (.iload_n 1, 1) := by decide +kernel
theorem dX11_pair_17 : decode cX11_pair 17 = .ok (.iload_n 2, 1) := by decide +kernel
theorem dX11_pair_18 : decode cX11_pair 18 = .ok (.if_icmp .eq 13, 3) := by decide +kernel
theorem dX11_pair_21 : decode cX11_pair 21 = .ok (.iload_n 3, 1) := by decide +kernel
theorem dX11_pair_22 : decode cX11_pair 22 = .ok (.i2l, 1) := by decide +kernel
theorem dX11_pair_23 : decode cX11_pair 23 = .ok (.lconst 0, 1) := by decide +kernel
theorem dX11_pair_24 : decode cX11_pair 24 = .ok (.lconst 1, 1) := by decide +kernel
theorem dX11_pair_25 : decode cX11_pair 25 = .ok (.invokestatic 66, 3) := by decide +kernel
theorem dX11_pair_28 : decode cX11_pair 28 = .ok (.ifCond .ne 10, 3) := by decide +kernel
theorem dX11_pair_31 : decode cX11_pair 31 = .ok (.aload_n 0, 1) := by decide +kernel
theorem dX11_pair_32 : decode cX11_pair 32 = .ok (.bipush (-2), 2) := by decide +kernel
theorem dX11_pair_34 : decode cX11_pair 34 = .ok (.invokevirtual 103, 3) := by decide +kernel
theorem dX11_pair_37 : decode cX11_pair 37 = .ok (.ireturn, 1) := by decide +kernel
theorem dX11_pair_38 : decode cX11_pair 38 = .ok (.bipush 13, 2) := by decide +kernel
theorem dX11_pair_40 : decode cX11_pair 40 = .ok (.bipush 8, 2) := by decide +kernel
theorem dX11_pair_42 : decode cX11_pair 42 = .ok (.iload_n 3, 1) := by decide +kernel
theorem dX11_pair_43 : decode cX11_pair 43 = .ok (.imul, 1) := by decide +kernel
theorem dX11_pair_44 : decode cX11_pair 44 = .ok (.iadd, 1) := by decide +kernel
theorem dX11_pair_45 : decode cX11_pair 45 = .ok (.istore 4, 2) := by decide +kernel
theorem dX11_pair_47 : decode cX11_pair 47 = .ok (.aload_n 0, 1) := by decide +kernel
theorem dX11_pair_48 : decode cX11_pair 48 = .ok (.getfield 7, 3) := by decide +kernel
theorem dX11_pair_51 : decode cX11_pair 51 = .ok (.iload 4, 2) := by decide +kernel
theorem dX11_pair_53 : decode cX11_pair 53 = .ok (.iload_n 1, 1) := by decide +kernel
theorem dX11_pair_54 : decode cX11_pair 54 = .ok (.iadd, 1) := by decide +kernel
theorem dX11_pair_55 : decode cX11_pair 55 = .ok (.iaload, 1) := by decide +kernel
theorem dX11_pair_56 : decode cX11_pair 56 = .ok (.iload_n 2, 1) := by decide +kernel
theorem dX11_pair_57 : decode cX11_pair 57 = .ok (.invokestatic 126, 3) := by decide +kernel
theorem dX11_pair_60 : decode cX11_pair 60 = .ok (.ifCond .eq 8, 3) := by decide +kernel
theorem dX11_pair_63 : decode cX11_pair 63 = .ok (.aload_n 0, 1) := by decide +kernel
theorem dX11_pair_64 : decode cX11_pair 64 = .ok (.invokevirtual 130, 3) := by decide +kernel
theorem dX11_pair_67 : decode cX11_pair 67 = .ok (.ireturn, 1) := by decide +kernel
theorem dX11_pair_68 : decode cX11_pair 68 = .ok (.aload_n 0, 1) := by decide +kernel
theorem dX11_pair_69 : decode cX11_pair 69 = .ok (.getfield 7, 3) := by decide +kernel
theorem dX11_pair_72 : decode cX11_pair 72 = .ok (.iload 4, 2) := by decide +kernel
theorem dX11_pair_74 : decode cX11_pair 74 = .ok (.iload_n 1, 1) := by decide +kernel
theorem dX11_pair_75 : decode cX11_pair 75 = .ok (.iadd, 1) := by decide +kernel
theorem dX11_pair_76 : decode cX11_pair 76 = .ok (.dup2, 1) := by decide +kernel
theorem dX11_pair_77 : decode cX11_pair 77 = .ok (.iaload, 1) := by decide +kernel
theorem dX11_pair_78 : decode cX11_pair 78 = .ok (.iconst 1, 1) := by decide +kernel
theorem dX11_pair_79 : decode cX11_pair 79 = .ok (.iload_n 2, 1) := by decide +kernel
theorem dX11_pair_80 : decode cX11_pair 80 = .ok (.ishl, 1) := by decide +kernel
theorem dX11_pair_81 : decode cX11_pair 81 = .ok (.ior, 1) := by decide +kernel
theorem dX11_pair_82 : decode cX11_pair 82 = .ok (.iastore, 1) := by decide +kernel
theorem dX11_pair_83 : decode cX11_pair 83 = .ok (.aload_n 0, 1) := by decide +kernel
theorem dX11_pair_84 : decode cX11_pair 84 = .ok (.getfield 7, 3) := by decide +kernel
theorem dX11_pair_87 : decode cX11_pair 87 = .ok (.iload 4, 2) := by decide +kernel
theorem dX11_pair_89 : decode cX11_pair 89 = .ok (.iload_n 2, 1) := by decide +kernel
theorem dX11_pair_90 : decode cX11_pair 90 = .ok (.iadd, 1) := by decide +kernel
theorem dX11_pair_91 : decode cX11_pair 91 = .ok (.dup2, 1) := by decide +kernel
theorem dX11_pair_92 : decode cX11_pair 92 = .ok (.iaload, 1) := by decide +kernel
theorem dX11_pair_93 : decode cX11_pair 93 = .ok (.iconst 1, 1) := by decide +kernel
theorem dX11_pair_94 : decode cX11_pair 94 = .ok (.iload_n 1, 1) := by decide +kernel
theorem dX11_pair_95 : decode cX11_pair 95 = .ok (.ishl, 1) := by decide +kernel
theorem dX11_pair_96 : decode cX11_pair 96 = .ok (.ior, 1) := by decide +kernel
theorem dX11_pair_97 : decode cX11_pair 97 = .ok (.iastore, 1) := by decide +kernel
theorem dX11_pair_98 : decode cX11_pair 98 = .ok (.iconst 1, 1) := by decide +kernel
theorem dX11_pair_99 : decode cX11_pair 99 = .ok (.ireturn, 1) := by decide +kernel
theorem dX11_layBirths_0 : decode cX11_layBirths 0 = .ok (.iconst 0, 1) := by decide +kernel
theorem dX11_layBirths_1 : decode cX11_layBirths 1 = .ok (.istore_n 1, 1) := by decide +kernel
theorem dX11_layBirths_2 : decode cX11_layBirths 2 = .ok (.iload_n 1, 1) := by decide +kernel
theorem dX11_layBirths_3 : decode cX11_layBirths 3 = .ok (.aload_n 0, 1) := by decide +kernel
theorem dX11_layBirths_4 : decode cX11_layBirths 4 = .ok (.getfield 7, 3) := by decide +kernel
theorem dX11_layBirths_7 : decode cX11_layBirths 7 = .ok (.iconst 0, 1) := by decide +kernel
theorem dX11_layBirths_8 : decode cX11_layBirths 8 = .ok (.iaload, 1) := by decide +kernel
theorem dX11_layBirths_9 : decode cX11_layBirths 9 = .ok (.if_icmp .ge 49, 3) := by decide +kernel
theorem dX11_layBirths_12 : decode cX11_layBirths 12 = .ok (.aload_n 0, 1) := by decide +kernel
theorem dX11_layBirths_13 : decode cX11_layBirths 13 = .ok (.aload_n 0, 1) := by decide +kernel
theorem dX11_layBirths_14 : decode cX11_layBirths 14 = .ok (.getfield 7, 3) := by decide +kernel
theorem dX11_layBirths_17 : decode cX11_layBirths 17 = .ok (.iconst 5, 1) := by decide +kernel
theorem dX11_layBirths_18 : decode cX11_layBirths 18 = .ok (.iload_n 1, 1) := by decide +kernel
theorem dX11_layBirths_19 : decode cX11_layBirths 19 = .ok (.iadd, 1) := by decide +kernel
theorem dX11_layBirths_20 : decode cX11_layBirths 20 = .ok (.iaload, 1) := by decide +kernel
theorem dX11_layBirths_21 : decode cX11_layBirths 21 = .ok (.invokevirtual 111, 3) := by decide +kernel
theorem dX11_layBirths_24 : decode cX11_layBirths 24 = .ok (.aload_n 0, 1) := by decide +kernel
theorem dX11_layBirths_25 : decode cX11_layBirths 25 = .ok (.getfield 26, 3) := by decide +kernel
theorem dX11_layBirths_28 : decode cX11_layBirths 28 = .ok (.iload_n 1, 1) := by decide +kernel
theorem dX11_layBirths_29 : decode cX11_layBirths 29 = .ok (.aload_n 0, 1) := by decide +kernel
theorem dX11_layBirths_30 : decode cX11_layBirths 30 = .ok (.getfield 83, 3) := by decide +kernel
theorem dX11_layBirths_33 : decode cX11_layBirths 33 = .ok (.iastore, 1) := by decide +kernel
theorem dX11_layBirths_34 : decode cX11_layBirths 34 = .ok (.aload_n 0, 1) := by decide +kernel
theorem dX11_layBirths_35 : decode cX11_layBirths 35 = .ok (.getfield 29, 3) := by decide +kernel
theorem dX11_layBirths_38 : decode cX11_layBirths 38 = .ok (.iload_n 1, 1) := by decide +kernel
theorem dX11_layBirths_39 : decode cX11_layBirths 39 = .ok (.bipush 32, 2) := by decide +kernel
theorem dX11_layBirths_41 : decode cX11_layBirths 41 = .ok (.aload_n 0, 1) := by decide +kernel
theorem dX11_layBirths_42 : decode cX11_layBirths 42 = .ok (.getfield 87, 3) := by decide +kernel
theorem dX11_layBirths_45 : decode cX11_layBirths 45 = .ok (.imul, 1) := by decide +kernel
theorem dX11_layBirths_46 : decode cX11_layBirths 46 = .ok (.aload_n 0, 1) := by decide +kernel
theorem dX11_layBirths_47 : decode cX11_layBirths 47 = .ok (.getfield 90, 3) := by decide +kernel
theorem dX11_layBirths_50 : decode cX11_layBirths 50 = .ok (.iadd, 1) := by decide +kernel
theorem dX11_layBirths_51 : decode cX11_layBirths 51 = .ok (.iastore, 1) := by decide +kernel
theorem dX11_layBirths_52 : decode cX11_layBirths 52 = .ok (.iinc 1 1, 3) := by decide +kernel
theorem dX11_layBirths_55 : decode cX11_layBirths 55 = .ok (.goto (-53), 3) := by decide +kernel
theorem dX11_layBirths_58 : decode cX11_layBirths 58 = .ok (.return_, 1) := by decide +kernel
theorem dX11_layAges_0 : decode cX11_layAges 0 = .ok (.aload_n 0, 1) := by decide +kernel
theorem dX11_layAges_1 : decode cX11_layAges 1 = .ok (.iload_n 1, 1) := by decide +kernel
theorem dX11_layAges_2 : decode cX11_layAges 2 = .ok (.invokevirtual 111, 3) := by decide +kernel
theorem dX11_layAges_5 : decode cX11_layAges 5 = .ok (.bipush 32, 2) := by decide +kernel
theorem dX11_layAges_7 : decode cX11_layAges 7 = .ok (.aload_n 0, 1) := by decide +kernel
theorem dX11_layAges_8 : decode cX11_layAges 8 = .ok (.getfield 87, 3) := by decide +kernel
theorem dX11_layAges_11 : decode cX11_layAges 11 = .ok (.imul, 1) := by decide +kernel
theorem dX11_layAges_12 : decode cX11_layAges 12 = .ok (.aload_n 0, 1) := by decide +kernel
theorem dX11_layAges_13 : decode cX11_layAges 13 = .ok (.getfield 90, 3) := by decide +kernel
theorem dX11_layAges_16 : decode cX11_layAges 16 = .ok (.iadd, 1) := by decide +kernel
theorem dX11_layAges_17 : decode cX11_layAges 17 = .ok (.istore_n 2, 1) := by decide +kernel
theorem dX11_layAges_18 : decode cX11_layAges 18 = .ok (.iconst 0, 1) := by decide +kernel
theorem dX11_layAges_19 : decode cX11_layAges 19 = .ok (.istore_n 3, 1) := by decide +kernel
theorem dX11_layAges_20 : decode cX11_layAges 20 = .ok (.iload_n 3, 1) := by decide +kernel
theorem dX11_layAges_21 : decode cX11_layAges 21 = .ok (.aload_n 0, 1) := by decide +kernel
theorem dX11_layAges_22 : decode cX11_layAges 22 = .ok (.getfield 7, 3) := by decide +kernel
theorem dX11_layAges_25 : decode cX11_layAges 25 = .ok (.iconst 0, 1) := by decide +kernel
theorem dX11_layAges_26 : decode cX11_layAges 26 = .ok (.iaload, 1) := by decide +kernel
theorem dX11_layAges_27 : decode cX11_layAges 27 = .ok (.if_icmp .ge 58, 3) := by decide +kernel
theorem dX11_layAges_30 : decode cX11_layAges 30 = .ok (.aload_n 0, 1) := by decide +kernel
theorem dX11_layAges_31 : decode cX11_layAges 31 = .ok (.getfield 32, 3) := by decide +kernel
theorem dX11_layAges_34 : decode cX11_layAges 34 = .ok (.iload_n 3, 1) := by decide +kernel
theorem dX11_layAges_35 : decode cX11_layAges 35 = .ok (.iload_n 1, 1) := by decide +kernel
theorem dX11_layAges_36 : decode cX11_layAges 36 = .ok (.aload_n 0, 1) := by decide +kernel
theorem dX11_layAges_37 : decode cX11_layAges 37 = .ok (.getfield 7, 3) := by decide +kernel
theorem dX11_layAges_40 : decode cX11_layAges 40 = .ok (.iconst 5, 1) := by decide +kernel
theorem dX11_layAges_41 : decode cX11_layAges 41 = .ok (.iload_n 3, 1) := by decide +kernel
theorem dX11_layAges_42 : decode cX11_layAges 42 = .ok (.iadd, 1) := by decide +kernel
theorem dX11_layAges_43 : decode cX11_layAges 43 = .ok (.iaload, 1) := by decide +kernel
theorem dX11_layAges_44 : decode cX11_layAges 44 = .ok (.if_icmp .ge 7, 3) := by decide +kernel
theorem dX11_layAges_47 : decode cX11_layAges 47 = .ok (.iconst (-1), 1) := by decide +kernel
theorem dX11_layAges_48 : decode cX11_layAges 48 = .ok (.goto 30, 3) := by decide +kernel
theorem dX11_layAges_51 : decode cX11_layAges 51 = .ok (.aload_n 0, 1) := by decide +kernel
theorem dX11_layAges_52 : decode cX11_layAges 52 = .ok (.getfield 83, 3) := by decide +kernel
theorem dX11_layAges_55 : decode cX11_layAges 55 = .ok (.aload_n 0, 1) := by decide +kernel
theorem dX11_layAges_56 : decode cX11_layAges 56 = .ok (.getfield 26, 3) := by decide +kernel
theorem dX11_layAges_59 : decode cX11_layAges 59 = .ok (.iload_n 3, 1) := by decide +kernel
theorem dX11_layAges_60 : decode cX11_layAges 60 = .ok (.iaload, 1) := by decide +kernel
theorem dX11_layAges_61 : decode cX11_layAges 61 = .ok (.isub, 1) := by decide +kernel
theorem dX11_layAges_62 : decode cX11_layAges 62 = .ok (.iload_n 2, 1) := by decide +kernel
theorem dX11_layAges_63 : decode cX11_layAges 63 = .ok (.aload_n 0, 1) := by decide +kernel
theorem dX11_layAges_64 : decode cX11_layAges 64 = .ok (.getfield 29, 3) := by decide +kernel
theorem dX11_layAges_67 : decode cX11_layAges 67 = .ok (.iload_n 3, 1) := by decide +kernel
theorem dX11_layAges_68 : decode cX11_layAges 68 = .ok (.iaload, 1) := by decide +kernel
theorem dX11_layAges_69 : decode cX11_layAges 69 = .ok (.if_icmp .ge 7, 3) := by decide +kernel
theorem dX11_layAges_72 : decode cX11_layAges 72 = .ok (.iconst 1, 1) := by decide +kernel
theorem dX11_layAges_73 : decode cX11_layAges 73 = .ok (.goto 4, 3) := by decide +kernel
theorem dX11_layAges_76 : decode cX11_layAges 76 = .ok (.iconst 0, 1) := by decide +kernel
theorem dX11_layAges_77 : decode cX11_layAges 77 = .ok (.isub, 1) := by decide +kernel
theorem dX11_layAges_78 : decode cX11_layAges 78 = .ok (.iastore, 1) := by decide +kernel
theorem dX11_layAges_79 : decode cX11_layAges 79 = .ok (.iinc 3 1, 3) := by decide +kernel
theorem dX11_layAges_82 : decode cX11_layAges 82 = .ok (.goto (-62), 3) := by decide +kernel
theorem dX11_layAges_85 : decode cX11_layAges 85 = .ok (.return_, 1) := by decide +kernel
theorem dX11_look_0 : decode cX11_look 0 = .ok (.aload_n 0, 1) := by decide +kernel
theorem dX11_look_1 : decode cX11_look 1 = .ok (.invokevirtual 133, 3) := by decide +kernel
theorem dX11_look_4 : decode cX11_look 4 = .ok (.aload_n 0, 1) := by decide +kernel
theorem dX11_look_5 : decode cX11_look 5 = .ok (.iload_n 1, 1) := by decide +kernel
theorem dX11_look_6 : decode cX11_look 6 = .ok (.invokevirtual 136, 3) := by decide +kernel
theorem dX11_look_9 : decode cX11_look 9 = .ok (.return_, 1) := by decide +kernel
theorem dX11_age_0 : decode cX11_age 0 = .ok (.aload_n 0, 1) := by decide +kernel
theorem dX11_age_1 : decode cX11_age 1 = .ok (.iload_n 1, 1) := by decide +kernel
theorem dX11_age_2 : decode cX11_age 2 = .ok (.invokevirtual 123, 3) := by decide +kernel
theorem dX11_age_5 : decode cX11_age 5 = .ok (.ifCond .eq 10, 3) := by decide +kernel
theorem dX11_age_8 : decode cX11_age 8 = .ok (.iload_n 2, 1) := by decide +kernel
theorem dX11_age_9 : decode cX11_age 9 = .ok (.invokestatic 106, 3) := by decide +kernel
theorem dX11_age_12 : decode cX11_age 12 = .ok (.ifCond .ne 10, 3) := by decide +kernel
theorem dX11_age_15 : decode cX11_age 15 = .ok (.aload_n 0, 1) := by decide +kernel
theorem dX11_age_16 : decode cX11_age 16 = .ok (.bipush (-2), 2) := by decide +kernel
theorem dX11_age_18 : decode cX11_age 18 = .ok (.invokevirtual 103, 3) := by decide +kernel
theorem dX11_age_21 : decode cX11_age 21 = .ok (.ireturn, 1) := by decide +kernel
theorem dX11_age_22 : decode cX11_age 22 = .ok (.aload_n 0, 1) := by decide +kernel
theorem dX11_age_23 : decode cX11_age 23 = .ok (.iload_n 2, 1) := by decide +kernel
theorem dX11_age_24 : decode cX11_age 24 = .ok (.invokevirtual 139, 3) := by decide +kernel
theorem dX11_age_27 : decode cX11_age 27 = .ok (.aload_n 0, 1) := by decide +kernel
theorem dX11_age_28 : decode cX11_age 28 = .ok (.getfield 32, 3) := by decide +kernel
theorem dX11_age_31 : decode cX11_age 31 = .ok (.iload_n 1, 1) := by decide +kernel
theorem dX11_age_32 : decode cX11_age 32 = .ok (.iaload, 1) := by decide +kernel
theorem dX11_age_33 : decode cX11_age 33 = .ok (.ireturn, 1) := by decide +kernel
theorem dX11_bits_0 : decode cX11_bits 0 = .ok (.iconst 0, 1) := by decide +kernel
theorem dX11_bits_1 : decode cX11_bits 1 = .ok (.istore_n 1, 1) := by decide +kernel
theorem dX11_bits_2 : decode cX11_bits 2 = .ok (.iload_n 0, 1) := by decide +kernel
theorem dX11_bits_3 : decode cX11_bits 3 = .ok (.istore_n 2, 1) := by decide +kernel
theorem dX11_bits_4 : decode cX11_bits 4 = .ok (.iload_n 2, 1) := by decide +kernel
theorem dX11_bits_5 : decode cX11_bits 5 = .ok (.ifCond .eq 15, 3) := by decide +kernel
theorem dX11_bits_8 : decode cX11_bits 8 = .ok (.iinc 1 1, 3) := by decide +kernel
theorem dX11_bits_11 : decode cX11_bits 11 = .ok (.iload_n 2, 1) := by decide +kernel
theorem dX11_bits_12 : decode cX11_bits 12 = .ok (.iload_n 2, 1) := by decide +kernel
theorem dX11_bits_13 : decode cX11_bits 13 = .ok (.iconst 1, 1) := by decide +kernel
theorem dX11_bits_14 : decode cX11_bits 14 = .ok (.isub, 1) := by decide +kernel
theorem dX11_bits_15 : decode cX11_bits 15 = .ok (.iand, 1) := by decide +kernel
theorem dX11_bits_16 : decode cX11_bits 16 = .ok (.istore_n 2, 1) := by decide +kernel
theorem dX11_bits_17 : decode cX11_bits 17 = .ok (.goto (-13), 3) := by decide +kernel
theorem dX11_bits_20 : decode cX11_bits 20 = .ok (.iload_n 1, 1) := by decide +kernel
theorem dX11_bits_21 : decode cX11_bits 21 = .ok (.ireturn, 1) := by decide +kernel
theorem dX11_isByLaw_0 : decode cX11_isByLaw 0 = .ok (.iconst 0, 1) := by decide +kernel
theorem dX11_isByLaw_1 : decode cX11_isByLaw 1 = .ok (.istore_n 3, 1) := by decide +kernel
theorem dX11_isByLaw_2 : decode cX11_isByLaw 2 = .ok (.iconst 1, 1) := by decide +kernel
theorem dX11_isByLaw_3 : decode cX11_isByLaw 3 = .ok (.istore 4, 2) := by decide +kernel
theorem dX11_isByLaw_5 : decode cX11_isByLaw 5 = .ok (.iconst 0, 1) := by decide +kernel
theorem dX11_isByLaw_6 : decode cX11_isByLaw 6 = .ok (.istore 5, 2) := by decide +kernel
theorem dX11_isByLaw_8 : decode cX11_isByLaw 8 = .ok (.iload 5, 2) := by decide +kernel
theorem dX11_isByLaw_10 : decode cX11_isByLaw 10 = .ok (.aload_n 0, 1) := by decide +kernel
theorem dX11_isByLaw_11 : decode cX11_isByLaw 11 = .ok (.getfield 7, 3) := by decide +kernel
theorem dX11_isByLaw_14 : decode cX11_isByLaw 14 = .ok (.iconst 0, 1) := by decide +kernel
theorem dX11_isByLaw_15 : decode cX11_isByLaw 15 = .ok (.iaload, 1) := by decide +kernel
theorem dX11_isByLaw_16 : decode cX11_isByLaw 16 = .ok (.if_icmp .ge 82, 3) := by decide +kernel
theorem dX11_isByLaw_19 : decode cX11_isByLaw 19 = .ok (.iload_n 1, 1) := by decide +kernel
theorem dX11_isByLaw_20 : decode cX11_isByLaw 20 = .ok (.iload 5, 2) := by decide +kernel
theorem dX11_isByLaw_22 : decode cX11_isByLaw 22 = .ok (.invokestatic 126, 3) := by decide +kernel
theorem dX11_isByLaw_25 : decode cX11_isByLaw 25 = .ok (.ifCond .eq 67, 3) := by decide +kernel
theorem dX11_isByLaw_28 : decode cX11_isByLaw 28 = .ok (.iload_n 3, 1) := by decide +kernel
theorem dX11_isByLaw_29 : decode cX11_isByLaw 29 = .ok (.aload_n 0, 1) := by decide +kernel
theorem dX11_isByLaw_30 : decode cX11_isByLaw 30 = .ok (.getfield 32, 3) := by decide +kernel
theorem dX11_isByLaw_33 : decode cX11_isByLaw 33 = .ok (.iload 5, 2) := by decide +kernel
theorem dX11_isByLaw_35 : decode cX11_isByLaw 35 = .ok (.iaload, 1) := by decide +kernel
theorem dX11_isByLaw_36 : decode cX11_isByLaw 36 = .ok (.iadd, 1) := by decide +kernel
theorem dX11_isByLaw_37 : decode cX11_isByLaw 37 = .ok (.istore_n 3, 1) := by decide +kernel
theorem dX11_isByLaw_38 : decode cX11_isByLaw 38 = .ok (.iconst 0, 1) := by decide +kernel
theorem dX11_isByLaw_39 : decode cX11_isByLaw 39 = .ok (.istore 6, 2) := by decide +kernel
theorem dX11_isByLaw_41 : decode cX11_isByLaw 41 = .ok (.iload 6, 2) := by decide +kernel
theorem dX11_isByLaw_43 : decode cX11_isByLaw 43 = .ok (.iload 5, 2) := by decide +kernel
theorem dX11_isByLaw_45 : decode cX11_isByLaw 45 = .ok (.if_icmp .ge 47, 3) := by decide +kernel
theorem dX11_isByLaw_48 : decode cX11_isByLaw 48 = .ok (.iload 4, 2) := by decide +kernel
theorem dX11_isByLaw_50 : decode cX11_isByLaw 50 = .ok (.ifCond .eq 33, 3) := by decide +kernel
theorem dX11_isByLaw_53 : decode cX11_isByLaw 53 = .ok (.iload_n 1, 1) := by decide +kernel
theorem dX11_isByLaw_54 : decode cX11_isByLaw 54 = .ok (.iload 6, 2) := by decide +kernel
theorem dX11_isByLaw_56 : decode cX11_isByLaw 56 = .ok (.invokestatic 126, 3) := by decide +kernel
theorem dX11_isByLaw_59 : decode cX11_isByLaw 59 = .ok (.ifCond .eq 20, 3) := by decide +kernel
theorem dX11_isByLaw_62 : decode cX11_isByLaw 62 = .ok (.aload_n 0, 1) := by decide +kernel
theorem dX11_isByLaw_63 : decode cX11_isByLaw 63 = .ok (.getfield 32, 3) := by decide +kernel
theorem dX11_isByLaw_66 : decode cX11_isByLaw 66 = .ok (.iload 6, 2) := by decide +kernel
theorem dX11_isByLaw_68 : decode cX11_isByLaw 68 = .ok (.iaload, 1) := by decide +kernel
theorem dX11_isByLaw_69 : decode cX11_isByLaw 69 = .ok (.aload_n 0, 1) := by decide +kernel
theorem dX11_isByLaw_70 : decode cX11_isByLaw 70 = .ok (.getfield 32, 3) := by decide +kernel
theorem dX11_isByLaw_73 : decode cX11_isByLaw 73 = .ok (.iload 5, 2) := by decide +kernel
theorem dX11_isByLaw_75 : decode cX11_isByLaw 75 = .ok (.iaload, 1) := by decide +kernel
theorem dX11_isByLaw_76 : decode cX11_isByLaw 76 = .ok (.if_icmp .eq 7, 3) := by decide +kernel
theorem dX11_isByLaw_79 : decode cX11_isByLaw 79 = .ok (.iconst 1, 1) := by decide +kernel
theorem dX11_isByLaw_80 : decode cX11_isByLaw 80 = .ok (.goto 4, 3) := by decide +kernel
theorem dX11_isByLaw_83 : decode cX11_isByLaw 83 = .ok (.iconst 0, 1) := by decide +kernel
theorem dX11_isByLaw_84 : decode cX11_isByLaw 84 = .ok (.istore 4, 2) := by decide +kernel
theorem dX11_isByLaw_86 : decode cX11_isByLaw 86 = .ok (.iinc 6 1, 3) := by decide +kernel
theorem dX11_isByLaw_89 : decode cX11_isByLaw 89 = .ok (.goto (-48), 3) := by decide +kernel
theorem dX11_isByLaw_92 : decode cX11_isByLaw 92 = .ok (.iinc 5 1, 3) := by decide +kernel
theorem dX11_isByLaw_95 : decode cX11_isByLaw 95 = .ok (.goto (-87), 3) := by decide +kernel
theorem dX11_isByLaw_98 : decode cX11_isByLaw 98 = .ok (.iload_n 2, 1) := by decide +kernel
theorem dX11_isByLaw_99 : decode cX11_isByLaw 99 = .ok (.tableswitch 91 0 3 #[29, 42, 55, 88], 29) := by decide +kernel
theorem dX11_isByLaw_128 : decode cX11_isByLaw 128 = .ok (.iload_n 3, 1) := by decide +kernel
theorem dX11_isByLaw_129 : decode cX11_isByLaw 129 = .ok (.bipush 10, 2) := by decide +kernel
theorem dX11_isByLaw_131 : decode cX11_isByLaw 131 = .ok (.irem, 1) := by decide +kernel
theorem dX11_isByLaw_132 : decode cX11_isByLaw 132 = .ok (.ifCond .ne 7, 3) := by decide +kernel
theorem dX11_isByLaw_135 : decode cX11_isByLaw 135 = .ok (.iconst 1, 1) := by decide +kernel
theorem dX11_isByLaw_136 : decode cX11_isByLaw 136 = .ok (.goto 4, 3) := by decide +kernel
theorem dX11_isByLaw_139 : decode cX11_isByLaw 139 = .ok (.iconst 0, 1) := by decide +kernel
theorem dX11_isByLaw_140 : decode cX11_isByLaw 140 = .ok (.ireturn, 1) := by decide +kernel
theorem dX11_isByLaw_141 : decode cX11_isByLaw 141 = .ok (.iload_n 3, 1) := by decide +kernel
theorem dX11_isByLaw_142 : decode cX11_isByLaw 142 = .ok (.bipush 7, 2) := by decide +kernel
theorem dX11_isByLaw_144 : decode cX11_isByLaw 144 = .ok (.irem, 1) := by decide +kernel
theorem dX11_isByLaw_145 : decode cX11_isByLaw 145 = .ok (.ifCond .ne 7, 3) := by decide +kernel
theorem dX11_isByLaw_148 : decode cX11_isByLaw 148 = .ok (.iconst 1, 1) := by decide +kernel
theorem dX11_isByLaw_149 : decode cX11_isByLaw 149 = .ok (.goto 4, 3) := by decide +kernel
theorem dX11_isByLaw_152 : decode cX11_isByLaw 152 = .ok (.iconst 0, 1) := by decide +kernel
theorem dX11_isByLaw_153 : decode cX11_isByLaw 153 = .ok (.ireturn, 1) := by decide +kernel
theorem dX11_isByLaw_154 : decode cX11_isByLaw 154 = .ok (.iconst 0, 1) := by decide +kernel
theorem dX11_isByLaw_155 : decode cX11_isByLaw 155 = .ok (.istore 5, 2) := by decide +kernel
theorem dX11_isByLaw_157 : decode cX11_isByLaw 157 = .ok (.iload 5, 2) := by decide +kernel
theorem dX11_isByLaw_159 : decode cX11_isByLaw 159 = .ok (.iload 5, 2) := by decide +kernel
theorem dX11_isByLaw_161 : decode cX11_isByLaw 161 = .ok (.imul, 1) := by decide +kernel
theorem dX11_isByLaw_162 : decode cX11_isByLaw 162 = .ok (.iload_n 3, 1) := by decide +kernel
theorem dX11_isByLaw_163 : decode cX11_isByLaw 163 = .ok (.if_icmp .ge 9, 3) := by decide +kernel
theorem dX11_isByLaw_166 : decode cX11_isByLaw 166 = .ok (.iinc 5 1, 3) := by decide +kernel
theorem dX11_isByLaw_169 : decode cX11_isByLaw 169 = .ok (.goto (-12), 3) := by decide +kernel
theorem dX11_isByLaw_172 : decode cX11_isByLaw 172 = .ok (.iload 5, 2) := by decide +kernel
theorem dX11_isByLaw_174 : decode cX11_isByLaw 174 = .ok (.iload 5, 2) := by decide +kernel
theorem dX11_isByLaw_176 : decode cX11_isByLaw 176 = .ok (.imul, 1) := by decide +kernel
theorem dX11_isByLaw_177 : decode cX11_isByLaw 177 = .ok (.iload_n 3, 1) := by decide +kernel
theorem dX11_isByLaw_178 : decode cX11_isByLaw 178 = .ok (.if_icmp .ne 7, 3) := by decide +kernel
theorem dX11_isByLaw_181 : decode cX11_isByLaw 181 = .ok (.iconst 1, 1) := by decide +kernel
theorem dX11_isByLaw_182 : decode cX11_isByLaw 182 = .ok (.goto 4, 3) := by decide +kernel
theorem dX11_isByLaw_185 : decode cX11_isByLaw 185 = .ok (.iconst 0, 1) := by decide +kernel
theorem dX11_isByLaw_186 : decode cX11_isByLaw 186 = .ok (.ireturn, 1) := by decide +kernel
theorem dX11_isByLaw_187 : decode cX11_isByLaw 187 = .ok (.iload 4, 2) := by decide +kernel
theorem dX11_isByLaw_189 : decode cX11_isByLaw 189 = .ok (.ireturn, 1) := by decide +kernel
theorem dX11_isByLaw_190 : decode cX11_isByLaw 190 = .ok (.iload 4, 2) := by decide +kernel
theorem dX11_isByLaw_192 : decode cX11_isByLaw 192 = .ok (.ifCond .eq 14, 3) := by decide +kernel
theorem dX11_isByLaw_195 : decode cX11_isByLaw 195 = .ok (.iload_n 3, 1) := by decide +kernel
theorem dX11_isByLaw_196 : decode cX11_isByLaw 196 = .ok (.bipush 10, 2) := by decide +kernel
theorem dX11_isByLaw_198 : decode cX11_isByLaw 198 = .ok (.irem, 1) := by decide +kernel
theorem dX11_isByLaw_199 : decode cX11_isByLaw 199 = .ok (.ifCond .ne 7, 3) := by decide +kernel
theorem dX11_isByLaw_202 : decode cX11_isByLaw 202 = .ok (.iconst 1, 1) := by decide +kernel
theorem dX11_isByLaw_203 : decode cX11_isByLaw 203 = .ok (.goto 4, 3) := by decide +kernel
theorem dX11_isByLaw_206 : decode cX11_isByLaw 206 = .ok (.iconst 0, 1) := by decide +kernel
theorem dX11_isByLaw_207 : decode cX11_isByLaw 207 = .ok (.ireturn, 1) := by decide +kernel
theorem dX11_whyNot_0 : decode cX11_whyNot 0 = .ok (.iconst 1, 1) := by decide +kernel
theorem dX11_whyNot_1 : decode cX11_whyNot 1 = .ok (.istore_n 3, 1) := by decide +kernel
theorem dX11_whyNot_2 : decode cX11_whyNot 2 = .ok (.iconst 0, 1) := by decide +kernel
theorem dX11_whyNot_3 : decode cX11_whyNot 3 = .ok (.istore 4, 2) := by decide +kernel
theorem dX11_whyNot_5 : decode cX11_whyNot 5 = .ok (.iconst 0, 1) := by decide +kernel
theorem dX11_whyNot_6 : decode cX11_whyNot 6 = .ok (.istore 5, 2) := by decide +kernel
theorem dX11_whyNot_8 : decode cX11_whyNot 8 = .ok (.iconst 0, 1) := by decide +kernel
theorem dX11_whyNot_9 : decode cX11_whyNot 9 = .ok (.istore 6, 2) := by decide +kernel
theorem dX11_whyNot_11 : decode cX11_whyNot 11 = .ok (.iload 6, 2) := by decide +kernel
theorem dX11_whyNot_13 : decode cX11_whyNot 13 = .ok (.aload_n 0, 1) := by decide +kernel
theorem dX11_whyNot_14 : decode cX11_whyNot 14 = .ok (.getfield 7, 3) := by decide +kernel
theorem dX11_whyNot_17 : decode cX11_whyNot 17 = .ok (.iconst 0, 1) := by decide +kernel
theorem dX11_whyNot_18 : decode cX11_whyNot 18 = .ok (.iaload, 1) := by decide +kernel
theorem dX11_whyNot_19 : decode cX11_whyNot 19 = .ok (.if_icmp .ge 94, 3) := by decide +kernel
theorem dX11_whyNot_22 : decode cX11_whyNot 22 = .ok (.iload_n 1, 1) := by decide +kernel
theorem dX11_whyNot_23 : decode cX11_whyNot 23 = .ok (.iload 6, 2) := by decide +kernel
theorem dX11_whyNot_25 : decode cX11_whyNot 25 = .ok (.invokestatic 126, 3) := by decide +kernel
theorem dX11_whyNot_28 : decode cX11_whyNot 28 = .ok (.ifCond .eq 79, 3) := by decide +kernel
theorem dX11_whyNot_31 : decode cX11_whyNot 31 = .ok (.iload_n 3, 1) := by decide +kernel
theorem dX11_whyNot_32 : decode cX11_whyNot 32 = .ok (.ifCond .eq 17, 3) := by decide +kernel
theorem dX11_whyNot_35 : decode cX11_whyNot 35 = .ok (.aload_n 0, 1) := by decide +kernel
theorem dX11_whyNot_36 : decode cX11_whyNot 36 = .ok (.getfield 32, 3) := by decide +kernel
theorem dX11_whyNot_39 : decode cX11_whyNot 39 = .ok (.iload 6, 2) := by decide +kernel
theorem dX11_whyNot_41 : decode cX11_whyNot 41 = .ok (.iaload, 1) := by decide +kernel
theorem dX11_whyNot_42 : decode cX11_whyNot 42 = .ok (.ifCond .lt 7, 3) := by decide +kernel
theorem dX11_whyNot_45 : decode cX11_whyNot 45 = .ok (.iconst 1, 1) := by decide +kernel
theorem dX11_whyNot_46 : decode cX11_whyNot 46 = .ok (.goto 4, 3) := by decide +kernel
theorem dX11_whyNot_49 : decode cX11_whyNot 49 = .ok (.iconst 0, 1) := by decide +kernel
theorem dX11_whyNot_50 : decode cX11_whyNot 50 = .ok (.istore_n 3, 1) := by decide +kernel
theorem dX11_whyNot_51 : decode cX11_whyNot 51 = .ok (.iload 4, 2) := by decide +kernel
theorem dX11_whyNot_53 : decode cX11_whyNot 53 = .ok (.ifCond .ne 20, 3) := by decide +kernel
theorem dX11_whyNot_56 : decode cX11_whyNot 56 = .ok (.aload_n 0, 1) := by decide +kernel
theorem dX11_whyNot_57 : decode cX11_whyNot 57 = .ok (.getfield 7, 3) := by decide +kernel
theorem dX11_whyNot_60 : decode cX11_whyNot 60 = .ok (.bipush 13, 2) := by decide +kernel
theorem dX11_whyNot_62 : decode cX11_whyNot 62 = .ok (.iload 6, 2) := by decide +kernel
theorem dX11_whyNot_64 : decode cX11_whyNot 64 = .ok (.iadd, 1) := by decide +kernel
theorem dX11_whyNot_65 : decode cX11_whyNot 65 = .ok (.iaload, 1) := by decide +kernel
theorem dX11_whyNot_66 : decode cX11_whyNot 66 = .ok (.iload_n 1, 1) := by decide +kernel
theorem dX11_whyNot_67 : decode cX11_whyNot 67 = .ok (.iconst (-1), 1) := by decide +kernel
theorem dX11_whyNot_68 : decode cX11_whyNot 68 = .ok (.ixor, 1) := by decide +kernel
theorem dX11_whyNot_69 : decode cX11_whyNot 69 = .ok (.iand, 1) := by decide +kernel
theorem dX11_whyNot_70 : decode cX11_whyNot 70 = .ok (.ifCond .eq 7, 3) := by decide +kernel
theorem dX11_whyNot_73 : decode cX11_whyNot 73 = .ok (.iconst 1, 1) := by decide +kernel
theorem dX11_whyNot_74 : decode cX11_whyNot 74 = .ok (.goto 4, 3) := by decide +kernel
theorem dX11_whyNot_77 : decode cX11_whyNot 77 = .ok (.iconst 0, 1) := by decide +kernel
theorem dX11_whyNot_78 : decode cX11_whyNot 78 = .ok (.istore 4, 2) := by decide +kernel
theorem dX11_whyNot_80 : decode cX11_whyNot 80 = .ok (.iload 5, 2) := by decide +kernel
theorem dX11_whyNot_82 : decode cX11_whyNot 82 = .ok (.ifCond .ne 18, 3) := by decide +kernel
theorem dX11_whyNot_85 : decode cX11_whyNot 85 = .ok (.aload_n 0, 1) := by decide +kernel
theorem dX11_whyNot_86 : decode cX11_whyNot 86 = .ok (.getfield 7, 3) := by decide +kernel
theorem dX11_whyNot_89 : decode cX11_whyNot 89 = .ok (.bipush 21, 2) := by decide +kernel
theorem dX11_whyNot_91 : decode cX11_whyNot 91 = .ok (.iload 6, 2) := by decide +kernel
theorem dX11_whyNot_93 : decode cX11_whyNot 93 = .ok (.iadd, 1) := by decide +kernel
theorem dX11_whyNot_94 : decode cX11_whyNot 94 = .ok (.iaload, 1) := by decide +kernel
theorem dX11_whyNot_95 : decode cX11_whyNot 95 = .ok (.iload_n 1, 1) := by decide +kernel
theorem dX11_whyNot_96 : decode cX11_whyNot 96 = .ok (.iand, 1) := by decide +kernel
theorem dX11_whyNot_97 : decode cX11_whyNot 97 = .ok (.ifCond .eq 7, 3) := by decide +kernel
theorem dX11_whyNot_100 : decode cX11_whyNot 100 = .ok (.iconst 1, 1) := by decide +kernel
theorem dX11_whyNot_101 : decode cX11_whyNot 101 = .ok (.goto 4, 3) := by decide +kernel
theorem dX11_whyNot_104 : decode cX11_whyNot 104 = .ok (.iconst 0, 1) := by decide +kernel
theorem dX11_whyNot_105 : decode cX11_whyNot 105 = .ok (.istore 5, 2) := by decide +kernel
theorem dX11_whyNot_107 : decode cX11_whyNot 107 = .ok (.iinc 6 1, 3) := by decide +kernel
theorem dX11_whyNot_110 : decode cX11_whyNot 110 = .ok (.goto (-99), 3) := by decide +kernel
theorem dX11_whyNot_113 : decode cX11_whyNot 113 = .ok (.iload_n 3, 1) := by decide +kernel
theorem dX11_whyNot_114 : decode cX11_whyNot 114 = .ok (.ifCond .ne 7, 3) := by decide +kernel
theorem dX11_whyNot_117 : decode cX11_whyNot 117 = .ok (.iconst 1, 1) := by decide +kernel
theorem dX11_whyNot_118 : decode cX11_whyNot 118 = .ok (.goto 63, 3) := by decide +kernel
theorem dX11_whyNot_121 : decode cX11_whyNot 121 = .ok (.iload_n 1, 1) := by decide +kernel
theorem dX11_whyNot_122 : decode cX11_whyNot 122 = .ok (.invokestatic 142, 3) := by decide +kernel
theorem dX11_whyNot_125 : decode cX11_whyNot 125 = .ok (.aload_n 0, 1) := by decide +kernel
theorem dX11_whyNot_126 : decode cX11_whyNot 126 = .ok (.getfield 7, 3) := by decide +kernel
theorem dX11_whyNot_129 : decode cX11_whyNot 129 = .ok (.bipush 33, 2) := by decide +kernel
theorem dX11_whyNot_131 : decode cX11_whyNot 131 = .ok (.iload_n 2, 1) := by decide +kernel
theorem dX11_whyNot_132 : decode cX11_whyNot 132 = .ok (.iadd, 1) := by decide +kernel
theorem dX11_whyNot_133 : decode cX11_whyNot 133 = .ok (.iaload, 1) := by decide +kernel
theorem dX11_whyNot_134 : decode cX11_whyNot 134 = .ok (.if_icmp .le 7, 3) := by decide +kernel
theorem dX11_whyNot_137 : decode cX11_whyNot 137 = .ok (.iconst 2, 1) := by decide +kernel
theorem dX11_whyNot_138 : decode cX11_whyNot 138 = .ok (.goto 43, 3) := by decide +kernel
theorem dX11_whyNot_141 : decode cX11_whyNot 141 = .ok (.iload 4, 2) := by decide +kernel
theorem dX11_whyNot_143 : decode cX11_whyNot 143 = .ok (.ifCond .eq 7, 3) := by decide +kernel
theorem dX11_whyNot_146 : decode cX11_whyNot 146 = .ok (.iconst 3, 1) := by decide +kernel
theorem dX11_whyNot_147 : decode cX11_whyNot 147 = .ok (.goto 34, 3) := by decide +kernel
theorem dX11_whyNot_150 : decode cX11_whyNot 150 = .ok (.iload 5, 2) := by decide +kernel
theorem dX11_whyNot_152 : decode cX11_whyNot 152 = .ok (.ifCond .eq 7, 3) := by decide +kernel
theorem dX11_whyNot_155 : decode cX11_whyNot 155 = .ok (.iconst 4, 1) := by decide +kernel
theorem dX11_whyNot_156 : decode cX11_whyNot 156 = .ok (.goto 25, 3) := by decide +kernel
theorem dX11_whyNot_159 : decode cX11_whyNot 159 = .ok (.aload_n 0, 1) := by decide +kernel
theorem dX11_whyNot_160 : decode cX11_whyNot 160 = .ok (.iload_n 1, 1) := by decide +kernel
theorem dX11_whyNot_161 : decode cX11_whyNot 161 = .ok (.aload_n 0, 1) := by decide +kernel
theorem dX11_whyNot_162 : decode cX11_whyNot 162 = .ok (.getfield 7, 3) := by decide +kernel
theorem dX11_whyNot_165 : decode cX11_whyNot 165 = .ok (.bipush 29, 2) := by decide +kernel
theorem dX11_whyNot_167 : decode cX11_whyNot 167 = .ok (.iload_n 2, 1) := by decide +kernel
theorem dX11_whyNot_168 : decode cX11_whyNot 168 = .ok (.iadd, 1) := by decide +kernel
theorem dX11_whyNot_169 : decode cX11_whyNot 169 = .ok (.iaload, 1) := by decide +kernel
theorem dX11_whyNot_170 : decode cX11_whyNot 170 = .ok (.invokevirtual 145, 3) := by decide +kernel
theorem dX11_whyNot_173 : decode cX11_whyNot 173 = .ok (.ifCond .eq 7, 3) := by decide +kernel
theorem dX11_whyNot_176 : decode cX11_whyNot 176 = .ok (.iconst 0, 1) := by decide +kernel
theorem dX11_whyNot_177 : decode cX11_whyNot 177 = .ok (.goto 4, 3) := by decide +kernel
theorem dX11_whyNot_180 : decode cX11_whyNot 180 = .ok (.iconst 5, 1) := by decide +kernel
theorem dX11_whyNot_181 : decode cX11_whyNot 181 = .ok (.ireturn, 1) := by decide +kernel
theorem dX11_isCompany_0 : decode cX11_isCompany 0 = .ok (.iload_n 1, 1) := by decide +kernel
theorem dX11_isCompany_1 : decode cX11_isCompany 1 = .ok (.i2l, 1) := by decide +kernel
theorem dX11_isCompany_2 : decode cX11_isCompany 2 = .ok (.lconst 1, 1) := by decide +kernel
theorem dX11_isCompany_3 : decode cX11_isCompany 3 = .ok (.iconst 1, 1) := by decide +kernel
theorem dX11_isCompany_4 : decode cX11_isCompany 4 = .ok (.aload_n 0, 1) := by decide +kernel
theorem dX11_isCompany_5 : decode cX11_isCompany 5 = .ok (.getfield 7, 3) := by decide +kernel
theorem dX11_isCompany_8 : decode cX11_isCompany 8 = .ok (.iconst 0, 1) := by decide +kernel
theorem dX11_isCompany_9 : decode cX11_isCompany 9 = .ok (.iaload, 1) := by decide +kernel
theorem dX11_isCompany_10 : decode cX11_isCompany 10 = .ok (.ishl, 1) := by decide +kernel
theorem dX11_isCompany_11 : decode cX11_isCompany 11 = .ok (.iconst 1, 1) := by decide +kernel
theorem dX11_isCompany_12 : decode cX11_isCompany 12 = .ok (.isub, 1) := by decide +kernel
theorem dX11_isCompany_13 : decode cX11_isCompany 13 = .ok (.i2l, 1) := by decide +kernel
theorem dX11_isCompany_14 : decode cX11_isCompany 14 = .ok (.invokestatic 66, 3) := by decide +kernel
theorem dX11_isCompany_17 : decode cX11_isCompany 17 = .ok (.ireturn, 1) := by decide +kernel
theorem dX11_why_0 : decode cX11_why 0 = .ok (.aload_n 0, 1) := by decide +kernel
theorem dX11_why_1 : decode cX11_why 1 = .ok (.iload_n 1, 1) := by decide +kernel
theorem dX11_why_2 : decode cX11_why 2 = .ok (.invokevirtual 148, 3) := by decide +kernel
theorem dX11_why_5 : decode cX11_why 5 = .ok (.ifCond .eq 18, 3) := by decide +kernel
theorem dX11_why_8 : decode cX11_why 8 = .ok (.aload_n 0, 1) := by decide +kernel
theorem dX11_why_9 : decode cX11_why 9 = .ok (.iload_n 2, 1) := by decide +kernel
theorem dX11_why_10 : decode cX11_why 10 = .ok (.invokevirtual 151, 3) := by decide +kernel
theorem dX11_why_13 : decode cX11_why 13 = .ok (.ifCond .eq 10, 3) := by decide +kernel
theorem dX11_why_16 : decode cX11_why 16 = .ok (.iload_n 3, 1) := by decide +kernel
theorem dX11_why_17 : decode cX11_why 17 = .ok (.invokestatic 106, 3) := by decide +kernel
theorem dX11_why_20 : decode cX11_why 20 = .ok (.ifCond .ne 10, 3) := by decide +kernel
theorem dX11_why_23 : decode cX11_why 23 = .ok (.aload_n 0, 1) := by decide +kernel
theorem dX11_why_24 : decode cX11_why 24 = .ok (.bipush (-10), 2) := by decide +kernel
theorem dX11_why_26 : decode cX11_why 26 = .ok (.invokevirtual 103, 3) := by decide +kernel
theorem dX11_why_29 : decode cX11_why 29 = .ok (.ireturn, 1) := by decide +kernel
theorem dX11_why_30 : decode cX11_why 30 = .ok (.aload_n 0, 1) := by decide +kernel
theorem dX11_why_31 : decode cX11_why 31 = .ok (.iload_n 3, 1) := by decide +kernel
theorem dX11_why_32 : decode cX11_why 32 = .ok (.invokevirtual 139, 3) := by decide +kernel
theorem dX11_why_35 : decode cX11_why 35 = .ok (.aload_n 0, 1) := by decide +kernel
theorem dX11_why_36 : decode cX11_why 36 = .ok (.iload_n 1, 1) := by decide +kernel
theorem dX11_why_37 : decode cX11_why 37 = .ok (.iload_n 2, 1) := by decide +kernel
theorem dX11_why_38 : decode cX11_why 38 = .ok (.invokevirtual 154, 3) := by decide +kernel
theorem dX11_why_41 : decode cX11_why 41 = .ok (.ireturn, 1) := by decide +kernel
theorem dX11_type_0 : decode cX11_type 0 = .ok (.iload_n 3, 1) := by decide +kernel
theorem dX11_type_1 : decode cX11_type 1 = .ok (.i2l, 1) := by decide +kernel
theorem dX11_type_2 : decode cX11_type 2 = .ok (.lconst 1, 1) := by decide +kernel
theorem dX11_type_3 : decode cX11_type 3 = .ok (.ldc2_w 121, 3) := by decide +kernel
theorem dX11_type_6 : decode cX11_type 6 = .ok (.invokestatic 66, 3) := by decide +kernel
theorem dX11_type_9 : decode cX11_type 9 = .ok (.ifCond .ne 10, 3) := by decide +kernel
theorem dX11_type_12 : decode cX11_type 12 = .ok (.aload_n 0, 1) := by decide +kernel
theorem dX11_type_13 : decode cX11_type 13 = .ok (.bipush (-2), 2) := by decide +kernel
theorem dX11_type_15 : decode cX11_type 15 = .ok (.invokevirtual 103, 3) := by decide +kernel
theorem dX11_type_18 : decode cX11_type 18 = .ok (.ireturn, 1) := by decide +kernel
theorem dX11_type_19 : decode cX11_type 19 = .ok (.aload_n 0, 1) := by decide +kernel
theorem dX11_type_20 : decode cX11_type 20 = .ok (.getfield 7, 3) := by decide +kernel
theorem dX11_type_23 : decode cX11_type 23 = .ok (.iconst 2, 1) := by decide +kernel
theorem dX11_type_24 : decode cX11_type 24 = .ok (.iaload, 1) := by decide +kernel
theorem dX11_type_25 : decode cX11_type 25 = .ok (.iload_n 3, 1) := by decide +kernel
theorem dX11_type_26 : decode cX11_type 26 = .ok (.iadd, 1) := by decide +kernel
theorem dX11_type_27 : decode cX11_type 27 = .ok (.sipush 200, 3) := by decide +kernel
theorem dX11_type_30 : decode cX11_type 30 = .ok (.if_icmp .le 8, 3) := by decide +kernel
theorem dX11_type_33 : decode cX11_type 33 = .ok (.aload_n 0, 1) := by decide +kernel
theorem dX11_type_34 : decode cX11_type 34 = .ok (.invokevirtual 115, 3) := by decide +kernel
theorem dX11_type_37 : decode cX11_type 37 = .ok (.ireturn, 1) := by decide +kernel
theorem dX11_type_38 : decode cX11_type 38 = .ok (.iload_n 3, 1) := by decide +kernel
theorem dX11_type_39 : decode cX11_type 39 = .ok (.iconst 1, 1) := by decide +kernel
theorem dX11_type_40 : decode cX11_type 40 = .ok (.isub, 1) := by decide +kernel
theorem dX11_type_41 : decode cX11_type 41 = .ok (.istore 4, 2) := by decide +kernel
theorem dX11_type_43 : decode cX11_type 43 = .ok (.iload 4, 2) := by decide +kernel
theorem dX11_type_45 : decode cX11_type 45 = .ok (.ifCond .lt 45, 3) := by decide +kernel
theorem dX11_type_48 : decode cX11_type 48 = .ok (.aload_n 0, 1) := by decide +kernel
theorem dX11_type_49 : decode cX11_type 49 = .ok (.getfield 7, 3) := by decide +kernel
theorem dX11_type_52 : decode cX11_type 52 = .ok (.bipush 77, 2) := by decide +kernel
theorem dX11_type_54 : decode cX11_type 54 = .ok (.aload_n 0, 1) := by decide +kernel
theorem dX11_type_55 : decode cX11_type 55 = .ok (.getfield 7, 3) := by decide +kernel
theorem dX11_type_58 : decode cX11_type 58 = .ok (.iconst 2, 1) := by decide +kernel
theorem dX11_type_59 : decode cX11_type 59 = .ok (.iaload, 1) := by decide +kernel
theorem dX11_type_60 : decode cX11_type 60 = .ok (.iadd, 1) := by decide +kernel
theorem dX11_type_61 : decode cX11_type 61 = .ok (.lload_n 1, 1) := by decide +kernel
theorem dX11_type_62 : decode cX11_type 62 = .ok (.bipush 8, 2) := by decide +kernel
theorem dX11_type_64 : decode cX11_type 64 = .ok (.iload 4, 2) := by decide +kernel
theorem dX11_type_66 : decode cX11_type 66 = .ok (.imul, 1) := by decide +kernel
theorem dX11_type_67 : decode cX11_type 67 = .ok (.lshr, 1) := by decide +kernel
theorem dX11_type_68 : decode cX11_type 68 = .ok (.ldc2_w 157, 3) := by decide +kernel
theorem dX11_type_71 : decode cX11_type 71 = .ok (.land, 1) := by decide +kernel
theorem dX11_type_72 : decode cX11_type 72 = .ok (.l2i, 1) := by decide +kernel
theorem dX11_type_73 : decode cX11_type 73 = .ok (.iastore, 1) := by decide +kernel
theorem dX11_type_74 : decode cX11_type 74 = .ok (.aload_n 0, 1) := by decide +kernel
theorem dX11_type_75 : decode cX11_type 75 = .ok (.getfield 7, 3) := by decide +kernel
theorem dX11_type_78 : decode cX11_type 78 = .ok (.iconst 2, 1) := by decide +kernel
theorem dX11_type_79 : decode cX11_type 79 = .ok (.dup2, 1) := by decide +kernel
theorem dX11_type_80 : decode cX11_type 80 = .ok (.iaload, 1) := by decide +kernel
theorem dX11_type_81 : decode cX11_type 81 = .ok (.iconst 1, 1) := by decide +kernel
theorem dX11_type_82 : decode cX11_type 82 = .ok (.iadd, 1) := by decide +kernel
theorem dX11_type_83 : decode cX11_type 83 = .ok (.iastore, 1) := by decide +kernel
theorem dX11_type_84 : decode cX11_type 84 = .ok (.iinc 4 (-1), 3) := by decide +kernel
theorem dX11_type_87 : decode cX11_type 87 = .ok (.goto (-44), 3) := by decide +kernel
theorem dX11_type_90 : decode cX11_type 90 = .ok (.aload_n 0, 1) := by decide +kernel
theorem dX11_type_91 : decode cX11_type 91 = .ok (.getfield 7, 3) := by decide +kernel
theorem dX11_type_94 : decode cX11_type 94 = .ok (.iconst 2, 1) := by decide +kernel
theorem dX11_type_95 : decode cX11_type 95 = .ok (.iaload, 1) := by decide +kernel
theorem dX11_type_96 : decode cX11_type 96 = .ok (.ireturn, 1) := by decide +kernel
theorem dX11_clear_0 : decode cX11_clear 0 = .ok (.aload_n 0, 1) := by decide +kernel
theorem dX11_clear_1 : decode cX11_clear 1 = .ok (.getfield 7, 3) := by decide +kernel
theorem dX11_clear_4 : decode cX11_clear 4 = .ok (.iconst 2, 1) := by decide +kernel
theorem dX11_clear_5 : decode cX11_clear 5 = .ok (.iaload, 1) := by decide +kernel
theorem dX11_clear_6 : decode cX11_clear 6 = .ok (.istore_n 1, 1) := by decide +kernel
theorem dX11_clear_7 : decode cX11_clear 7 = .ok (.aload_n 0, 1) := by decide +kernel
theorem dX11_clear_8 : decode cX11_clear 8 = .ok (.getfield 7, 3) := by decide +kernel
theorem dX11_clear_11 : decode cX11_clear 11 = .ok (.iconst 2, 1) := by decide +kernel
theorem dX11_clear_12 : decode cX11_clear 12 = .ok (.iconst 0, 1) := by decide +kernel
theorem dX11_clear_13 : decode cX11_clear 13 = .ok (.iastore, 1) := by decide +kernel
theorem dX11_clear_14 : decode cX11_clear 14 = .ok (.iload_n 1, 1) := by decide +kernel
theorem dX11_clear_15 : decode cX11_clear 15 = .ok (.ireturn, 1) := by decide +kernel
theorem dX11_byteAt_0 : decode cX11_byteAt 0 = .ok (.iload_n 1, 1) := by decide +kernel
theorem dX11_byteAt_1 : decode cX11_byteAt 1 = .ok (.aload_n 0, 1) := by decide +kernel
theorem dX11_byteAt_2 : decode cX11_byteAt 2 = .ok (.getfield 7, 3) := by decide +kernel
theorem dX11_byteAt_5 : decode cX11_byteAt 5 = .ok (.iconst 2, 1) := by decide +kernel
theorem dX11_byteAt_6 : decode cX11_byteAt 6 = .ok (.iaload, 1) := by decide +kernel
theorem dX11_byteAt_7 : decode cX11_byteAt 7 = .ok (.if_icmp .ge 15, 3) := by decide +kernel
theorem dX11_byteAt_10 : decode cX11_byteAt 10 = .ok (.aload_n 0, 1) := by decide +kernel
theorem dX11_byteAt_11 : decode cX11_byteAt 11 = .ok (.getfield 7, 3) := by decide +kernel
theorem dX11_byteAt_14 : decode cX11_byteAt 14 = .ok (.bipush 77, 2) := by decide +kernel
theorem dX11_byteAt_16 : decode cX11_byteAt 16 = .ok (.iload_n 1, 1) := by decide +kernel
theorem dX11_byteAt_17 : decode cX11_byteAt 17 = .ok (.iadd, 1) := by decide +kernel
theorem dX11_byteAt_18 : decode cX11_byteAt 18 = .ok (.iaload, 1) := by decide +kernel
theorem dX11_byteAt_19 : decode cX11_byteAt 19 = .ok (.goto 4, 3) := by decide +kernel
theorem dX11_byteAt_22 : decode cX11_byteAt 22 = .ok (.iconst 0, 1) := by decide +kernel
theorem dX11_byteAt_23 : decode cX11_byteAt 23 = .ok (.ireturn, 1) := by decide +kernel
theorem dX11_nextToken_0 : decode cX11_nextToken 0 = .ok (.aload_n 0, 1) := by decide +kernel
theorem dX11_nextToken_1 : decode cX11_nextToken 1 = .ok (.aload_n 0, 1) := by decide +kernel
theorem dX11_nextToken_2 : decode cX11_nextToken 2 = .ok (.getfield 159, 3) := by decide +kernel
theorem dX11_nextToken_5 : decode cX11_nextToken 5 = .ok (.putfield 162, 3) := by decide +kernel
theorem dX11_nextToken_8 : decode cX11_nextToken 8 = .ok (.aload_n 0, 1) := by decide +kernel
theorem dX11_nextToken_9 : decode cX11_nextToken 9 = .ok (.getfield 162, 3) := by decide +kernel
theorem dX11_nextToken_12 : decode cX11_nextToken 12 = .ok (.aload_n 0, 1) := by decide +kernel
theorem dX11_nextToken_13 : decode cX11_nextToken 13 = .ok (.getfield 7, 3) := by decide +kernel
theorem dX11_nextToken_16 : decode cX11_nextToken 16 = .ok (.iconst 2, 1) := by decide +kernel
theorem dX11_nextToken_17 : decode cX11_nextToken 17 = .ok (.iaload, 1) := by decide +kernel
theorem dX11_nextToken_18 : decode cX11_nextToken 18 = .ok (.if_icmp .ge 29, 3) := by decide +kernel
theorem dX11_nextToken_21 : decode cX11_nextToken 21 = .ok (.aload_n 0, 1) := by decide +kernel
theorem dX11_nextToken_22 : decode cX11_nextToken 22 = .ok (.aload_n 0, 1) := by decide +kernel
theorem dX11_nextToken_23 : decode cX11_nextToken 23 = .ok (.getfield 162, 3) := by decide +kernel
theorem dX11_nextToken_26 : decode cX11_nextToken 26 = .ok (.invokevirtual 165, 3) := by decide +kernel
theorem dX11_nextToken_29 : decode cX11_nextToken 29 = .ok (.bipush 32, 2) := by decide +kernel
theorem dX11_nextToken_31 : decode cX11_nextToken 31 = .ok (.if_icmp .ne 16, 3) := by decide +kernel
theorem dX11_nextToken_34 : decode cX11_nextToken 34 = .ok (.aload_n 0, 1) := by decide +kernel
theorem dX11_nextToken_35 : decode cX11_nextToken 35 = .ok (.dup, 1) := by decide +kernel
theorem dX11_nextToken_36 : decode cX11_nextToken 36 = .ok (.getfield 162, 3) := by decide +kernel
theorem dX11_nextToken_39 : decode cX11_nextToken 39 = .ok (.iconst 1, 1) := by decide +kernel
theorem dX11_nextToken_40 : decode cX11_nextToken 40 = .ok (.iadd, 1) := by decide +kernel
theorem dX11_nextToken_41 : decode cX11_nextToken 41 = .ok (.putfield 162, 3) := by decide +kernel
theorem dX11_nextToken_44 : decode cX11_nextToken 44 = .ok (.goto (-36), 3) := by decide +kernel
theorem dX11_nextToken_47 : decode cX11_nextToken 47 = .ok (.aload_n 0, 1) := by decide +kernel
theorem dX11_nextToken_48 : decode cX11_nextToken 48 = .ok (.aload_n 0, 1) := by decide +kernel
theorem dX11_nextToken_49 : decode cX11_nextToken 49 = .ok (.getfield 162, 3) := by decide +kernel
theorem dX11_nextToken_52 : decode cX11_nextToken 52 = .ok (.putfield 159, 3) := by decide +kernel
theorem dX11_nextToken_55 : decode cX11_nextToken 55 = .ok (.aload_n 0, 1) := by decide +kernel
theorem dX11_nextToken_56 : decode cX11_nextToken 56 = .ok (.lconst 0, 1) := by decide +kernel
theorem dX11_nextToken_57 : decode cX11_nextToken 57 = .ok (.putfield 168, 3) := by decide +kernel
theorem dX11_nextToken_60 : decode cX11_nextToken 60 = .ok (.aload_n 0, 1) := by decide +kernel
theorem dX11_nextToken_61 : decode cX11_nextToken 61 = .ok (.getfield 162, 3) := by decide +kernel
theorem dX11_nextToken_64 : decode cX11_nextToken 64 = .ok (.aload_n 0, 1) := by decide +kernel
theorem dX11_nextToken_65 : decode cX11_nextToken 65 = .ok (.getfield 7, 3) := by decide +kernel
theorem dX11_nextToken_68 : decode cX11_nextToken 68 = .ok (.iconst 2, 1) := by decide +kernel
theorem dX11_nextToken_69 : decode cX11_nextToken 69 = .ok (.iaload, 1) := by decide +kernel
theorem dX11_nextToken_70 : decode cX11_nextToken 70 = .ok (.if_icmp .lt 11, 3) := by decide +kernel
theorem dX11_nextToken_73 : decode cX11_nextToken 73 = .ok (.aload_n 0, 1) := by decide +kernel
theorem dX11_nextToken_74 : decode cX11_nextToken 74 = .ok (.iconst 0, 1) := by decide +kernel
theorem dX11_nextToken_75 : decode cX11_nextToken 75 = .ok (.putfield 171, 3) := by decide +kernel
theorem dX11_nextToken_78 : decode cX11_nextToken 78 = .ok (.goto 269, 3) := by decide +kernel
theorem dX11_nextToken_81 : decode cX11_nextToken 81 = .ok (.aload_n 0, 1) := by decide +kernel
theorem dX11_nextToken_82 : decode cX11_nextToken 82 = .ok (.aload_n 0, 1) := by decide +kernel
theorem dX11_nextToken_83 : decode cX11_nextToken 83 = .ok (.getfield 162, 3) := by decide +kernel
theorem dX11_nextToken_86 : decode cX11_nextToken 86 = .ok (.invokevirtual 165, 3) := by decide +kernel
theorem dX11_nextToken_89 : decode cX11_nextToken 89 = .ok (.i2l, 1) := by decide +kernel
theorem dX11_nextToken_90 : decode cX11_nextToken 90 = .ok (.ldc2_w 174, 3) := by decide +kernel
theorem dX11_nextToken_93 : decode cX11_nextToken 93 = .ok (.ldc2_w 176, 3) := by decide +kernel
theorem dX11_nextToken_96 : decode cX11_nextToken 96 = .ok (.invokestatic 66, 3) := by decide +kernel
theorem dX11_nextToken_99 : decode cX11_nextToken 99 = .ok (.ifCond .eq 88, 3) := by decide +kernel
theorem dX11_nextToken_102 : decode cX11_nextToken 102 = .ok (.aload_n 0, 1) := by decide +kernel
theorem dX11_nextToken_103 : decode cX11_nextToken 103 = .ok (.iconst 1, 1) := by decide +kernel
theorem dX11_nextToken_104 : decode cX11_nextToken 104 = .ok (.putfield 171, 3) := by decide +kernel
theorem dX11_nextToken_107 : decode cX11_nextToken 107 = .ok (.aload_n 0, 1) := by decide +kernel
theorem dX11_nextToken_108 : decode cX11_nextToken 108 = .ok (.aload_n 0, 1) := by decide +kernel
theorem dX11_nextToken_109 : decode cX11_nextToken 109 = .ok (.getfield 159, 3) := by decide +kernel
theorem dX11_nextToken_112 : decode cX11_nextToken 112 = .ok (.invokevirtual 165, 3) := by decide +kernel
theorem dX11_nextToken_115 : decode cX11_nextToken 115 = .ok (.i2l, 1) := by decide +kernel
theorem dX11_nextToken_116 : decode cX11_nextToken 116 = .ok (.ldc2_w 174, 3) := by decide +kernel
theorem dX11_nextToken_119 : decode cX11_nextToken 119 = .ok (.ldc2_w 176, 3) := by decide +kernel
theorem dX11_nextToken_122 : decode cX11_nextToken 122 = .ok (.invokestatic 66, 3) := by decide +kernel
theorem dX11_nextToken_125 : decode cX11_nextToken 125 = .ok (.ifCond .eq 222, 3) := by decide +kernel
theorem dX11_nextToken_128 : decode cX11_nextToken 128 = .ok (.aload_n 0, 1) := by decide +kernel
theorem dX11_nextToken_129 : decode cX11_nextToken 129 = .ok (.aload_n 0, 1) := by decide +kernel
theorem dX11_nextToken_130 : decode cX11_nextToken 130 = .ok (.getfield 159, 3) := by decide +kernel
theorem dX11_nextToken_133 : decode cX11_nextToken 133 = .ok (.aload_n 0, 1) := by decide +kernel
theorem dX11_nextToken_134 : decode cX11_nextToken 134 = .ok (.getfield 162, 3) := by decide +kernel
theorem dX11_nextToken_137 : decode cX11_nextToken 137 = .ok (.isub, 1) := by decide +kernel
theorem dX11_nextToken_138 : decode cX11_nextToken 138 = .ok (.bipush 8, 2) := by decide +kernel
theorem dX11_nextToken_140 : decode cX11_nextToken 140 = .ok (.if_icmp .ge 28, 3) := by decide +kernel
theorem dX11_nextToken_143 : decode cX11_nextToken 143 = .ok (.ldc2_w 178, 3) := by decide +kernel
theorem dX11_nextToken_146 : decode cX11_nextToken 146 = .ok (.aload_n 0, 1) := by decide +kernel
theorem dX11_nextToken_147 : decode cX11_nextToken 147 = .ok (.getfield 168, 3) := by decide +kernel
theorem dX11_nextToken_150 : decode cX11_nextToken 150 = .ok (.lmul, 1) := by decide +kernel
theorem dX11_nextToken_151 : decode cX11_nextToken 151 = .ok (.aload_n 0, 1) := by decide +kernel
theorem dX11_nextToken_152 : decode cX11_nextToken 152 = .ok (.aload_n 0, 1) := by decide +kernel
theorem dX11_nextToken_153 : decode cX11_nextToken 153 = .ok (.getfield 159, 3) := by decide +kernel
theorem dX11_nextToken_156 : decode cX11_nextToken 156 = .ok (.invokevirtual 165, 3) := by decide +kernel
theorem dX11_nextToken_159 : decode cX11_nextToken 159 = .ok (.i2l, 1) := by decide +kernel
theorem dX11_nextToken_160 : decode cX11_nextToken 160 = .ok (.ladd, 1) := by decide +kernel
theorem dX11_nextToken_161 : decode cX11_nextToken 161 = .ok (.ldc2_w 180, 3) := by decide +kernel
theorem dX11_nextToken_164 : decode cX11_nextToken 164 = .ok (.lsub, 1) := by decide +kernel
theorem dX11_nextToken_165 : decode cX11_nextToken 165 = .ok (.goto 6, 3) := by decide +kernel
theorem dX11_nextToken_168 : decode cX11_nextToken 168 = .ok (.ldc2_w 182, 3) := by decide +kernel
theorem dX11_nextToken_171 : decode cX11_nextToken 171 = .ok (.putfield 168, 3) := by decide +kernel
theorem dX11_nextToken_174 : decode cX11_nextToken 174 = .ok (.aload_n 0, 1) := by decide +kernel
theorem dX11_nextToken_175 : decode cX11_nextToken 175 = .ok (.dup, 1) := by decide +kernel
theorem dX11_nextToken_176 : decode cX11_nextToken 176 = .ok (.getfield 159, 3) := by decide +kernel
theorem dX11_nextToken_179 : decode cX11_nextToken 179 = .ok (.iconst 1, 1) := by decide +kernel
theorem dX11_nextToken_180 : decode cX11_nextToken 180 = .ok (.iadd, 1) := by decide +kernel
theorem dX11_nextToken_181 : decode cX11_nextToken 181 = .ok (.putfield 159, 3) := by decide +kernel
theorem dX11_nextToken_184 : decode cX11_nextToken 184 = .ok (.goto (-77), 3) := by decide +kernel
theorem dX11_nextToken_187 : decode cX11_nextToken 187 = .ok (.aload_n 0, 1) := by decide +kernel
theorem dX11_nextToken_188 : decode cX11_nextToken 188 = .ok (.aload_n 0, 1) := by decide +kernel
theorem dX11_nextToken_189 : decode cX11_nextToken 189 = .ok (.getfield 162, 3) := by decide +kernel
theorem dX11_nextToken_192 : decode cX11_nextToken 192 = .ok (.invokevirtual 165, 3) := by decide +kernel
theorem dX11_nextToken_195 : decode cX11_nextToken 195 = .ok (.i2l, 1) := by decide +kernel
theorem dX11_nextToken_196 : decode cX11_nextToken 196 = .ok (.ldc2_w 184, 3) := by decide +kernel
theorem dX11_nextToken_199 : decode cX11_nextToken 199 = .ok (.ldc2_w 186, 3) := by decide +kernel
theorem dX11_nextToken_202 : decode cX11_nextToken 202 = .ok (.invokestatic 66, 3) := by decide +kernel
theorem dX11_nextToken_205 : decode cX11_nextToken 205 = .ok (.ifCond .eq 110, 3) := by decide +kernel
theorem dX11_nextToken_208 : decode cX11_nextToken 208 = .ok (.aload_n 0, 1) := by decide +kernel
theorem dX11_nextToken_209 : decode cX11_nextToken 209 = .ok (.iconst 2, 1) := by decide +kernel
theorem dX11_nextToken_210 : decode cX11_nextToken 210 = .ok (.putfield 171, 3) := by decide +kernel
theorem dX11_nextToken_213 : decode cX11_nextToken 213 = .ok (.aload_n 0, 1) := by decide +kernel
theorem dX11_nextToken_214 : decode cX11_nextToken 214 = .ok (.aload_n 0, 1) := by decide +kernel
theorem dX11_nextToken_215 : decode cX11_nextToken 215 = .ok (.getfield 159, 3) := by decide +kernel
theorem dX11_nextToken_218 : decode cX11_nextToken 218 = .ok (.invokevirtual 165, 3) := by decide +kernel
theorem dX11_nextToken_221 : decode cX11_nextToken 221 = .ok (.i2l, 1) := by decide +kernel
theorem dX11_nextToken_222 : decode cX11_nextToken 222 = .ok (.ldc2_w 184, 3) := by decide +kernel
theorem dX11_nextToken_225 : decode cX11_nextToken 225 = .ok (.ldc2_w 186, 3) := by decide +kernel
theorem dX11_nextToken_228 : decode cX11_nextToken 228 = .ok (.invokestatic 66, 3) := by decide +kernel
theorem dX11_nextToken_231 : decode cX11_nextToken 231 = .ok (.ifCond .eq 59, 3) := by decide +kernel
theorem dX11_nextToken_234 : decode cX11_nextToken 234 = .ok (.aload_n 0, 1) := by decide +kernel
theorem dX11_nextToken_235 : decode cX11_nextToken 235 = .ok (.aload_n 0, 1) := by decide +kernel
theorem dX11_nextToken_236 : decode cX11_nextToken 236 = .ok (.getfield 159, 3) := by decide +kernel
theorem dX11_nextToken_239 : decode cX11_nextToken 239 = .ok (.aload_n 0, 1) := by decide +kernel
theorem dX11_nextToken_240 : decode cX11_nextToken 240 = .ok (.getfield 162, 3) := by decide +kernel
theorem dX11_nextToken_243 : decode cX11_nextToken 243 = .ok (.isub, 1) := by decide +kernel
theorem dX11_nextToken_244 : decode cX11_nextToken 244 = .ok (.iconst 4, 1) := by decide +kernel
theorem dX11_nextToken_245 : decode cX11_nextToken 245 = .ok (.if_icmp .ge 28, 3) := by decide +kernel
theorem dX11_nextToken_248 : decode cX11_nextToken 248 = .ok (.ldc2_w 188, 3) := by decide +kernel
theorem dX11_nextToken_251 : decode cX11_nextToken 251 = .ok (.aload_n 0, 1) := by decide +kernel
theorem dX11_nextToken_252 : decode cX11_nextToken 252 = .ok (.getfield 168, 3) := by decide +kernel
theorem dX11_nextToken_255 : decode cX11_nextToken 255 = .ok (.lmul, 1) := by decide +kernel
theorem dX11_nextToken_256 : decode cX11_nextToken 256 = .ok (.aload_n 0, 1) := by decide +kernel
theorem dX11_nextToken_257 : decode cX11_nextToken 257 = .ok (.aload_n 0, 1) := by decide +kernel
theorem dX11_nextToken_258 : decode cX11_nextToken 258 = .ok (.getfield 159, 3) := by decide +kernel
theorem dX11_nextToken_261 : decode cX11_nextToken 261 = .ok (.invokevirtual 165, 3) := by decide +kernel
theorem dX11_nextToken_264 : decode cX11_nextToken 264 = .ok (.i2l, 1) := by decide +kernel
theorem dX11_nextToken_265 : decode cX11_nextToken 265 = .ok (.ladd, 1) := by decide +kernel
theorem dX11_nextToken_266 : decode cX11_nextToken 266 = .ok (.ldc2_w 184, 3) := by decide +kernel
theorem dX11_nextToken_269 : decode cX11_nextToken 269 = .ok (.lsub, 1) := by decide +kernel
theorem dX11_nextToken_270 : decode cX11_nextToken 270 = .ok (.goto 4, 3) := by decide +kernel
theorem dX11_nextToken_273 : decode cX11_nextToken 273 = .ok (.lconst 0, 1) := by decide +kernel
theorem dX11_nextToken_274 : decode cX11_nextToken 274 = .ok (.putfield 168, 3) := by decide +kernel
theorem dX11_nextToken_277 : decode cX11_nextToken 277 = .ok (.aload_n 0, 1) := by decide +kernel
theorem dX11_nextToken_278 : decode cX11_nextToken 278 = .ok (.dup, 1) := by decide +kernel
theorem dX11_nextToken_279 : decode cX11_nextToken 279 = .ok (.getfield 159, 3) := by decide +kernel
theorem dX11_nextToken_282 : decode cX11_nextToken 282 = .ok (.iconst 1, 1) := by decide +kernel
theorem dX11_nextToken_283 : decode cX11_nextToken 283 = .ok (.iadd, 1) := by decide +kernel
theorem dX11_nextToken_284 : decode cX11_nextToken 284 = .ok (.putfield 159, 3) := by decide +kernel
theorem dX11_nextToken_287 : decode cX11_nextToken 287 = .ok (.goto (-74), 3) := by decide +kernel
theorem dX11_nextToken_290 : decode cX11_nextToken 290 = .ok (.aload_n 0, 1) := by decide +kernel
theorem dX11_nextToken_291 : decode cX11_nextToken 291 = .ok (.aload_n 0, 1) := by decide +kernel
theorem dX11_nextToken_292 : decode cX11_nextToken 292 = .ok (.getfield 159, 3) := by decide +kernel
theorem dX11_nextToken_295 : decode cX11_nextToken 295 = .ok (.aload_n 0, 1) := by decide +kernel
theorem dX11_nextToken_296 : decode cX11_nextToken 296 = .ok (.getfield 162, 3) := by decide +kernel
theorem dX11_nextToken_299 : decode cX11_nextToken 299 = .ok (.isub, 1) := by decide +kernel
theorem dX11_nextToken_300 : decode cX11_nextToken 300 = .ok (.iconst 4, 1) := by decide +kernel
theorem dX11_nextToken_301 : decode cX11_nextToken 301 = .ok (.if_icmp .le 7, 3) := by decide +kernel
theorem dX11_nextToken_304 : decode cX11_nextToken 304 = .ok (.iconst 4, 1) := by decide +kernel
theorem dX11_nextToken_305 : decode cX11_nextToken 305 = .ok (.goto 4, 3) := by decide +kernel
theorem dX11_nextToken_308 : decode cX11_nextToken 308 = .ok (.iconst 2, 1) := by decide +kernel
theorem dX11_nextToken_309 : decode cX11_nextToken 309 = .ok (.putfield 171, 3) := by decide +kernel
theorem dX11_nextToken_312 : decode cX11_nextToken 312 = .ok (.goto 35, 3) := by decide +kernel
theorem dX11_nextToken_315 : decode cX11_nextToken 315 = .ok (.aload_n 0, 1) := by decide +kernel
theorem dX11_nextToken_316 : decode cX11_nextToken 316 = .ok (.aload_n 0, 1) := by decide +kernel
theorem dX11_nextToken_317 : decode cX11_nextToken 317 = .ok (.aload_n 0, 1) := by decide +kernel
theorem dX11_nextToken_318 : decode cX11_nextToken 318 = .ok (.getfield 162, 3) := by decide +kernel
theorem dX11_nextToken_321 : decode cX11_nextToken 321 = .ok (.invokevirtual 165, 3) := by decide +kernel
theorem dX11_nextToken_324 : decode cX11_nextToken 324 = .ok (.bipush 59, 2) := by decide +kernel
theorem dX11_nextToken_326 : decode cX11_nextToken 326 = .ok (.if_icmp .ne 7, 3) := by decide +kernel
theorem dX11_nextToken_329 : decode cX11_nextToken 329 = .ok (.iconst 3, 1) := by decide +kernel
theorem dX11_nextToken_330 : decode cX11_nextToken 330 = .ok (.goto 4, 3) := by decide +kernel
theorem dX11_nextToken_333 : decode cX11_nextToken 333 = .ok (.iconst 4, 1) := by decide +kernel
theorem dX11_nextToken_334 : decode cX11_nextToken 334 = .ok (.putfield 171, 3) := by decide +kernel
theorem dX11_nextToken_337 : decode cX11_nextToken 337 = .ok (.aload_n 0, 1) := by decide +kernel
theorem dX11_nextToken_338 : decode cX11_nextToken 338 = .ok (.dup, 1) := by decide +kernel
theorem dX11_nextToken_339 : decode cX11_nextToken 339 = .ok (.getfield 159, 3) := by decide +kernel
theorem dX11_nextToken_342 : decode cX11_nextToken 342 = .ok (.iconst 1, 1) := by decide +kernel
theorem dX11_nextToken_343 : decode cX11_nextToken 343 = .ok (.iadd, 1) := by decide +kernel
theorem dX11_nextToken_344 : decode cX11_nextToken 344 = .ok (.putfield 159, 3) := by decide +kernel
theorem dX11_nextToken_347 : decode cX11_nextToken 347 = .ok (.return_, 1) := by decide +kernel
theorem dX11_isNumber_0 : decode cX11_isNumber 0 = .ok (.aload_n 0, 1) := by decide +kernel
theorem dX11_isNumber_1 : decode cX11_isNumber 1 = .ok (.invokevirtual 190, 3) := by decide +kernel
theorem dX11_isNumber_4 : decode cX11_isNumber 4 = .ok (.aload_n 0, 1) := by decide +kernel
theorem dX11_isNumber_5 : decode cX11_isNumber 5 = .ok (.getfield 171, 3) := by decide +kernel
theorem dX11_isNumber_8 : decode cX11_isNumber 8 = .ok (.iconst 2, 1) := by decide +kernel
theorem dX11_isNumber_9 : decode cX11_isNumber 9 = .ok (.if_icmp .ne 21, 3) := by decide +kernel
theorem dX11_isNumber_12 : decode cX11_isNumber 12 = .ok (.aload_n 0, 1) := by decide +kernel
theorem dX11_isNumber_13 : decode cX11_isNumber 13 = .ok (.getfield 168, 3) := by decide +kernel
theorem dX11_isNumber_16 : decode cX11_isNumber 16 = .ok (.iload_n 1, 1) := by decide +kernel
theorem dX11_isNumber_17 : decode cX11_isNumber 17 = .ok (.i2l, 1) := by decide +kernel
theorem dX11_isNumber_18 : decode cX11_isNumber 18 = .ok (.iload_n 2, 1) := by decide +kernel
theorem dX11_isNumber_19 : decode cX11_isNumber 19 = .ok (.i2l, 1) := by decide +kernel
theorem dX11_isNumber_20 : decode cX11_isNumber 20 = .ok (.invokestatic 66, 3) := by decide +kernel
theorem dX11_isNumber_23 : decode cX11_isNumber 23 = .ok (.ifCond .eq 7, 3) := by decide +kernel
theorem dX11_isNumber_26 : decode cX11_isNumber 26 = .ok (.iconst 1, 1) := by decide +kernel
theorem dX11_isNumber_27 : decode cX11_isNumber 27 = .ok (.goto 4, 3) := by decide +kernel
theorem dX11_isNumber_30 : decode cX11_isNumber 30 = .ok (.iconst 0, 1) := by decide +kernel
theorem dX11_isNumber_31 : decode cX11_isNumber 31 = .ok (.ireturn, 1) := by decide +kernel
theorem dX11_readPerson_0 : decode cX11_readPerson 0 = .ok (.aload_n 0, 1) := by decide +kernel
theorem dX11_readPerson_1 : decode cX11_readPerson 1 = .ok (.getfield 35, 3) := by decide +kernel
theorem dX11_readPerson_4 : decode cX11_readPerson 4 = .ok (.iconst 0, 1) := by decide +kernel
theorem dX11_readPerson_5 : decode cX11_readPerson 5 = .ok (.iaload, 1) := by decide +kernel
theorem dX11_readPerson_6 : decode cX11_readPerson 6 = .ok (.bipush 8, 2) := by decide +kernel
theorem dX11_readPerson_8 : decode cX11_readPerson 8 = .ok (.if_icmp .eq 16, 3) := by decide +kernel
theorem dX11_readPerson_11 : decode cX11_readPerson 11 = .ok (.aload_n 0, 1) := by decide +kernel
theorem dX11_readPerson_12 : decode cX11_readPerson 12 = .ok (.sipush 1800, 3) := by decide +kernel
theorem dX11_readPerson_15 : decode cX11_readPerson 15 = .ok (.sipush 2199, 3) := by decide +kernel
theorem dX11_readPerson_18 : decode cX11_readPerson 18 = .ok (.invokevirtual 193, 3) := by decide +kernel
theorem dX11_readPerson_21 : decode cX11_readPerson 21 = .ok (.ifCond .ne 5, 3) := by decide +kernel
theorem dX11_readPerson_24 : decode cX11_readPerson 24 = .ok (.iconst 0, 1) := by decide +kernel
theorem dX11_readPerson_25 : decode cX11_readPerson 25 = .ok (.ireturn, 1) := by decide +kernel
theorem dX11_readPerson_26 : decode cX11_readPerson 26 = .ok (.aload_n 0, 1) := by decide +kernel
theorem dX11_readPerson_27 : decode cX11_readPerson 27 = .ok (.getfield 168, 3) := by decide +kernel
theorem dX11_readPerson_30 : decode cX11_readPerson 30 = .ok (.l2i, 1) := by decide +kernel
theorem dX11_readPerson_31 : decode cX11_readPerson 31 = .ok (.istore_n 1, 1) := by decide +kernel
theorem dX11_readPerson_32 : decode cX11_readPerson 32 = .ok (.aload_n 0, 1) := by decide +kernel
theorem dX11_readPerson_33 : decode cX11_readPerson 33 = .ok (.iconst 1, 1) := by decide +kernel
theorem dX11_readPerson_34 : decode cX11_readPerson 34 = .ok (.bipush 12, 2) := by decide +kernel
theorem dX11_readPerson_36 : decode cX11_readPerson 36 = .ok (.invokevirtual 193, 3) := by decide +kernel
theorem dX11_readPerson_39 : decode cX11_readPerson 39 = .ok (.ifCond .ne 5, 3) := by decide +kernel
theorem dX11_readPerson_42 : decode cX11_readPerson 42 = .ok (.iconst 0, 1) := by decide +kernel
theorem dX11_readPerson_43 : decode cX11_readPerson 43 = .ok (.ireturn, 1) := by decide +kernel
theorem dX11_readPerson_44 : decode cX11_readPerson 44 = .ok (.aload_n 0, 1) := by decide +kernel
theorem dX11_readPerson_45 : decode cX11_readPerson 45 = .ok (.getfield 168, 3) := by decide +kernel
theorem dX11_readPerson_48 : decode cX11_readPerson 48 = .ok (.l2i, 1) := by decide +kernel
theorem dX11_readPerson_49 : decode cX11_readPerson 49 = .ok (.istore_n 2, 1) := by decide +kernel
theorem dX11_readPerson_50 : decode cX11_readPerson 50 = .ok (.aload_n 0, 1) := by decide +kernel
theorem dX11_readPerson_51 : decode cX11_readPerson 51 = .ok (.iconst 1, 1) := by decide +kernel
theorem dX11_readPerson_52 : decode cX11_readPerson 52 = .ok (.iload_n 1, 1) := by decide +kernel
theorem dX11_readPerson_53 : decode cX11_readPerson 53 = .ok (.iload_n 2, 1) := by decide +kernel
theorem dX11_readPerson_54 : decode cX11_readPerson 54 = .ok (.invokestatic 72, 3) := by decide +kernel
theorem dX11_readPerson_57 : decode cX11_readPerson 57 = .ok (.invokevirtual 193, 3) := by decide +kernel
theorem dX11_readPerson_60 : decode cX11_readPerson 60 = .ok (.ifCond .ne 5, 3) := by decide +kernel
theorem dX11_readPerson_63 : decode cX11_readPerson 63 = .ok (.iconst 0, 1) := by decide +kernel
theorem dX11_readPerson_64 : decode cX11_readPerson 64 = .ok (.ireturn, 1) := by decide +kernel
theorem dX11_readPerson_65 : decode cX11_readPerson 65 = .ok (.aload_n 0, 1) := by decide +kernel
theorem dX11_readPerson_66 : decode cX11_readPerson 66 = .ok (.getfield 35, 3) := by decide +kernel
theorem dX11_readPerson_69 : decode cX11_readPerson 69 = .ok (.iconst 5, 1) := by decide +kernel
theorem dX11_readPerson_70 : decode cX11_readPerson 70 = .ok (.aload_n 0, 1) := by decide +kernel
theorem dX11_readPerson_71 : decode cX11_readPerson 71 = .ok (.getfield 35, 3) := by decide +kernel
theorem dX11_readPerson_74 : decode cX11_readPerson 74 = .ok (.iconst 0, 1) := by decide +kernel
theorem dX11_readPerson_75 : decode cX11_readPerson 75 = .ok (.iaload, 1) := by decide +kernel
theorem dX11_readPerson_76 : decode cX11_readPerson 76 = .ok (.iadd, 1) := by decide +kernel
theorem dX11_readPerson_77 : decode cX11_readPerson 77 = .ok (.iload_n 1, 1) := by decide +kernel
theorem dX11_readPerson_78 : decode cX11_readPerson 78 = .ok (.iload_n 2, 1) := by decide +kernel
theorem dX11_readPerson_79 : decode cX11_readPerson 79 = .ok (.aload_n 0, 1) := by decide +kernel
theorem dX11_readPerson_80 : decode cX11_readPerson 80 = .ok (.getfield 168, 3) := by decide +kernel
theorem dX11_readPerson_83 : decode cX11_readPerson 83 = .ok (.l2i, 1) := by decide +kernel
theorem dX11_readPerson_84 : decode cX11_readPerson 84 = .ok (.invokestatic 99, 3) := by decide +kernel
theorem dX11_readPerson_87 : decode cX11_readPerson 87 = .ok (.iastore, 1) := by decide +kernel
theorem dX11_readPerson_88 : decode cX11_readPerson 88 = .ok (.aload_n 0, 1) := by decide +kernel
theorem dX11_readPerson_89 : decode cX11_readPerson 89 = .ok (.getfield 35, 3) := by decide +kernel
theorem dX11_readPerson_92 : decode cX11_readPerson 92 = .ok (.bipush 13, 2) := by decide +kernel
theorem dX11_readPerson_94 : decode cX11_readPerson 94 = .ok (.aload_n 0, 1) := by decide +kernel
theorem dX11_readPerson_95 : decode cX11_readPerson 95 = .ok (.getfield 35, 3) := by decide +kernel
theorem dX11_readPerson_98 : decode cX11_readPerson 98 = .ok (.iconst 0, 1) := by decide +kernel
theorem dX11_readPerson_99 : decode cX11_readPerson 99 = .ok (.iaload, 1) := by decide +kernel
theorem dX11_readPerson_100 : decode cX11_readPerson 100 = .ok (.iadd, 1) := by decide +kernel
theorem dX11_readPerson_101 : decode cX11_readPerson 101 = .ok (.iconst 0, 1) := by decide +kernel
theorem dX11_readPerson_102 : decode cX11_readPerson 102 = .ok (.iastore, 1) := by decide +kernel
theorem dX11_readPerson_103 : decode cX11_readPerson 103 = .ok (.aload_n 0, 1) := by decide +kernel
theorem dX11_readPerson_104 : decode cX11_readPerson 104 = .ok (.getfield 35, 3) := by decide +kernel
theorem dX11_readPerson_107 : decode cX11_readPerson 107 = .ok (.bipush 21, 2) := by decide +kernel
theorem dX11_readPerson_109 : decode cX11_readPerson 109 = .ok (.aload_n 0, 1) := by decide +kernel
theorem dX11_readPerson_110 : decode cX11_readPerson 110 = .ok (.getfield 35, 3) := by decide +kernel
theorem dX11_readPerson_113 : decode cX11_readPerson 113 = .ok (.iconst 0, 1) := by decide +kernel
theorem dX11_readPerson_114 : decode cX11_readPerson 114 = .ok (.iaload, 1) := by decide +kernel
theorem dX11_readPerson_115 : decode cX11_readPerson 115 = .ok (.iadd, 1) := by decide +kernel
theorem dX11_readPerson_116 : decode cX11_readPerson 116 = .ok (.iconst 0, 1) := by decide +kernel
theorem dX11_readPerson_117 : decode cX11_readPerson 117 = .ok (.iastore, 1) := by decide +kernel
theorem dX11_readPerson_118 : decode cX11_readPerson 118 = .ok (.aload_n 0, 1) := by decide +kernel
theorem dX11_readPerson_119 : decode cX11_readPerson 119 = .ok (.getfield 35, 3) := by decide +kernel
theorem dX11_readPerson_122 : decode cX11_readPerson 122 = .ok (.iconst 0, 1) := by decide +kernel
theorem dX11_readPerson_123 : decode cX11_readPerson 123 = .ok (.dup2, 1) := by decide +kernel
theorem dX11_readPerson_124 : decode cX11_readPerson 124 = .ok (.iaload, 1) := by decide +kernel
theorem dX11_readPerson_125 : decode cX11_readPerson 125 = .ok (.iconst 1, 1) := by decide +kernel
theorem dX11_readPerson_126 : decode cX11_readPerson 126 = .ok (.iadd, 1) := by decide +kernel
theorem dX11_readPerson_127 : decode cX11_readPerson 127 = .ok (.iastore, 1) := by decide +kernel
theorem dX11_readPerson_128 : decode cX11_readPerson 128 = .ok (.iconst 1, 1) := by decide +kernel
theorem dX11_readPerson_129 : decode cX11_readPerson 129 = .ok (.ireturn, 1) := by decide +kernel
theorem dX11_readGate_0 : decode cX11_readGate 0 = .ok (.aload_n 0, 1) := by decide +kernel
theorem dX11_readGate_1 : decode cX11_readGate 1 = .ok (.getfield 35, 3) := by decide +kernel
theorem dX11_readGate_4 : decode cX11_readGate 4 = .ok (.iconst 1, 1) := by decide +kernel
theorem dX11_readGate_5 : decode cX11_readGate 5 = .ok (.iaload, 1) := by decide +kernel
theorem dX11_readGate_6 : decode cX11_readGate 6 = .ok (.iconst 4, 1) := by decide +kernel
theorem dX11_readGate_7 : decode cX11_readGate 7 = .ok (.if_icmp .eq 12, 3) := by decide +kernel
theorem dX11_readGate_10 : decode cX11_readGate 10 = .ok (.aload_n 0, 1) := by decide +kernel
theorem dX11_readGate_11 : decode cX11_readGate 11 = .ok (.iconst 0, 1) := by decide +kernel
theorem dX11_readGate_12 : decode cX11_readGate 12 = .ok (.iconst 4, 1) := by decide +kernel
theorem dX11_readGate_13 : decode cX11_readGate 13 = .ok (.invokevirtual 193, 3) := by decide +kernel
theorem dX11_readGate_16 : decode cX11_readGate 16 = .ok (.ifCond .ne 5, 3) := by decide +kernel
theorem dX11_readGate_19 : decode cX11_readGate 19 = .ok (.iconst 0, 1) := by decide +kernel
theorem dX11_readGate_20 : decode cX11_readGate 20 = .ok (.ireturn, 1) := by decide +kernel
theorem dX11_readGate_21 : decode cX11_readGate 21 = .ok (.aload_n 0, 1) := by decide +kernel
theorem dX11_readGate_22 : decode cX11_readGate 22 = .ok (.getfield 35, 3) := by decide +kernel
theorem dX11_readGate_25 : decode cX11_readGate 25 = .ok (.bipush 29, 2) := by decide +kernel
theorem dX11_readGate_27 : decode cX11_readGate 27 = .ok (.aload_n 0, 1) := by decide +kernel
theorem dX11_readGate_28 : decode cX11_readGate 28 = .ok (.getfield 35, 3) := by decide +kernel
theorem dX11_readGate_31 : decode cX11_readGate 31 = .ok (.iconst 1, 1) := by decide +kernel
theorem dX11_readGate_32 : decode cX11_readGate 32 = .ok (.iaload, 1) := by decide +kernel
theorem dX11_readGate_33 : decode cX11_readGate 33 = .ok (.iadd, 1) := by decide +kernel
theorem dX11_readGate_34 : decode cX11_readGate 34 = .ok (.aload_n 0, 1) := by decide +kernel
theorem dX11_readGate_35 : decode cX11_readGate 35 = .ok (.getfield 168, 3) := by decide +kernel
theorem dX11_readGate_38 : decode cX11_readGate 38 = .ok (.l2i, 1) := by decide +kernel
theorem dX11_readGate_39 : decode cX11_readGate 39 = .ok (.iastore, 1) := by decide +kernel
theorem dX11_readGate_40 : decode cX11_readGate 40 = .ok (.aload_n 0, 1) := by decide +kernel
theorem dX11_readGate_41 : decode cX11_readGate 41 = .ok (.iconst 1, 1) := by decide +kernel
theorem dX11_readGate_42 : decode cX11_readGate 42 = .ok (.bipush 8, 2) := by decide +kernel
theorem dX11_readGate_44 : decode cX11_readGate 44 = .ok (.invokevirtual 193, 3) := by decide +kernel
theorem dX11_readGate_47 : decode cX11_readGate 47 = .ok (.ifCond .ne 5, 3) := by decide +kernel
theorem dX11_readGate_50 : decode cX11_readGate 50 = .ok (.iconst 0, 1) := by decide +kernel
theorem dX11_readGate_51 : decode cX11_readGate 51 = .ok (.ireturn, 1) := by decide +kernel
theorem dX11_readGate_52 : decode cX11_readGate 52 = .ok (.aload_n 0, 1) := by decide +kernel
theorem dX11_readGate_53 : decode cX11_readGate 53 = .ok (.getfield 35, 3) := by decide +kernel
theorem dX11_readGate_56 : decode cX11_readGate 56 = .ok (.bipush 33, 2) := by decide +kernel
theorem dX11_readGate_58 : decode cX11_readGate 58 = .ok (.aload_n 0, 1) := by decide +kernel
theorem dX11_readGate_59 : decode cX11_readGate 59 = .ok (.getfield 35, 3) := by decide +kernel
theorem dX11_readGate_62 : decode cX11_readGate 62 = .ok (.iconst 1, 1) := by decide +kernel
theorem dX11_readGate_63 : decode cX11_readGate 63 = .ok (.iaload, 1) := by decide +kernel
theorem dX11_readGate_64 : decode cX11_readGate 64 = .ok (.iadd, 1) := by decide +kernel
theorem dX11_readGate_65 : decode cX11_readGate 65 = .ok (.aload_n 0, 1) := by decide +kernel
theorem dX11_readGate_66 : decode cX11_readGate 66 = .ok (.getfield 168, 3) := by decide +kernel
theorem dX11_readGate_69 : decode cX11_readGate 69 = .ok (.l2i, 1) := by decide +kernel
theorem dX11_readGate_70 : decode cX11_readGate 70 = .ok (.iastore, 1) := by decide +kernel
theorem dX11_readGate_71 : decode cX11_readGate 71 = .ok (.aload_n 0, 1) := by decide +kernel
theorem dX11_readGate_72 : decode cX11_readGate 72 = .ok (.getfield 35, 3) := by decide +kernel
theorem dX11_readGate_75 : decode cX11_readGate 75 = .ok (.iconst 1, 1) := by decide +kernel
theorem dX11_readGate_76 : decode cX11_readGate 76 = .ok (.dup2, 1) := by decide +kernel
theorem dX11_readGate_77 : decode cX11_readGate 77 = .ok (.iaload, 1) := by decide +kernel
theorem dX11_readGate_78 : decode cX11_readGate 78 = .ok (.iconst 1, 1) := by decide +kernel
theorem dX11_readGate_79 : decode cX11_readGate 79 = .ok (.iadd, 1) := by decide +kernel
theorem dX11_readGate_80 : decode cX11_readGate 80 = .ok (.iastore, 1) := by decide +kernel
theorem dX11_readGate_81 : decode cX11_readGate 81 = .ok (.iconst 1, 1) := by decide +kernel
theorem dX11_readGate_82 : decode cX11_readGate 82 = .ok (.ireturn, 1) := by decide +kernel
theorem dX11_readPair_0 : decode cX11_readPair 0 = .ok (.aload_n 0, 1) := by decide +kernel
theorem dX11_readPair_1 : decode cX11_readPair 1 = .ok (.iconst 0, 1) := by decide +kernel
theorem dX11_readPair_2 : decode cX11_readPair 2 = .ok (.aload_n 0, 1) := by decide +kernel
theorem dX11_readPair_3 : decode cX11_readPair 3 = .ok (.getfield 35, 3) := by decide +kernel
theorem dX11_readPair_6 : decode cX11_readPair 6 = .ok (.iconst 0, 1) := by decide +kernel
theorem dX11_readPair_7 : decode cX11_readPair 7 = .ok (.iaload, 1) := by decide +kernel
theorem dX11_readPair_8 : decode cX11_readPair 8 = .ok (.iconst 1, 1) := by decide +kernel
theorem dX11_readPair_9 : decode cX11_readPair 9 = .ok (.isub, 1) := by decide +kernel
theorem dX11_readPair_10 : decode cX11_readPair 10 = .ok (.invokevirtual 193, 3) := by decide +kernel
theorem dX11_readPair_13 : decode cX11_readPair 13 = .ok (.ifCond .ne 5, 3) := by decide +kernel
theorem dX11_readPair_16 : decode cX11_readPair 16 = .ok (.iconst 0, 1) := by decide +kernel
theorem dX11_readPair_17 : decode cX11_readPair 17 = .ok (.ireturn, 1) := by decide +kernel
theorem dX11_readPair_18 : decode cX11_readPair 18 = .ok (.aload_n 0, 1) := by decide +kernel
theorem dX11_readPair_19 : decode cX11_readPair 19 = .ok (.getfield 168, 3) := by decide +kernel
theorem dX11_readPair_22 : decode cX11_readPair 22 = .ok (.l2i, 1) := by decide +kernel
theorem dX11_readPair_23 : decode cX11_readPair 23 = .ok (.istore_n 2, 1) := by decide +kernel
theorem dX11_readPair_24 : decode cX11_readPair 24 = .ok (.aload_n 0, 1) := by decide +kernel
theorem dX11_readPair_25 : decode cX11_readPair 25 = .ok (.iconst 0, 1) := by decide +kernel
theorem dX11_readPair_26 : decode cX11_readPair 26 = .ok (.aload_n 0, 1) := by decide +kernel
theorem dX11_readPair_27 : decode cX11_readPair 27 = .ok (.getfield 35, 3) := by decide +kernel
theorem dX11_readPair_30 : decode cX11_readPair 30 = .ok (.iconst 0, 1) := by decide +kernel
theorem dX11_readPair_31 : decode cX11_readPair 31 = .ok (.iaload, 1) := by decide +kernel
theorem dX11_readPair_32 : decode cX11_readPair 32 = .ok (.iconst 1, 1) := by decide +kernel
theorem dX11_readPair_33 : decode cX11_readPair 33 = .ok (.isub, 1) := by decide +kernel
theorem dX11_readPair_34 : decode cX11_readPair 34 = .ok (.invokevirtual 193, 3) := by decide +kernel
theorem dX11_readPair_37 : decode cX11_readPair 37 = .ok (.ifCond .eq 13, 3) := by decide +kernel
theorem dX11_readPair_40 : decode cX11_readPair 40 = .ok (.aload_n 0, 1) := by decide +kernel
theorem dX11_readPair_41 : decode cX11_readPair 41 = .ok (.getfield 168, 3) := by decide +kernel
theorem dX11_readPair_44 : decode cX11_readPair 44 = .ok (.iload_n 2, 1) := by decide +kernel
theorem dX11_readPair_45 : decode cX11_readPair 45 = .ok (.i2l, 1) := by decide +kernel
theorem dX11_readPair_46 : decode cX11_readPair 46 = .ok (.lcmp, 1) := by decide +kernel
theorem dX11_readPair_47 : decode cX11_readPair 47 = .ok (.ifCond .ne 5, 3) := by decide +kernel
theorem dX11_readPair_50 : decode cX11_readPair 50 = .ok (.iconst 0, 1) := by decide +kernel
theorem dX11_readPair_51 : decode cX11_readPair 51 = .ok (.ireturn, 1) := by decide +kernel
theorem dX11_readPair_52 : decode cX11_readPair 52 = .ok (.aload_n 0, 1) := by decide +kernel
theorem dX11_readPair_53 : decode cX11_readPair 53 = .ok (.getfield 35, 3) := by decide +kernel
theorem dX11_readPair_56 : decode cX11_readPair 56 = .ok (.iload_n 1, 1) := by decide +kernel
theorem dX11_readPair_57 : decode cX11_readPair 57 = .ok (.iload_n 2, 1) := by decide +kernel
theorem dX11_readPair_58 : decode cX11_readPair 58 = .ok (.iadd, 1) := by decide +kernel
theorem dX11_readPair_59 : decode cX11_readPair 59 = .ok (.dup2, 1) := by decide +kernel
theorem dX11_readPair_60 : decode cX11_readPair 60 = .ok (.iaload, 1) := by decide +kernel
theorem dX11_readPair_61 : decode cX11_readPair 61 = .ok (.iconst 1, 1) := by decide +kernel
theorem dX11_readPair_62 : decode cX11_readPair 62 = .ok (.aload_n 0, 1) := by decide +kernel
theorem dX11_readPair_63 : decode cX11_readPair 63 = .ok (.getfield 168, 3) := by decide +kernel
theorem dX11_readPair_66 : decode cX11_readPair 66 = .ok (.l2i, 1) := by decide +kernel
theorem dX11_readPair_67 : decode cX11_readPair 67 = .ok (.ishl, 1) := by decide +kernel
theorem dX11_readPair_68 : decode cX11_readPair 68 = .ok (.ior, 1) := by decide +kernel
theorem dX11_readPair_69 : decode cX11_readPair 69 = .ok (.iastore, 1) := by decide +kernel
theorem dX11_readPair_70 : decode cX11_readPair 70 = .ok (.aload_n 0, 1) := by decide +kernel
theorem dX11_readPair_71 : decode cX11_readPair 71 = .ok (.getfield 35, 3) := by decide +kernel
theorem dX11_readPair_74 : decode cX11_readPair 74 = .ok (.iload_n 1, 1) := by decide +kernel
theorem dX11_readPair_75 : decode cX11_readPair 75 = .ok (.aload_n 0, 1) := by decide +kernel
theorem dX11_readPair_76 : decode cX11_readPair 76 = .ok (.getfield 168, 3) := by decide +kernel
theorem dX11_readPair_79 : decode cX11_readPair 79 = .ok (.l2i, 1) := by decide +kernel
theorem dX11_readPair_80 : decode cX11_readPair 80 = .ok (.iadd, 1) := by decide +kernel
theorem dX11_readPair_81 : decode cX11_readPair 81 = .ok (.dup2, 1) := by decide +kernel
theorem dX11_readPair_82 : decode cX11_readPair 82 = .ok (.iaload, 1) := by decide +kernel
theorem dX11_readPair_83 : decode cX11_readPair 83 = .ok (.iconst 1, 1) := by decide +kernel
theorem dX11_readPair_84 : decode cX11_readPair 84 = .ok (.iload_n 2, 1) := by decide +kernel
theorem dX11_readPair_85 : decode cX11_readPair 85 = .ok (.ishl, 1) := by decide +kernel
theorem dX11_readPair_86 : decode cX11_readPair 86 = .ok (.ior, 1) := by decide +kernel
theorem dX11_readPair_87 : decode cX11_readPair 87 = .ok (.iastore, 1) := by decide +kernel
theorem dX11_readPair_88 : decode cX11_readPair 88 = .ok (.iconst 1, 1) := by decide +kernel
theorem dX11_readPair_89 : decode cX11_readPair 89 = .ok (.ireturn, 1) := by decide +kernel
theorem dX11_readItem_0 : decode cX11_readItem 0 = .ok (.aload_n 0, 1) := by decide +kernel
theorem dX11_readItem_1 : decode cX11_readItem 1 = .ok (.getfield 168, 3) := by decide +kernel
theorem dX11_readItem_4 : decode cX11_readItem 4 = .ok (.ldc2_w 196, 3) := by decide +kernel
theorem dX11_readItem_7 : decode cX11_readItem 7 = .ok (.lcmp, 1) := by decide +kernel
theorem dX11_readItem_8 : decode cX11_readItem 8 = .ok (.ifCond .ne 10, 3) := by decide +kernel
theorem dX11_readItem_11 : decode cX11_readItem 11 = .ok (.aload_n 0, 1) := by decide +kernel
theorem dX11_readItem_12 : decode cX11_readItem 12 = .ok (.invokevirtual 198, 3) := by decide +kernel
theorem dX11_readItem_15 : decode cX11_readItem 15 = .ok (.goto 66, 3) := by decide +kernel
theorem dX11_readItem_18 : decode cX11_readItem 18 = .ok (.aload_n 0, 1) := by decide +kernel
theorem dX11_readItem_19 : decode cX11_readItem 19 = .ok (.getfield 168, 3) := by decide +kernel
theorem dX11_readItem_22 : decode cX11_readItem 22 = .ok (.ldc2_w 202, 3) := by decide +kernel
theorem dX11_readItem_25 : decode cX11_readItem 25 = .ok (.lcmp, 1) := by decide +kernel
theorem dX11_readItem_26 : decode cX11_readItem 26 = .ok (.ifCond .ne 10, 3) := by decide +kernel
theorem dX11_readItem_29 : decode cX11_readItem 29 = .ok (.aload_n 0, 1) := by decide +kernel
theorem dX11_readItem_30 : decode cX11_readItem 30 = .ok (.invokevirtual 204, 3) := by decide +kernel
theorem dX11_readItem_33 : decode cX11_readItem 33 = .ok (.goto 48, 3) := by decide +kernel
theorem dX11_readItem_36 : decode cX11_readItem 36 = .ok (.aload_n 0, 1) := by decide +kernel
theorem dX11_readItem_37 : decode cX11_readItem 37 = .ok (.getfield 168, 3) := by decide +kernel
theorem dX11_readItem_40 : decode cX11_readItem 40 = .ok (.ldc2_w 207, 3) := by decide +kernel
theorem dX11_readItem_43 : decode cX11_readItem 43 = .ok (.lcmp, 1) := by decide +kernel
theorem dX11_readItem_44 : decode cX11_readItem 44 = .ok (.ifCond .ne 12, 3) := by decide +kernel
theorem dX11_readItem_47 : decode cX11_readItem 47 = .ok (.aload_n 0, 1) := by decide +kernel
theorem dX11_readItem_48 : decode cX11_readItem 48 = .ok (.bipush 13, 2) := by decide +kernel
theorem dX11_readItem_50 : decode cX11_readItem 50 = .ok (.invokevirtual 209, 3) := by decide +kernel
theorem dX11_readItem_53 : decode cX11_readItem 53 = .ok (.goto 28, 3) := by decide +kernel
theorem dX11_readItem_56 : decode cX11_readItem 56 = .ok (.aload_n 0, 1) := by decide +kernel
theorem dX11_readItem_57 : decode cX11_readItem 57 = .ok (.getfield 168, 3) := by decide +kernel
theorem dX11_readItem_60 : decode cX11_readItem 60 = .ok (.ldc2_w 212, 3) := by decide +kernel
theorem dX11_readItem_63 : decode cX11_readItem 63 = .ok (.lcmp, 1) := by decide +kernel
theorem dX11_readItem_64 : decode cX11_readItem 64 = .ok (.ifCond .ne 16, 3) := by decide +kernel
theorem dX11_readItem_67 : decode cX11_readItem 67 = .ok (.aload_n 0, 1) := by decide +kernel
theorem dX11_readItem_68 : decode cX11_readItem 68 = .ok (.bipush 21, 2) := by decide +kernel
theorem dX11_readItem_70 : decode cX11_readItem 70 = .ok (.invokevirtual 209, 3) := by decide +kernel
theorem dX11_readItem_73 : decode cX11_readItem 73 = .ok (.ifCond .eq 7, 3) := by decide +kernel
theorem dX11_readItem_76 : decode cX11_readItem 76 = .ok (.iconst 1, 1) := by decide +kernel
theorem dX11_readItem_77 : decode cX11_readItem 77 = .ok (.goto 4, 3) := by decide +kernel
theorem dX11_readItem_80 : decode cX11_readItem 80 = .ok (.iconst 0, 1) := by decide +kernel
theorem dX11_readItem_81 : decode cX11_readItem 81 = .ok (.istore_n 1, 1) := by decide +kernel
theorem dX11_readItem_82 : decode cX11_readItem 82 = .ok (.iload_n 1, 1) := by decide +kernel
theorem dX11_readItem_83 : decode cX11_readItem 83 = .ok (.ifCond .eq 7, 3) := by decide +kernel
theorem dX11_readItem_86 : decode cX11_readItem 86 = .ok (.aload_n 0, 1) := by decide +kernel
theorem dX11_readItem_87 : decode cX11_readItem 87 = .ok (.invokevirtual 190, 3) := by decide +kernel
theorem dX11_readItem_90 : decode cX11_readItem 90 = .ok (.iload_n 1, 1) := by decide +kernel
theorem dX11_readItem_91 : decode cX11_readItem 91 = .ok (.ifCond .eq 15, 3) := by decide +kernel
theorem dX11_readItem_94 : decode cX11_readItem 94 = .ok (.aload_n 0, 1) := by decide +kernel
theorem dX11_readItem_95 : decode cX11_readItem 95 = .ok (.getfield 171, 3) := by decide +kernel
theorem dX11_readItem_98 : decode cX11_readItem 98 = .ok (.iconst 3, 1) := by decide +kernel
theorem dX11_readItem_99 : decode cX11_readItem 99 = .ok (.if_icmp .ne 7, 3) := by decide +kernel
theorem dX11_readItem_102 : decode cX11_readItem 102 = .ok (.iconst 1, 1) := by decide +kernel
theorem dX11_readItem_103 : decode cX11_readItem 103 = .ok (.goto 4, 3) := by decide +kernel
theorem dX11_readItem_106 : decode cX11_readItem 106 = .ok (.iconst 0, 1) := by decide +kernel
theorem dX11_readItem_107 : decode cX11_readItem 107 = .ok (.ireturn, 1) := by decide +kernel
theorem dX11_read_0 : decode cX11_read 0 = .ok (.iconst 0, 1) := by decide +kernel
theorem dX11_read_1 : decode cX11_read 1 = .ok (.istore_n 1, 1) := by decide +kernel
theorem dX11_read_2 : decode cX11_read 2 = .ok (.iload_n 1, 1) := by decide +kernel
theorem dX11_read_3 : decode cX11_read 3 = .ok (.bipush 37, 2) := by decide +kernel
end
section
theorem dX11_read_5 : decode cX11_read 5 = .ok (.if_icmp .ge 16, 3) := by decide +kernel
theorem dX11_read_8 : decode cX11_read 8 = .ok (.aload_n 0, 1) := by decide +kernel
theorem dX11_read_9 : decode cX11_read 9 = .ok (.getfield 35, 3) := by decide +kernel
theorem dX11_read_12 : decode cX11_read 12 = .ok (.iload_n 1, 1) := by decide +kernel
theorem dX11_read_13 : decode cX11_read 13 = .ok (.iconst 0, 1) := by decide +kernel
theorem dX11_read_14 : decode cX11_read 14 = .ok (.iastore, 1) := by decide +kernel
theorem dX11_read_15 : decode cX11_read 15 = .ok (.iinc 1 1, 3) := by decide +kernel
theorem dX11_read_18 : decode cX11_read 18 = .ok (.goto (-16), 3) := by decide +kernel
theorem dX11_read_21 : decode cX11_read 21 = .ok (.aload_n 0, 1) := by decide +kernel
theorem dX11_read_22 : decode cX11_read 22 = .ok (.iconst 0, 1) := by decide +kernel
theorem dX11_read_23 : decode cX11_read 23 = .ok (.putfield 159, 3) := by decide +kernel
theorem dX11_read_26 : decode cX11_read 26 = .ok (.iconst 0, 1) := by decide +kernel
theorem dX11_read_27 : decode cX11_read 27 = .ok (.istore_n 1, 1) := by decide +kernel
theorem dX11_read_28 : decode cX11_read 28 = .ok (.aload_n 0, 1) := by decide +kernel
theorem dX11_read_29 : decode cX11_read 29 = .ok (.invokevirtual 190, 3) := by decide +kernel
theorem dX11_read_32 : decode cX11_read 32 = .ok (.aload_n 0, 1) := by decide +kernel
theorem dX11_read_33 : decode cX11_read 33 = .ok (.getfield 171, 3) := by decide +kernel
theorem dX11_read_36 : decode cX11_read 36 = .ok (.ifCond .eq 36, 3) := by decide +kernel
theorem dX11_read_39 : decode cX11_read 39 = .ok (.aload_n 0, 1) := by decide +kernel
theorem dX11_read_40 : decode cX11_read 40 = .ok (.getfield 171, 3) := by decide +kernel
theorem dX11_read_43 : decode cX11_read 43 = .ok (.iconst 1, 1) := by decide +kernel
theorem dX11_read_44 : decode cX11_read 44 = .ok (.if_icmp .ne 10, 3) := by decide +kernel
theorem dX11_read_47 : decode cX11_read 47 = .ok (.aload_n 0, 1) := by decide +kernel
theorem dX11_read_48 : decode cX11_read 48 = .ok (.invokevirtual 214, 3) := by decide +kernel
theorem dX11_read_51 : decode cX11_read 51 = .ok (.ifCond .ne 11, 3) := by decide +kernel
theorem dX11_read_54 : decode cX11_read 54 = .ok (.bipush (-10), 2) := by decide +kernel
theorem dX11_read_56 : decode cX11_read 56 = .ok (.aload_n 0, 1) := by decide +kernel
theorem dX11_read_57 : decode cX11_read 57 = .ok (.getfield 162, 3) := by decide +kernel
theorem dX11_read_60 : decode cX11_read 60 = .ok (.isub, 1) := by decide +kernel
theorem dX11_read_61 : decode cX11_read 61 = .ok (.ireturn, 1) := by decide +kernel
theorem dX11_read_62 : decode cX11_read 62 = .ok (.iinc 1 1, 3) := by decide +kernel
theorem dX11_read_65 : decode cX11_read 65 = .ok (.aload_n 0, 1) := by decide +kernel
theorem dX11_read_66 : decode cX11_read 66 = .ok (.invokevirtual 190, 3) := by decide +kernel
theorem dX11_read_69 : decode cX11_read 69 = .ok (.goto (-37), 3) := by decide +kernel
theorem dX11_read_72 : decode cX11_read 72 = .ok (.aload_n 0, 1) := by decide +kernel
theorem dX11_read_73 : decode cX11_read 73 = .ok (.getfield 7, 3) := by decide +kernel
theorem dX11_read_76 : decode cX11_read 76 = .ok (.iconst 0, 1) := by decide +kernel
theorem dX11_read_77 : decode cX11_read 77 = .ok (.aload_n 0, 1) := by decide +kernel
theorem dX11_read_78 : decode cX11_read 78 = .ok (.getfield 35, 3) := by decide +kernel
theorem dX11_read_81 : decode cX11_read 81 = .ok (.iconst 0, 1) := by decide +kernel
theorem dX11_read_82 : decode cX11_read 82 = .ok (.iaload, 1) := by decide +kernel
theorem dX11_read_83 : decode cX11_read 83 = .ok (.iastore, 1) := by decide +kernel
theorem dX11_read_84 : decode cX11_read 84 = .ok (.aload_n 0, 1) := by decide +kernel
theorem dX11_read_85 : decode cX11_read 85 = .ok (.getfield 7, 3) := by decide +kernel
theorem dX11_read_88 : decode cX11_read 88 = .ok (.iconst 1, 1) := by decide +kernel
theorem dX11_read_89 : decode cX11_read 89 = .ok (.aload_n 0, 1) := by decide +kernel
theorem dX11_read_90 : decode cX11_read 90 = .ok (.getfield 35, 3) := by decide +kernel
theorem dX11_read_93 : decode cX11_read 93 = .ok (.iconst 1, 1) := by decide +kernel
theorem dX11_read_94 : decode cX11_read 94 = .ok (.iaload, 1) := by decide +kernel
theorem dX11_read_95 : decode cX11_read 95 = .ok (.iastore, 1) := by decide +kernel
theorem dX11_read_96 : decode cX11_read 96 = .ok (.iconst 5, 1) := by decide +kernel
theorem dX11_read_97 : decode cX11_read 97 = .ok (.istore_n 2, 1) := by decide +kernel
theorem dX11_read_98 : decode cX11_read 98 = .ok (.iload_n 2, 1) := by decide +kernel
theorem dX11_read_99 : decode cX11_read 99 = .ok (.bipush 37, 2) := by decide +kernel
theorem dX11_read_101 : decode cX11_read 101 = .ok (.if_icmp .ge 21, 3) := by decide +kernel
theorem dX11_read_104 : decode cX11_read 104 = .ok (.aload_n 0, 1) := by decide +kernel
theorem dX11_read_105 : decode cX11_read 105 = .ok (.getfield 7, 3) := by decide +kernel
theorem dX11_read_108 : decode cX11_read 108 = .ok (.iload_n 2, 1) := by decide +kernel
theorem dX11_read_109 : decode cX11_read 109 = .ok (.aload_n 0, 1) := by decide +kernel
theorem dX11_read_110 : decode cX11_read 110 = .ok (.getfield 35, 3) := by decide +kernel
theorem dX11_read_113 : decode cX11_read 113 = .ok (.iload_n 2, 1) := by decide +kernel
theorem dX11_read_114 : decode cX11_read 114 = .ok (.iaload, 1) := by decide +kernel
theorem dX11_read_115 : decode cX11_read 115 = .ok (.iastore, 1) := by decide +kernel
theorem dX11_read_116 : decode cX11_read 116 = .ok (.iinc 2 1, 3) := by decide +kernel
theorem dX11_read_119 : decode cX11_read 119 = .ok (.goto (-21), 3) := by decide +kernel
theorem dX11_read_122 : decode cX11_read 122 = .ok (.iload_n 1, 1) := by decide +kernel
theorem dX11_read_123 : decode cX11_read 123 = .ok (.ireturn, 1) := by decide +kernel
theorem dX11_can_0 : decode cX11_can 0 = .ok (.aload_n 0, 1) := by decide +kernel
theorem dX11_can_1 : decode cX11_can 1 = .ok (.iload_n 1, 1) := by decide +kernel
theorem dX11_can_2 : decode cX11_can 2 = .ok (.invokevirtual 151, 3) := by decide +kernel
theorem dX11_can_5 : decode cX11_can 5 = .ok (.ifCond .eq 28, 3) := by decide +kernel
theorem dX11_can_8 : decode cX11_can 8 = .ok (.iload_n 2, 1) := by decide +kernel
theorem dX11_can_9 : decode cX11_can 9 = .ok (.invokestatic 106, 3) := by decide +kernel
theorem dX11_can_12 : decode cX11_can 12 = .ok (.ifCond .eq 21, 3) := by decide +kernel
theorem dX11_can_15 : decode cX11_can 15 = .ok (.iload_n 3, 1) := by decide +kernel
theorem dX11_can_16 : decode cX11_can 16 = .ok (.i2l, 1) := by decide +kernel
theorem dX11_can_17 : decode cX11_can 17 = .ok (.lconst 0, 1) := by decide +kernel
theorem dX11_can_18 : decode cX11_can 18 = .ok (.ldc2_w 121, 3) := by decide +kernel
theorem dX11_can_21 : decode cX11_can 21 = .ok (.invokestatic 66, 3) := by decide +kernel
theorem dX11_can_24 : decode cX11_can 24 = .ok (.ifCond .eq 9, 3) := by decide +kernel
theorem dX11_can_27 : decode cX11_can 27 = .ok (.iload 4, 2) := by decide +kernel
theorem dX11_can_29 : decode cX11_can 29 = .ok (.iconst (-1), 1) := by decide +kernel
theorem dX11_can_30 : decode cX11_can 30 = .ok (.if_icmp .ge 10, 3) := by decide +kernel
theorem dX11_can_33 : decode cX11_can 33 = .ok (.aload_n 0, 1) := by decide +kernel
theorem dX11_can_34 : decode cX11_can 34 = .ok (.bipush (-10), 2) := by decide +kernel
theorem dX11_can_36 : decode cX11_can 36 = .ok (.invokevirtual 103, 3) := by decide +kernel
theorem dX11_can_39 : decode cX11_can 39 = .ok (.ireturn, 1) := by decide +kernel
theorem dX11_can_40 : decode cX11_can 40 = .ok (.aload_n 0, 1) := by decide +kernel
theorem dX11_can_41 : decode cX11_can 41 = .ok (.iload_n 2, 1) := by decide +kernel
theorem dX11_can_42 : decode cX11_can 42 = .ok (.invokevirtual 139, 3) := by decide +kernel
theorem dX11_can_45 : decode cX11_can 45 = .ok (.iconst 0, 1) := by decide +kernel
theorem dX11_can_46 : decode cX11_can 46 = .ok (.istore 5, 2) := by decide +kernel
theorem dX11_can_48 : decode cX11_can 48 = .ok (.iconst 1, 1) := by decide +kernel
theorem dX11_can_49 : decode cX11_can 49 = .ok (.istore 6, 2) := by decide +kernel
theorem dX11_can_51 : decode cX11_can 51 = .ok (.iload 6, 2) := by decide +kernel
theorem dX11_can_53 : decode cX11_can 53 = .ok (.iconst 1, 1) := by decide +kernel
theorem dX11_can_54 : decode cX11_can 54 = .ok (.aload_n 0, 1) := by decide +kernel
theorem dX11_can_55 : decode cX11_can 55 = .ok (.getfield 7, 3) := by decide +kernel
theorem dX11_can_58 : decode cX11_can 58 = .ok (.iconst 0, 1) := by decide +kernel
theorem dX11_can_59 : decode cX11_can 59 = .ok (.iaload, 1) := by decide +kernel
theorem dX11_can_60 : decode cX11_can 60 = .ok (.ishl, 1) := by decide +kernel
theorem dX11_can_61 : decode cX11_can 61 = .ok (.if_icmp .ge 45, 3) := by decide +kernel
theorem dX11_can_64 : decode cX11_can 64 = .ok (.iload_n 3, 1) := by decide +kernel
theorem dX11_can_65 : decode cX11_can 65 = .ok (.ifCond .eq 12, 3) := by decide +kernel
theorem dX11_can_68 : decode cX11_can 68 = .ok (.iload 6, 2) := by decide +kernel
theorem dX11_can_70 : decode cX11_can 70 = .ok (.invokestatic 142, 3) := by decide +kernel
theorem dX11_can_73 : decode cX11_can 73 = .ok (.iload_n 3, 1) := by decide +kernel
theorem dX11_can_74 : decode cX11_can 74 = .ok (.if_icmp .ne 26, 3) := by decide +kernel
theorem dX11_can_77 : decode cX11_can 77 = .ok (.aload_n 0, 1) := by decide +kernel
theorem dX11_can_78 : decode cX11_can 78 = .ok (.iload 6, 2) := by decide +kernel
theorem dX11_can_80 : decode cX11_can 80 = .ok (.iload_n 1, 1) := by decide +kernel
theorem dX11_can_81 : decode cX11_can 81 = .ok (.invokevirtual 154, 3) := by decide +kernel
theorem dX11_can_84 : decode cX11_can 84 = .ok (.ifCond .ne 16, 3) := by decide +kernel
theorem dX11_can_87 : decode cX11_can 87 = .ok (.iload 5, 2) := by decide +kernel
theorem dX11_can_89 : decode cX11_can 89 = .ok (.iload 4, 2) := by decide +kernel
theorem dX11_can_91 : decode cX11_can 91 = .ok (.if_icmp .ne 6, 3) := by decide +kernel
theorem dX11_can_94 : decode cX11_can 94 = .ok (.iload 6, 2) := by decide +kernel
theorem dX11_can_96 : decode cX11_can 96 = .ok (.ireturn, 1) := by decide +kernel
theorem dX11_can_97 : decode cX11_can 97 = .ok (.iinc 5 1, 3) := by decide +kernel
theorem dX11_can_100 : decode cX11_can 100 = .ok (.iinc 6 1, 3) := by decide +kernel
theorem dX11_can_103 : decode cX11_can 103 = .ok (.goto (-52), 3) := by decide +kernel
theorem dX11_can_106 : decode cX11_can 106 = .ok (.iload 4, 2) := by decide +kernel
theorem dX11_can_108 : decode cX11_can 108 = .ok (.iconst (-1), 1) := by decide +kernel
theorem dX11_can_109 : decode cX11_can 109 = .ok (.if_icmp .ne 8, 3) := by decide +kernel
theorem dX11_can_112 : decode cX11_can 112 = .ok (.iload 5, 2) := by decide +kernel
theorem dX11_can_114 : decode cX11_can 114 = .ok (.goto 5, 3) := by decide +kernel
theorem dX11_can_117 : decode cX11_can 117 = .ok (.bipush (-5), 2) := by decide +kernel
theorem dX11_can_119 : decode cX11_can 119 = .ok (.ireturn, 1) := by decide +kernel
theorem dX11_least_0 : decode cX11_least 0 = .ok (.iconst 0, 1) := by decide +kernel
theorem dX11_least_1 : decode cX11_least 1 = .ok (.istore_n 1, 1) := by decide +kernel
theorem dX11_least_2 : decode cX11_least 2 = .ok (.iload_n 0, 1) := by decide +kernel
theorem dX11_least_3 : decode cX11_least 3 = .ok (.iload_n 1, 1) := by decide +kernel
theorem dX11_least_4 : decode cX11_least 4 = .ok (.invokestatic 126, 3) := by decide +kernel
theorem dX11_least_7 : decode cX11_least 7 = .ok (.ifCond .ne 9, 3) := by decide +kernel
theorem dX11_least_10 : decode cX11_least 10 = .ok (.iinc 1 1, 3) := by decide +kernel
theorem dX11_least_13 : decode cX11_least 13 = .ok (.goto (-11), 3) := by decide +kernel
theorem dX11_least_16 : decode cX11_least 16 = .ok (.iload_n 1, 1) := by decide +kernel
theorem dX11_least_17 : decode cX11_least 17 = .ok (.ireturn, 1) := by decide +kernel
theorem dX11_isPart_0 : decode cX11_isPart 0 = .ok (.iload_n 0, 1) := by decide +kernel
theorem dX11_isPart_1 : decode cX11_isPart 1 = .ok (.iload_n 1, 1) := by decide +kernel
theorem dX11_isPart_2 : decode cX11_isPart 2 = .ok (.iconst (-1), 1) := by decide +kernel
theorem dX11_isPart_3 : decode cX11_isPart 3 = .ok (.ixor, 1) := by decide +kernel
theorem dX11_isPart_4 : decode cX11_isPart 4 = .ok (.iand, 1) := by decide +kernel
theorem dX11_isPart_5 : decode cX11_isPart 5 = .ok (.ifCond .ne 7, 3) := by decide +kernel
theorem dX11_isPart_8 : decode cX11_isPart 8 = .ok (.iconst 1, 1) := by decide +kernel
theorem dX11_isPart_9 : decode cX11_isPart 9 = .ok (.goto 4, 3) := by decide +kernel
theorem dX11_isPart_12 : decode cX11_isPart 12 = .ok (.iconst 0, 1) := by decide +kernel
theorem dX11_isPart_13 : decode cX11_isPart 13 = .ok (.ireturn, 1) := by decide +kernel
theorem dX11_layParts_0 : decode cX11_layParts 0 = .ok (.iconst 1, 1) := by decide +kernel
theorem dX11_layParts_1 : decode cX11_layParts 1 = .ok (.istore_n 3, 1) := by decide +kernel
theorem dX11_layParts_2 : decode cX11_layParts 2 = .ok (.iload_n 3, 1) := by decide +kernel
theorem dX11_layParts_3 : decode cX11_layParts 3 = .ok (.iload_n 1, 1) := by decide +kernel
theorem dX11_layParts_4 : decode cX11_layParts 4 = .ok (.if_icmp .gt 37, 3) := by decide +kernel
theorem dX11_layParts_7 : decode cX11_layParts 7 = .ok (.aload_n 0, 1) := by decide +kernel
theorem dX11_layParts_8 : decode cX11_layParts 8 = .ok (.getfield 38, 3) := by decide +kernel
theorem dX11_layParts_11 : decode cX11_layParts 11 = .ok (.iload_n 3, 1) := by decide +kernel
theorem dX11_layParts_12 : decode cX11_layParts 12 = .ok (.iload_n 3, 1) := by decide +kernel
theorem dX11_layParts_13 : decode cX11_layParts 13 = .ok (.iload_n 1, 1) := by decide +kernel
theorem dX11_layParts_14 : decode cX11_layParts 14 = .ok (.invokestatic 217, 3) := by decide +kernel
theorem dX11_layParts_17 : decode cX11_layParts 17 = .ok (.ifCond .eq 16, 3) := by decide +kernel
theorem dX11_layParts_20 : decode cX11_layParts 20 = .ok (.aload_n 0, 1) := by decide +kernel
theorem dX11_layParts_21 : decode cX11_layParts 21 = .ok (.iload_n 3, 1) := by decide +kernel
theorem dX11_layParts_22 : decode cX11_layParts 22 = .ok (.iload_n 2, 1) := by decide +kernel
theorem dX11_layParts_23 : decode cX11_layParts 23 = .ok (.invokevirtual 154, 3) := by decide +kernel
theorem dX11_layParts_26 : decode cX11_layParts 26 = .ok (.ifCond .ne 7, 3) := by decide +kernel
theorem dX11_layParts_29 : decode cX11_layParts 29 = .ok (.iconst 1, 1) := by decide +kernel
theorem dX11_layParts_30 : decode cX11_layParts 30 = .ok (.goto 4, 3) := by decide +kernel
theorem dX11_layParts_33 : decode cX11_layParts 33 = .ok (.iconst 0, 1) := by decide +kernel
theorem dX11_layParts_34 : decode cX11_layParts 34 = .ok (.bastore, 1) := by decide +kernel
theorem dX11_layParts_35 : decode cX11_layParts 35 = .ok (.iinc 3 1, 3) := by decide +kernel
theorem dX11_layParts_38 : decode cX11_layParts 38 = .ok (.goto (-36), 3) := by decide +kernel
theorem dX11_layParts_41 : decode cX11_layParts 41 = .ok (.aload_n 0, 1) := by decide +kernel
theorem dX11_layParts_42 : decode cX11_layParts 42 = .ok (.getfield 42, 3) := by decide +kernel
theorem dX11_layParts_45 : decode cX11_layParts 45 = .ok (.iconst 0, 1) := by decide +kernel
theorem dX11_layParts_46 : decode cX11_layParts 46 = .ok (.iconst 0, 1) := by decide +kernel
theorem dX11_layParts_47 : decode cX11_layParts 47 = .ok (.iastore, 1) := by decide +kernel
theorem dX11_layParts_48 : decode cX11_layParts 48 = .ok (.iconst 1, 1) := by decide +kernel
theorem dX11_layParts_49 : decode cX11_layParts 49 = .ok (.istore_n 3, 1) := by decide +kernel
theorem dX11_layParts_50 : decode cX11_layParts 50 = .ok (.iload_n 3, 1) := by decide +kernel
theorem dX11_layParts_51 : decode cX11_layParts 51 = .ok (.iload_n 1, 1) := by decide +kernel
theorem dX11_layParts_52 : decode cX11_layParts 52 = .ok (.if_icmp .gt 130, 3) := by decide +kernel
theorem dX11_layParts_55 : decode cX11_layParts 55 = .ok (.iload_n 3, 1) := by decide +kernel
theorem dX11_layParts_56 : decode cX11_layParts 56 = .ok (.iload_n 1, 1) := by decide +kernel
theorem dX11_layParts_57 : decode cX11_layParts 57 = .ok (.invokestatic 217, 3) := by decide +kernel
theorem dX11_layParts_60 : decode cX11_layParts 60 = .ok (.ifCond .eq 116, 3) := by decide +kernel
theorem dX11_layParts_63 : decode cX11_layParts 63 = .ok (.iload_n 3, 1) := by decide +kernel
theorem dX11_layParts_64 : decode cX11_layParts 64 = .ok (.invokestatic 220, 3) := by decide +kernel
theorem dX11_layParts_67 : decode cX11_layParts 67 = .ok (.istore 4, 2) := by decide +kernel
theorem dX11_layParts_69 : decode cX11_layParts 69 = .ok (.aload_n 0, 1) := by decide +kernel
theorem dX11_layParts_70 : decode cX11_layParts 70 = .ok (.getfield 42, 3) := by decide +kernel
theorem dX11_layParts_73 : decode cX11_layParts 73 = .ok (.iload_n 3, 1) := by decide +kernel
theorem dX11_layParts_74 : decode cX11_layParts 74 = .ok (.aload_n 0, 1) := by decide +kernel
theorem dX11_layParts_75 : decode cX11_layParts 75 = .ok (.getfield 42, 3) := by decide +kernel
theorem dX11_layParts_78 : decode cX11_layParts 78 = .ok (.iload_n 3, 1) := by decide +kernel
theorem dX11_layParts_79 : decode cX11_layParts 79 = .ok (.iconst 1, 1) := by decide +kernel
theorem dX11_layParts_80 : decode cX11_layParts 80 = .ok (.iload 4, 2) := by decide +kernel
theorem dX11_layParts_82 : decode cX11_layParts 82 = .ok (.ishl, 1) := by decide +kernel
theorem dX11_layParts_83 : decode cX11_layParts 83 = .ok (.iconst (-1), 1) := by decide +kernel
theorem dX11_layParts_84 : decode cX11_layParts 84 = .ok (.ixor, 1) := by decide +kernel
theorem dX11_layParts_85 : decode cX11_layParts 85 = .ok (.iand, 1) := by decide +kernel
theorem dX11_layParts_86 : decode cX11_layParts 86 = .ok (.iaload, 1) := by decide +kernel
theorem dX11_layParts_87 : decode cX11_layParts 87 = .ok (.bipush 16, 2) := by decide +kernel
theorem dX11_layParts_89 : decode cX11_layParts 89 = .ok (.iadd, 1) := by decide +kernel
theorem dX11_layParts_90 : decode cX11_layParts 90 = .ok (.iastore, 1) := by decide +kernel
theorem dX11_layParts_91 : decode cX11_layParts 91 = .ok (.iconst 1, 1) := by decide +kernel
theorem dX11_layParts_92 : decode cX11_layParts 92 = .ok (.istore 5, 2) := by decide +kernel
theorem dX11_layParts_94 : decode cX11_layParts 94 = .ok (.iload 5, 2) := by decide +kernel
theorem dX11_layParts_96 : decode cX11_layParts 96 = .ok (.iload_n 3, 1) := by decide +kernel
theorem dX11_layParts_97 : decode cX11_layParts 97 = .ok (.if_icmp .gt 79, 3) := by decide +kernel
theorem dX11_layParts_100 : decode cX11_layParts 100 = .ok (.iload 5, 2) := by decide +kernel
theorem dX11_layParts_102 : decode cX11_layParts 102 = .ok (.iload_n 3, 1) := by decide +kernel
theorem dX11_layParts_103 : decode cX11_layParts 103 = .ok (.invokestatic 217, 3) := by decide +kernel
theorem dX11_layParts_106 : decode cX11_layParts 106 = .ok (.ifCond .eq 64, 3) := by decide +kernel
theorem dX11_layParts_109 : decode cX11_layParts 109 = .ok (.iload 5, 2) := by decide +kernel
theorem dX11_layParts_111 : decode cX11_layParts 111 = .ok (.iload 4, 2) := by decide +kernel
theorem dX11_layParts_113 : decode cX11_layParts 113 = .ok (.invokestatic 126, 3) := by decide +kernel
theorem dX11_layParts_116 : decode cX11_layParts 116 = .ok (.ifCond .eq 54, 3) := by decide +kernel
theorem dX11_layParts_119 : decode cX11_layParts 119 = .ok (.aload_n 0, 1) := by decide +kernel
theorem dX11_layParts_120 : decode cX11_layParts 120 = .ok (.getfield 38, 3) := by decide +kernel
theorem dX11_layParts_123 : decode cX11_layParts 123 = .ok (.iload 5, 2) := by decide +kernel
theorem dX11_layParts_125 : decode cX11_layParts 125 = .ok (.baload, 1) := by decide +kernel
theorem dX11_layParts_126 : decode cX11_layParts 126 = .ok (.ifCond .eq 44, 3) := by decide +kernel
theorem dX11_layParts_129 : decode cX11_layParts 129 = .ok (.aload_n 0, 1) := by decide +kernel
theorem dX11_layParts_130 : decode cX11_layParts 130 = .ok (.getfield 42, 3) := by decide +kernel
theorem dX11_layParts_133 : decode cX11_layParts 133 = .ok (.iload_n 3, 1) := by decide +kernel
theorem dX11_layParts_134 : decode cX11_layParts 134 = .ok (.iload 5, 2) := by decide +kernel
theorem dX11_layParts_136 : decode cX11_layParts 136 = .ok (.iconst (-1), 1) := by decide +kernel
theorem dX11_layParts_137 : decode cX11_layParts 137 = .ok (.ixor, 1) := by decide +kernel
theorem dX11_layParts_138 : decode cX11_layParts 138 = .ok (.iand, 1) := by decide +kernel
theorem dX11_layParts_139 : decode cX11_layParts 139 = .ok (.iaload, 1) := by decide +kernel
theorem dX11_layParts_140 : decode cX11_layParts 140 = .ok (.iconst 1, 1) := by decide +kernel
theorem dX11_layParts_141 : decode cX11_layParts 141 = .ok (.iadd, 1) := by decide +kernel
theorem dX11_layParts_142 : decode cX11_layParts 142 = .ok (.aload_n 0, 1) := by decide +kernel
theorem dX11_layParts_143 : decode cX11_layParts 143 = .ok (.getfield 42, 3) := by decide +kernel
theorem dX11_layParts_146 : decode cX11_layParts 146 = .ok (.iload_n 3, 1) := by decide +kernel
theorem dX11_layParts_147 : decode cX11_layParts 147 = .ok (.iaload, 1) := by decide +kernel
theorem dX11_layParts_148 : decode cX11_layParts 148 = .ok (.if_icmp .ge 22, 3) := by decide +kernel
theorem dX11_layParts_151 : decode cX11_layParts 151 = .ok (.aload_n 0, 1) := by decide +kernel
theorem dX11_layParts_152 : decode cX11_layParts 152 = .ok (.getfield 42, 3) := by decide +kernel
theorem dX11_layParts_155 : decode cX11_layParts 155 = .ok (.iload_n 3, 1) := by decide +kernel
theorem dX11_layParts_156 : decode cX11_layParts 156 = .ok (.aload_n 0, 1) := by decide +kernel
theorem dX11_layParts_157 : decode cX11_layParts 157 = .ok (.getfield 42, 3) := by decide +kernel
theorem dX11_layParts_160 : decode cX11_layParts 160 = .ok (.iload_n 3, 1) := by decide +kernel
theorem dX11_layParts_161 : decode cX11_layParts 161 = .ok (.iload 5, 2) := by decide +kernel
theorem dX11_layParts_163 : decode cX11_layParts 163 = .ok (.iconst (-1), 1) := by decide +kernel
theorem dX11_layParts_164 : decode cX11_layParts 164 = .ok (.ixor, 1) := by decide +kernel
theorem dX11_layParts_165 : decode cX11_layParts 165 = .ok (.iand, 1) := by decide +kernel
theorem dX11_layParts_166 : decode cX11_layParts 166 = .ok (.iaload, 1) := by decide +kernel
theorem dX11_layParts_167 : decode cX11_layParts 167 = .ok (.iconst 1, 1) := by decide +kernel
theorem dX11_layParts_168 : decode cX11_layParts 168 = .ok (.iadd, 1) := by decide +kernel
theorem dX11_layParts_169 : decode cX11_layParts 169 = .ok (.iastore, 1) := by decide +kernel
theorem dX11_layParts_170 : decode cX11_layParts 170 = .ok (.iinc 5 1, 3) := by decide +kernel
theorem dX11_layParts_173 : decode cX11_layParts 173 = .ok (.goto (-79), 3) := by decide +kernel
theorem dX11_layParts_176 : decode cX11_layParts 176 = .ok (.iinc 3 1, 3) := by decide +kernel
theorem dX11_layParts_179 : decode cX11_layParts 179 = .ok (.goto (-129), 3) := by decide +kernel
theorem dX11_layParts_182 : decode cX11_layParts 182 = .ok (.return_, 1) := by decide +kernel
theorem dX11_takeParts_0 : decode cX11_takeParts 0 = .ok (.iload_n 1, 1) := by decide +kernel
theorem dX11_takeParts_1 : decode cX11_takeParts 1 = .ok (.istore_n 2, 1) := by decide +kernel
theorem dX11_takeParts_2 : decode cX11_takeParts 2 = .ok (.aload_n 0, 1) := by decide +kernel
theorem dX11_takeParts_3 : decode cX11_takeParts 3 = .ok (.iconst 0, 1) := by decide +kernel
theorem dX11_takeParts_4 : decode cX11_takeParts 4 = .ok (.putfield 223, 3) := by decide +kernel
theorem dX11_takeParts_7 : decode cX11_takeParts 7 = .ok (.aload_n 0, 1) := by decide +kernel
theorem dX11_takeParts_8 : decode cX11_takeParts 8 = .ok (.iconst 0, 1) := by decide +kernel
theorem dX11_takeParts_9 : decode cX11_takeParts 9 = .ok (.putfield 226, 3) := by decide +kernel
theorem dX11_takeParts_12 : decode cX11_takeParts 12 = .ok (.iload_n 2, 1) := by decide +kernel
theorem dX11_takeParts_13 : decode cX11_takeParts 13 = .ok (.ifCond .eq 144, 3) := by decide +kernel
theorem dX11_takeParts_16 : decode cX11_takeParts 16 = .ok (.iload_n 2, 1) := by decide +kernel
theorem dX11_takeParts_17 : decode cX11_takeParts 17 = .ok (.invokestatic 220, 3) := by decide +kernel
theorem dX11_takeParts_20 : decode cX11_takeParts 20 = .ok (.istore_n 3, 1) := by decide +kernel
theorem dX11_takeParts_21 : decode cX11_takeParts 21 = .ok (.iconst 0, 1) := by decide +kernel
theorem dX11_takeParts_22 : decode cX11_takeParts 22 = .ok (.istore 4, 2) := by decide +kernel
theorem dX11_takeParts_24 : decode cX11_takeParts 24 = .ok (.iload_n 2, 1) := by decide +kernel
theorem dX11_takeParts_25 : decode cX11_takeParts 25 = .ok (.istore 5, 2) := by decide +kernel
theorem dX11_takeParts_27 : decode cX11_takeParts 27 = .ok (.iload 5, 2) := by decide +kernel
theorem dX11_takeParts_29 : decode cX11_takeParts 29 = .ok (.iconst 1, 1) := by decide +kernel
theorem dX11_takeParts_30 : decode cX11_takeParts 30 = .ok (.if_icmp .lt 68, 3) := by decide +kernel
theorem dX11_takeParts_33 : decode cX11_takeParts 33 = .ok (.iload 5, 2) := by decide +kernel
theorem dX11_takeParts_35 : decode cX11_takeParts 35 = .ok (.iload_n 2, 1) := by decide +kernel
theorem dX11_takeParts_36 : decode cX11_takeParts 36 = .ok (.invokestatic 217, 3) := by decide +kernel
theorem dX11_takeParts_39 : decode cX11_takeParts 39 = .ok (.ifCond .eq 49, 3) := by decide +kernel
theorem dX11_takeParts_42 : decode cX11_takeParts 42 = .ok (.iload 5, 2) := by decide +kernel
theorem dX11_takeParts_44 : decode cX11_takeParts 44 = .ok (.iload_n 3, 1) := by decide +kernel
theorem dX11_takeParts_45 : decode cX11_takeParts 45 = .ok (.invokestatic 126, 3) := by decide +kernel
theorem dX11_takeParts_48 : decode cX11_takeParts 48 = .ok (.ifCond .eq 40, 3) := by decide +kernel
theorem dX11_takeParts_51 : decode cX11_takeParts 51 = .ok (.aload_n 0, 1) := by decide +kernel
theorem dX11_takeParts_52 : decode cX11_takeParts 52 = .ok (.getfield 38, 3) := by decide +kernel
theorem dX11_takeParts_55 : decode cX11_takeParts 55 = .ok (.iload 5, 2) := by decide +kernel
theorem dX11_takeParts_57 : decode cX11_takeParts 57 = .ok (.baload, 1) := by decide +kernel
theorem dX11_takeParts_58 : decode cX11_takeParts 58 = .ok (.ifCond .eq 30, 3) := by decide +kernel
theorem dX11_takeParts_61 : decode cX11_takeParts 61 = .ok (.aload_n 0, 1) := by decide +kernel
theorem dX11_takeParts_62 : decode cX11_takeParts 62 = .ok (.getfield 42, 3) := by decide +kernel
theorem dX11_takeParts_65 : decode cX11_takeParts 65 = .ok (.iload_n 2, 1) := by decide +kernel
theorem dX11_takeParts_66 : decode cX11_takeParts 66 = .ok (.iload 5, 2) := by decide +kernel
theorem dX11_takeParts_68 : decode cX11_takeParts 68 = .ok (.iconst (-1), 1) := by decide +kernel
theorem dX11_takeParts_69 : decode cX11_takeParts 69 = .ok (.ixor, 1) := by decide +kernel
theorem dX11_takeParts_70 : decode cX11_takeParts 70 = .ok (.iand, 1) := by decide +kernel
theorem dX11_takeParts_71 : decode cX11_takeParts 71 = .ok (.iaload, 1) := by decide +kernel
theorem dX11_takeParts_72 : decode cX11_takeParts 72 = .ok (.iconst 1, 1) := by decide +kernel
theorem dX11_takeParts_73 : decode cX11_takeParts 73 = .ok (.iadd, 1) := by decide +kernel
theorem dX11_takeParts_74 : decode cX11_takeParts 74 = .ok (.aload_n 0, 1) := by decide +kernel
theorem dX11_takeParts_75 : decode cX11_takeParts 75 = .ok (.getfield 42, 3) := by decide +kernel
theorem dX11_takeParts_78 : decode cX11_takeParts 78 = .ok (.iload_n 2, 1) := by decide +kernel
theorem dX11_takeParts_79 : decode cX11_takeParts 79 = .ok (.iaload, 1) := by decide +kernel
theorem dX11_takeParts_80 : decode cX11_takeParts 80 = .ok (.if_icmp .ne 8, 3) := by decide +kernel
theorem dX11_takeParts_83 : decode cX11_takeParts 83 = .ok (.iload 5, 2) := by decide +kernel
theorem dX11_takeParts_85 : decode cX11_takeParts 85 = .ok (.goto 5, 3) := by decide +kernel
theorem dX11_takeParts_88 : decode cX11_takeParts 88 = .ok (.iload 4, 2) := by decide +kernel
theorem dX11_takeParts_90 : decode cX11_takeParts 90 = .ok (.istore 4, 2) := by decide +kernel
theorem dX11_takeParts_92 : decode cX11_takeParts 92 = .ok (.iinc 5 (-1), 3) := by decide +kernel
theorem dX11_takeParts_95 : decode cX11_takeParts 95 = .ok (.goto (-68), 3) := by decide +kernel
theorem dX11_takeParts_98 : decode cX11_takeParts 98 = .ok (.iload 4, 2) := by decide +kernel
theorem dX11_takeParts_100 : decode cX11_takeParts 100 = .ok (.ifCond .ne 26, 3) := by decide +kernel
theorem dX11_takeParts_103 : decode cX11_takeParts 103 = .ok (.aload_n 0, 1) := by decide +kernel
theorem dX11_takeParts_104 : decode cX11_takeParts 104 = .ok (.dup, 1) := by decide +kernel
theorem dX11_takeParts_105 : decode cX11_takeParts 105 = .ok (.getfield 223, 3) := by decide +kernel
theorem dX11_takeParts_108 : decode cX11_takeParts 108 = .ok (.iconst 1, 1) := by decide +kernel
theorem dX11_takeParts_109 : decode cX11_takeParts 109 = .ok (.iload_n 3, 1) := by decide +kernel
theorem dX11_takeParts_110 : decode cX11_takeParts 110 = .ok (.ishl, 1) := by decide +kernel
theorem dX11_takeParts_111 : decode cX11_takeParts 111 = .ok (.ior, 1) := by decide +kernel
theorem dX11_takeParts_112 : decode cX11_takeParts 112 = .ok (.putfield 223, 3) := by decide +kernel
theorem dX11_takeParts_115 : decode cX11_takeParts 115 = .ok (.iload_n 2, 1) := by decide +kernel
theorem dX11_takeParts_116 : decode cX11_takeParts 116 = .ok (.iconst 1, 1) := by decide +kernel
theorem dX11_takeParts_117 : decode cX11_takeParts 117 = .ok (.iload_n 3, 1) := by decide +kernel
theorem dX11_takeParts_118 : decode cX11_takeParts 118 = .ok (.ishl, 1) := by decide +kernel
theorem dX11_takeParts_119 : decode cX11_takeParts 119 = .ok (.iconst (-1), 1) := by decide +kernel
theorem dX11_takeParts_120 : decode cX11_takeParts 120 = .ok (.ixor, 1) := by decide +kernel
theorem dX11_takeParts_121 : decode cX11_takeParts 121 = .ok (.iand, 1) := by decide +kernel
theorem dX11_takeParts_122 : decode cX11_takeParts 122 = .ok (.istore_n 2, 1) := by decide +kernel
theorem dX11_takeParts_123 : decode cX11_takeParts 123 = .ok (.goto 31, 3) := by decide +kernel
theorem dX11_takeParts_126 : decode cX11_takeParts 126 = .ok (.aload_n 0, 1) := by decide +kernel
theorem dX11_takeParts_127 : decode cX11_takeParts 127 = .ok (.getfield 45, 3) := by decide +kernel
theorem dX11_takeParts_130 : decode cX11_takeParts 130 = .ok (.aload_n 0, 1) := by decide +kernel
theorem dX11_takeParts_131 : decode cX11_takeParts 131 = .ok (.getfield 226, 3) := by decide +kernel
theorem dX11_takeParts_134 : decode cX11_takeParts 134 = .ok (.iload 4, 2) := by decide +kernel
theorem dX11_takeParts_136 : decode cX11_takeParts 136 = .ok (.iastore, 1) := by decide +kernel
theorem dX11_takeParts_137 : decode cX11_takeParts 137 = .ok (.aload_n 0, 1) := by decide +kernel
theorem dX11_takeParts_138 : decode cX11_takeParts 138 = .ok (.dup, 1) := by decide +kernel
theorem dX11_takeParts_139 : decode cX11_takeParts 139 = .ok (.getfield 226, 3) := by decide +kernel
theorem dX11_takeParts_142 : decode cX11_takeParts 142 = .ok (.iconst 1, 1) := by decide +kernel
theorem dX11_takeParts_143 : decode cX11_takeParts 143 = .ok (.iadd, 1) := by decide +kernel
theorem dX11_takeParts_144 : decode cX11_takeParts 144 = .ok (.putfield 226, 3) := by decide +kernel
theorem dX11_takeParts_147 : decode cX11_takeParts 147 = .ok (.iload_n 2, 1) := by decide +kernel
theorem dX11_takeParts_148 : decode cX11_takeParts 148 = .ok (.iload 4, 2) := by decide +kernel
theorem dX11_takeParts_150 : decode cX11_takeParts 150 = .ok (.iconst (-1), 1) := by decide +kernel
theorem dX11_takeParts_151 : decode cX11_takeParts 151 = .ok (.ixor, 1) := by decide +kernel
theorem dX11_takeParts_152 : decode cX11_takeParts 152 = .ok (.iand, 1) := by decide +kernel
theorem dX11_takeParts_153 : decode cX11_takeParts 153 = .ok (.istore_n 2, 1) := by decide +kernel
theorem dX11_takeParts_154 : decode cX11_takeParts 154 = .ok (.goto (-142), 3) := by decide +kernel
theorem dX11_takeParts_157 : decode cX11_takeParts 157 = .ok (.return_, 1) := by decide +kernel
theorem dX11_isSet_0 : decode cX11_isSet 0 = .ok (.iload_n 1, 1) := by decide +kernel
theorem dX11_isSet_1 : decode cX11_isSet 1 = .ok (.ifCond .eq 11, 3) := by decide +kernel
theorem dX11_isSet_4 : decode cX11_isSet 4 = .ok (.aload_n 0, 1) := by decide +kernel
theorem dX11_isSet_5 : decode cX11_isSet 5 = .ok (.iload_n 1, 1) := by decide +kernel
theorem dX11_isSet_6 : decode cX11_isSet 6 = .ok (.invokevirtual 148, 3) := by decide +kernel
theorem dX11_isSet_9 : decode cX11_isSet 9 = .ok (.ifCond .eq 7, 3) := by decide +kernel
theorem dX11_isSet_12 : decode cX11_isSet 12 = .ok (.iconst 1, 1) := by decide +kernel
theorem dX11_isSet_13 : decode cX11_isSet 13 = .ok (.goto 4, 3) := by decide +kernel
theorem dX11_isSet_16 : decode cX11_isSet 16 = .ok (.iconst 0, 1) := by decide +kernel
theorem dX11_isSet_17 : decode cX11_isSet 17 = .ok (.ireturn, 1) := by decide +kernel
theorem dX11_isLook_0 : decode cX11_isLook 0 = .ok (.aload_n 0, 1) := by decide +kernel
theorem dX11_isLook_1 : decode cX11_isLook 1 = .ok (.iload_n 1, 1) := by decide +kernel
theorem dX11_isLook_2 : decode cX11_isLook 2 = .ok (.invokevirtual 229, 3) := by decide +kernel
theorem dX11_isLook_5 : decode cX11_isLook 5 = .ok (.ifCond .eq 22, 3) := by decide +kernel
theorem dX11_isLook_8 : decode cX11_isLook 8 = .ok (.aload_n 0, 1) := by decide +kernel
theorem dX11_isLook_9 : decode cX11_isLook 9 = .ok (.iload_n 2, 1) := by decide +kernel
theorem dX11_isLook_10 : decode cX11_isLook 10 = .ok (.invokevirtual 151, 3) := by decide +kernel
theorem dX11_isLook_13 : decode cX11_isLook 13 = .ok (.ifCond .eq 14, 3) := by decide +kernel
theorem dX11_isLook_16 : decode cX11_isLook 16 = .ok (.iload_n 3, 1) := by decide +kernel
theorem dX11_isLook_17 : decode cX11_isLook 17 = .ok (.invokestatic 106, 3) := by decide +kernel
theorem dX11_isLook_20 : decode cX11_isLook 20 = .ok (.ifCond .eq 7, 3) := by decide +kernel
theorem dX11_isLook_23 : decode cX11_isLook 23 = .ok (.iconst 1, 1) := by decide +kernel
theorem dX11_isLook_24 : decode cX11_isLook 24 = .ok (.goto 4, 3) := by decide +kernel
theorem dX11_isLook_27 : decode cX11_isLook 27 = .ok (.iconst 0, 1) := by decide +kernel
theorem dX11_isLook_28 : decode cX11_isLook 28 = .ok (.ireturn, 1) := by decide +kernel
theorem dX11_over_0 : decode cX11_over 0 = .ok (.aload_n 0, 1) := by decide +kernel
theorem dX11_over_1 : decode cX11_over 1 = .ok (.iload_n 1, 1) := by decide +kernel
theorem dX11_over_2 : decode cX11_over 2 = .ok (.iload_n 2, 1) := by decide +kernel
theorem dX11_over_3 : decode cX11_over 3 = .ok (.iload_n 3, 1) := by decide +kernel
theorem dX11_over_4 : decode cX11_over 4 = .ok (.invokevirtual 232, 3) := by decide +kernel
theorem dX11_over_7 : decode cX11_over 7 = .ok (.ifCond .eq 16, 3) := by decide +kernel
theorem dX11_over_10 : decode cX11_over 10 = .ok (.iload 4, 2) := by decide +kernel
theorem dX11_over_12 : decode cX11_over 12 = .ok (.i2l, 1) := by decide +kernel
theorem dX11_over_13 : decode cX11_over 13 = .ok (.lconst 0, 1) := by decide +kernel
theorem dX11_over_14 : decode cX11_over 14 = .ok (.ldc2_w 109, 3) := by decide +kernel
theorem dX11_over_17 : decode cX11_over 17 = .ok (.invokestatic 66, 3) := by decide +kernel
theorem dX11_over_20 : decode cX11_over 20 = .ok (.ifCond .ne 10, 3) := by decide +kernel
theorem dX11_over_23 : decode cX11_over 23 = .ok (.aload_n 0, 1) := by decide +kernel
theorem dX11_over_24 : decode cX11_over 24 = .ok (.bipush (-2), 2) := by decide +kernel
theorem dX11_over_26 : decode cX11_over 26 = .ok (.invokevirtual 103, 3) := by decide +kernel
theorem dX11_over_29 : decode cX11_over 29 = .ok (.ireturn, 1) := by decide +kernel
theorem dX11_over_30 : decode cX11_over 30 = .ok (.aload_n 0, 1) := by decide +kernel
theorem dX11_over_31 : decode cX11_over 31 = .ok (.iload_n 3, 1) := by decide +kernel
theorem dX11_over_32 : decode cX11_over 32 = .ok (.invokevirtual 139, 3) := by decide +kernel
theorem dX11_over_35 : decode cX11_over 35 = .ok (.aload_n 0, 1) := by decide +kernel
theorem dX11_over_36 : decode cX11_over 36 = .ok (.iload_n 1, 1) := by decide +kernel
theorem dX11_over_37 : decode cX11_over 37 = .ok (.iload_n 2, 1) := by decide +kernel
theorem dX11_over_38 : decode cX11_over 38 = .ok (.invokevirtual 235, 3) := by decide +kernel
theorem dX11_over_41 : decode cX11_over 41 = .ok (.aload_n 0, 1) := by decide +kernel
theorem dX11_over_42 : decode cX11_over 42 = .ok (.iload_n 1, 1) := by decide +kernel
theorem dX11_over_43 : decode cX11_over 43 = .ok (.invokevirtual 239, 3) := by decide +kernel
theorem dX11_over_46 : decode cX11_over 46 = .ok (.iload 4, 2) := by decide +kernel
theorem dX11_over_48 : decode cX11_over 48 = .ok (.ifCond .ne 15, 3) := by decide +kernel
theorem dX11_over_51 : decode cX11_over 51 = .ok (.aload_n 0, 1) := by decide +kernel
theorem dX11_over_52 : decode cX11_over 52 = .ok (.getfield 42, 3) := by decide +kernel
theorem dX11_over_55 : decode cX11_over 55 = .ok (.iload_n 1, 1) := by decide +kernel
theorem dX11_over_56 : decode cX11_over 56 = .ok (.iaload, 1) := by decide +kernel
theorem dX11_over_57 : decode cX11_over 57 = .ok (.bipush 16, 2) := by decide +kernel
theorem dX11_over_59 : decode cX11_over 59 = .ok (.idiv, 1) := by decide +kernel
theorem dX11_over_60 : decode cX11_over 60 = .ok (.goto 25, 3) := by decide +kernel
theorem dX11_over_63 : decode cX11_over 63 = .ok (.iload 4, 2) := by decide +kernel
theorem dX11_over_65 : decode cX11_over 65 = .ok (.iconst 1, 1) := by decide +kernel
theorem dX11_over_66 : decode cX11_over 66 = .ok (.if_icmp .ne 15, 3) := by decide +kernel
theorem dX11_over_69 : decode cX11_over 69 = .ok (.aload_n 0, 1) := by decide +kernel
theorem dX11_over_70 : decode cX11_over 70 = .ok (.getfield 42, 3) := by decide +kernel
theorem dX11_over_73 : decode cX11_over 73 = .ok (.iload_n 1, 1) := by decide +kernel
theorem dX11_over_74 : decode cX11_over 74 = .ok (.iaload, 1) := by decide +kernel
theorem dX11_over_75 : decode cX11_over 75 = .ok (.bipush 16, 2) := by decide +kernel
theorem dX11_over_77 : decode cX11_over 77 = .ok (.irem, 1) := by decide +kernel
theorem dX11_over_78 : decode cX11_over 78 = .ok (.goto 7, 3) := by decide +kernel
theorem dX11_over_81 : decode cX11_over 81 = .ok (.aload_n 0, 1) := by decide +kernel
theorem dX11_over_82 : decode cX11_over 82 = .ok (.getfield 223, 3) := by decide +kernel
theorem dX11_over_85 : decode cX11_over 85 = .ok (.ireturn, 1) := by decide +kernel
theorem dX11_parts_0 : decode cX11_parts 0 = .ok (.aload_n 0, 1) := by decide +kernel
theorem dX11_parts_1 : decode cX11_parts 1 = .ok (.iload_n 1, 1) := by decide +kernel
theorem dX11_parts_2 : decode cX11_parts 2 = .ok (.iload_n 2, 1) := by decide +kernel
theorem dX11_parts_3 : decode cX11_parts 3 = .ok (.iload_n 3, 1) := by decide +kernel
theorem dX11_parts_4 : decode cX11_parts 4 = .ok (.invokevirtual 232, 3) := by decide +kernel
theorem dX11_parts_7 : decode cX11_parts 7 = .ok (.ifCond .eq 8, 3) := by decide +kernel
theorem dX11_parts_10 : decode cX11_parts 10 = .ok (.iload 4, 2) := by decide +kernel
theorem dX11_parts_12 : decode cX11_parts 12 = .ok (.ifCond .ge 10, 3) := by decide +kernel
theorem dX11_parts_15 : decode cX11_parts 15 = .ok (.aload_n 0, 1) := by decide +kernel
theorem dX11_parts_16 : decode cX11_parts 16 = .ok (.bipush (-10), 2) := by decide +kernel
theorem dX11_parts_18 : decode cX11_parts 18 = .ok (.invokevirtual 103, 3) := by decide +kernel
theorem dX11_parts_21 : decode cX11_parts 21 = .ok (.ireturn, 1) := by decide +kernel
theorem dX11_parts_22 : decode cX11_parts 22 = .ok (.aload_n 0, 1) := by decide +kernel
theorem dX11_parts_23 : decode cX11_parts 23 = .ok (.iload_n 3, 1) := by decide +kernel
theorem dX11_parts_24 : decode cX11_parts 24 = .ok (.invokevirtual 139, 3) := by decide +kernel
theorem dX11_parts_27 : decode cX11_parts 27 = .ok (.aload_n 0, 1) := by decide +kernel
theorem dX11_parts_28 : decode cX11_parts 28 = .ok (.iload_n 1, 1) := by decide +kernel
theorem dX11_parts_29 : decode cX11_parts 29 = .ok (.iload_n 2, 1) := by decide +kernel
theorem dX11_parts_30 : decode cX11_parts 30 = .ok (.invokevirtual 235, 3) := by decide +kernel
theorem dX11_parts_33 : decode cX11_parts 33 = .ok (.aload_n 0, 1) := by decide +kernel
theorem dX11_parts_34 : decode cX11_parts 34 = .ok (.iload_n 1, 1) := by decide +kernel
theorem dX11_parts_35 : decode cX11_parts 35 = .ok (.invokevirtual 239, 3) := by decide +kernel
theorem dX11_parts_38 : decode cX11_parts 38 = .ok (.iload 4, 2) := by decide +kernel
theorem dX11_parts_40 : decode cX11_parts 40 = .ok (.aload_n 0, 1) := by decide +kernel
theorem dX11_parts_41 : decode cX11_parts 41 = .ok (.getfield 226, 3) := by decide +kernel
theorem dX11_parts_44 : decode cX11_parts 44 = .ok (.if_icmp .ge 13, 3) := by decide +kernel
theorem dX11_parts_47 : decode cX11_parts 47 = .ok (.aload_n 0, 1) := by decide +kernel
theorem dX11_parts_48 : decode cX11_parts 48 = .ok (.getfield 45, 3) := by decide +kernel
theorem dX11_parts_51 : decode cX11_parts 51 = .ok (.iload 4, 2) := by decide +kernel
theorem dX11_parts_53 : decode cX11_parts 53 = .ok (.iaload, 1) := by decide +kernel
theorem dX11_parts_54 : decode cX11_parts 54 = .ok (.goto 5, 3) := by decide +kernel
theorem dX11_parts_57 : decode cX11_parts 57 = .ok (.bipush (-5), 2) := by decide +kernel
theorem dX11_parts_59 : decode cX11_parts 59 = .ok (.ireturn, 1) := by decide +kernel
theorem dX11_lent_0 : decode cX11_lent 0 = .ok (.aload_n 0, 1) := by decide +kernel
theorem dX11_lent_1 : decode cX11_lent 1 = .ok (.iload_n 1, 1) := by decide +kernel
theorem dX11_lent_2 : decode cX11_lent 2 = .ok (.iload_n 2, 1) := by decide +kernel
theorem dX11_lent_3 : decode cX11_lent 3 = .ok (.iload_n 3, 1) := by decide +kernel
theorem dX11_lent_4 : decode cX11_lent 4 = .ok (.invokevirtual 232, 3) := by decide +kernel
theorem dX11_lent_7 : decode cX11_lent 7 = .ok (.ifCond .ne 10, 3) := by decide +kernel
theorem dX11_lent_10 : decode cX11_lent 10 = .ok (.aload_n 0, 1) := by decide +kernel
theorem dX11_lent_11 : decode cX11_lent 11 = .ok (.bipush (-2), 2) := by decide +kernel
theorem dX11_lent_13 : decode cX11_lent 13 = .ok (.invokevirtual 103, 3) := by decide +kernel
theorem dX11_lent_16 : decode cX11_lent 16 = .ok (.ireturn, 1) := by decide +kernel
theorem dX11_lent_17 : decode cX11_lent 17 = .ok (.aload_n 0, 1) := by decide +kernel
theorem dX11_lent_18 : decode cX11_lent 18 = .ok (.iload_n 3, 1) := by decide +kernel
theorem dX11_lent_19 : decode cX11_lent 19 = .ok (.invokevirtual 139, 3) := by decide +kernel
theorem dX11_lent_22 : decode cX11_lent 22 = .ok (.iconst (-1), 1) := by decide +kernel
theorem dX11_lent_23 : decode cX11_lent 23 = .ok (.istore 4, 2) := by decide +kernel
theorem dX11_lent_25 : decode cX11_lent 25 = .ok (.iconst 0, 1) := by decide +kernel
theorem dX11_lent_26 : decode cX11_lent 26 = .ok (.istore 5, 2) := by decide +kernel
theorem dX11_lent_28 : decode cX11_lent 28 = .ok (.iload 5, 2) := by decide +kernel
theorem dX11_lent_30 : decode cX11_lent 30 = .ok (.iconst 1, 1) := by decide +kernel
theorem dX11_lent_31 : decode cX11_lent 31 = .ok (.aload_n 0, 1) := by decide +kernel
theorem dX11_lent_32 : decode cX11_lent 32 = .ok (.getfield 7, 3) := by decide +kernel
theorem dX11_lent_35 : decode cX11_lent 35 = .ok (.iconst 0, 1) := by decide +kernel
theorem dX11_lent_36 : decode cX11_lent 36 = .ok (.iaload, 1) := by decide +kernel
theorem dX11_lent_37 : decode cX11_lent 37 = .ok (.ishl, 1) := by decide +kernel
theorem dX11_lent_38 : decode cX11_lent 38 = .ok (.if_icmp .ge 74, 3) := by decide +kernel
theorem dX11_lent_41 : decode cX11_lent 41 = .ok (.iload 5, 2) := by decide +kernel
theorem dX11_lent_43 : decode cX11_lent 43 = .ok (.iload_n 1, 1) := by decide +kernel
theorem dX11_lent_44 : decode cX11_lent 44 = .ok (.iand, 1) := by decide +kernel
theorem dX11_lent_45 : decode cX11_lent 45 = .ok (.ifCond .ne 44, 3) := by decide +kernel
theorem dX11_lent_48 : decode cX11_lent 48 = .ok (.iload 5, 2) := by decide +kernel
theorem dX11_lent_50 : decode cX11_lent 50 = .ok (.iload_n 1, 1) := by decide +kernel
theorem dX11_lent_51 : decode cX11_lent 51 = .ok (.ior, 1) := by decide +kernel
theorem dX11_lent_52 : decode cX11_lent 52 = .ok (.ifCond .eq 37, 3) := by decide +kernel
theorem dX11_lent_55 : decode cX11_lent 55 = .ok (.iload 4, 2) := by decide +kernel
theorem dX11_lent_57 : decode cX11_lent 57 = .ok (.ifCond .lt 16, 3) := by decide +kernel
theorem dX11_lent_60 : decode cX11_lent 60 = .ok (.iload 5, 2) := by decide +kernel
theorem dX11_lent_62 : decode cX11_lent 62 = .ok (.invokestatic 142, 3) := by decide +kernel
theorem dX11_lent_65 : decode cX11_lent 65 = .ok (.iload 4, 2) := by decide +kernel
theorem dX11_lent_67 : decode cX11_lent 67 = .ok (.invokestatic 142, 3) := by decide +kernel
theorem dX11_lent_70 : decode cX11_lent 70 = .ok (.if_icmp .ge 19, 3) := by decide +kernel
theorem dX11_lent_73 : decode cX11_lent 73 = .ok (.aload_n 0, 1) := by decide +kernel
theorem dX11_lent_74 : decode cX11_lent 74 = .ok (.iload_n 1, 1) := by decide +kernel
theorem dX11_lent_75 : decode cX11_lent 75 = .ok (.iload 5, 2) := by decide +kernel
theorem dX11_lent_77 : decode cX11_lent 77 = .ok (.ior, 1) := by decide +kernel
theorem dX11_lent_78 : decode cX11_lent 78 = .ok (.iload_n 2, 1) := by decide +kernel
theorem dX11_lent_79 : decode cX11_lent 79 = .ok (.invokevirtual 154, 3) := by decide +kernel
theorem dX11_lent_82 : decode cX11_lent 82 = .ok (.ifCond .ne 7, 3) := by decide +kernel
theorem dX11_lent_85 : decode cX11_lent 85 = .ok (.iconst 1, 1) := by decide +kernel
theorem dX11_lent_86 : decode cX11_lent 86 = .ok (.goto 4, 3) := by decide +kernel
theorem dX11_lent_89 : decode cX11_lent 89 = .ok (.iconst 0, 1) := by decide +kernel
theorem dX11_lent_90 : decode cX11_lent 90 = .ok (.istore 6, 2) := by decide +kernel
theorem dX11_lent_92 : decode cX11_lent 92 = .ok (.iload 6, 2) := by decide +kernel
theorem dX11_lent_94 : decode cX11_lent 94 = .ok (.ifCond .eq 8, 3) := by decide +kernel
theorem dX11_lent_97 : decode cX11_lent 97 = .ok (.iload 5, 2) := by decide +kernel
theorem dX11_lent_99 : decode cX11_lent 99 = .ok (.goto 5, 3) := by decide +kernel
theorem dX11_lent_102 : decode cX11_lent 102 = .ok (.iload 4, 2) := by decide +kernel
theorem dX11_lent_104 : decode cX11_lent 104 = .ok (.istore 4, 2) := by decide +kernel
theorem dX11_lent_106 : decode cX11_lent 106 = .ok (.iinc 5 1, 3) := by decide +kernel
theorem dX11_lent_109 : decode cX11_lent 109 = .ok (.goto (-81), 3) := by decide +kernel
theorem dX11_lent_112 : decode cX11_lent 112 = .ok (.iload 4, 2) := by decide +kernel
theorem dX11_lent_114 : decode cX11_lent 114 = .ok (.ireturn, 1) := by decide +kernel
theorem dX11_worth_0 : decode cX11_worth 0 = .ok (.aload_n 0, 1) := by decide +kernel
theorem dX11_worth_1 : decode cX11_worth 1 = .ok (.iload_n 1, 1) := by decide +kernel
theorem dX11_worth_2 : decode cX11_worth 2 = .ok (.invokevirtual 123, 3) := by decide +kernel
theorem dX11_worth_5 : decode cX11_worth 5 = .ok (.ifCond .eq 18, 3) := by decide +kernel
theorem dX11_worth_8 : decode cX11_worth 8 = .ok (.aload_n 0, 1) := by decide +kernel
theorem dX11_worth_9 : decode cX11_worth 9 = .ok (.iload_n 2, 1) := by decide +kernel
theorem dX11_worth_10 : decode cX11_worth 10 = .ok (.invokevirtual 151, 3) := by decide +kernel
theorem dX11_worth_13 : decode cX11_worth 13 = .ok (.ifCond .eq 10, 3) := by decide +kernel
theorem dX11_worth_16 : decode cX11_worth 16 = .ok (.iload_n 3, 1) := by decide +kernel
theorem dX11_worth_17 : decode cX11_worth 17 = .ok (.invokestatic 106, 3) := by decide +kernel
theorem dX11_worth_20 : decode cX11_worth 20 = .ok (.ifCond .ne 10, 3) := by decide +kernel
theorem dX11_worth_23 : decode cX11_worth 23 = .ok (.aload_n 0, 1) := by decide +kernel
theorem dX11_worth_24 : decode cX11_worth 24 = .ok (.bipush (-2), 2) := by decide +kernel
theorem dX11_worth_26 : decode cX11_worth 26 = .ok (.invokevirtual 103, 3) := by decide +kernel
theorem dX11_worth_29 : decode cX11_worth 29 = .ok (.ireturn, 1) := by decide +kernel
theorem dX11_worth_30 : decode cX11_worth 30 = .ok (.aload_n 0, 1) := by decide +kernel
theorem dX11_worth_31 : decode cX11_worth 31 = .ok (.iload_n 3, 1) := by decide +kernel
theorem dX11_worth_32 : decode cX11_worth 32 = .ok (.invokevirtual 139, 3) := by decide +kernel
theorem dX11_worth_35 : decode cX11_worth 35 = .ok (.iconst 0, 1) := by decide +kernel
theorem dX11_worth_36 : decode cX11_worth 36 = .ok (.istore 4, 2) := by decide +kernel
theorem dX11_worth_38 : decode cX11_worth 38 = .ok (.iconst 1, 1) := by decide +kernel
theorem dX11_worth_39 : decode cX11_worth 39 = .ok (.istore 5, 2) := by decide +kernel
theorem dX11_worth_41 : decode cX11_worth 41 = .ok (.iload 5, 2) := by decide +kernel
theorem dX11_worth_43 : decode cX11_worth 43 = .ok (.iconst 1, 1) := by decide +kernel
theorem dX11_worth_44 : decode cX11_worth 44 = .ok (.aload_n 0, 1) := by decide +kernel
theorem dX11_worth_45 : decode cX11_worth 45 = .ok (.getfield 7, 3) := by decide +kernel
theorem dX11_worth_48 : decode cX11_worth 48 = .ok (.iconst 0, 1) := by decide +kernel
theorem dX11_worth_49 : decode cX11_worth 49 = .ok (.iaload, 1) := by decide +kernel
theorem dX11_worth_50 : decode cX11_worth 50 = .ok (.ishl, 1) := by decide +kernel
theorem dX11_worth_51 : decode cX11_worth 51 = .ok (.if_icmp .ge 38, 3) := by decide +kernel
theorem dX11_worth_54 : decode cX11_worth 54 = .ok (.iload 4, 2) := by decide +kernel
theorem dX11_worth_56 : decode cX11_worth 56 = .ok (.iload 5, 2) := by decide +kernel
theorem dX11_worth_58 : decode cX11_worth 58 = .ok (.iload_n 1, 1) := by decide +kernel
theorem dX11_worth_59 : decode cX11_worth 59 = .ok (.invokestatic 126, 3) := by decide +kernel
theorem dX11_worth_62 : decode cX11_worth 62 = .ok (.ifCond .eq 17, 3) := by decide +kernel
theorem dX11_worth_65 : decode cX11_worth 65 = .ok (.aload_n 0, 1) := by decide +kernel
theorem dX11_worth_66 : decode cX11_worth 66 = .ok (.iload 5, 2) := by decide +kernel
theorem dX11_worth_68 : decode cX11_worth 68 = .ok (.iload_n 2, 1) := by decide +kernel
theorem dX11_worth_69 : decode cX11_worth 69 = .ok (.invokevirtual 154, 3) := by decide +kernel
theorem dX11_worth_72 : decode cX11_worth 72 = .ok (.ifCond .ne 7, 3) := by decide +kernel
theorem dX11_worth_75 : decode cX11_worth 75 = .ok (.iconst 1, 1) := by decide +kernel
theorem dX11_worth_76 : decode cX11_worth 76 = .ok (.goto 4, 3) := by decide +kernel
theorem dX11_worth_79 : decode cX11_worth 79 = .ok (.iconst 0, 1) := by decide +kernel
theorem dX11_worth_80 : decode cX11_worth 80 = .ok (.iadd, 1) := by decide +kernel
theorem dX11_worth_81 : decode cX11_worth 81 = .ok (.istore 4, 2) := by decide +kernel
theorem dX11_worth_83 : decode cX11_worth 83 = .ok (.iinc 5 1, 3) := by decide +kernel
theorem dX11_worth_86 : decode cX11_worth 86 = .ok (.goto (-45), 3) := by decide +kernel
theorem dX11_worth_89 : decode cX11_worth 89 = .ok (.iload 4, 2) := by decide +kernel
theorem dX11_worth_91 : decode cX11_worth 91 = .ok (.ireturn, 1) := by decide +kernel
theorem dX11_dates_0 : decode cX11_dates 0 = .ok (.aload_n 0, 1) := by decide +kernel
theorem dX11_dates_1 : decode cX11_dates 1 = .ok (.iload_n 1, 1) := by decide +kernel
theorem dX11_dates_2 : decode cX11_dates 2 = .ok (.invokevirtual 148, 3) := by decide +kernel
theorem dX11_dates_5 : decode cX11_dates 5 = .ok (.ifCond .eq 25, 3) := by decide +kernel
theorem dX11_dates_8 : decode cX11_dates 8 = .ok (.aload_n 0, 1) := by decide +kernel
theorem dX11_dates_9 : decode cX11_dates 9 = .ok (.iload_n 2, 1) := by decide +kernel
theorem dX11_dates_10 : decode cX11_dates 10 = .ok (.invokevirtual 151, 3) := by decide +kernel
theorem dX11_dates_13 : decode cX11_dates 13 = .ok (.ifCond .eq 17, 3) := by decide +kernel
theorem dX11_dates_16 : decode cX11_dates 16 = .ok (.iload_n 3, 1) := by decide +kernel
theorem dX11_dates_17 : decode cX11_dates 17 = .ok (.i2l, 1) := by decide +kernel
theorem dX11_dates_18 : decode cX11_dates 18 = .ok (.ldc2_w 62, 3) := by decide +kernel
theorem dX11_dates_21 : decode cX11_dates 21 = .ok (.ldc2_w 64, 3) := by decide +kernel
theorem dX11_dates_24 : decode cX11_dates 24 = .ok (.invokestatic 66, 3) := by decide +kernel
theorem dX11_dates_27 : decode cX11_dates 27 = .ok (.ifCond .ne 10, 3) := by decide +kernel
theorem dX11_dates_30 : decode cX11_dates 30 = .ok (.aload_n 0, 1) := by decide +kernel
theorem dX11_dates_31 : decode cX11_dates 31 = .ok (.bipush (-2), 2) := by decide +kernel
theorem dX11_dates_33 : decode cX11_dates 33 = .ok (.invokevirtual 103, 3) := by decide +kernel
theorem dX11_dates_36 : decode cX11_dates 36 = .ok (.ireturn, 1) := by decide +kernel
theorem dX11_dates_37 : decode cX11_dates 37 = .ok (.aload_n 0, 1) := by decide +kernel
theorem dX11_dates_38 : decode cX11_dates 38 = .ok (.invokevirtual 133, 3) := by decide +kernel
theorem dX11_dates_41 : decode cX11_dates 41 = .ok (.iconst 0, 1) := by decide +kernel
theorem dX11_dates_42 : decode cX11_dates 42 = .ok (.istore 4, 2) := by decide +kernel
theorem dX11_dates_44 : decode cX11_dates 44 = .ok (.iload_n 3, 1) := by decide +kernel
theorem dX11_dates_45 : decode cX11_dates 45 = .ok (.invokestatic 76, 3) := by decide +kernel
theorem dX11_dates_48 : decode cX11_dates 48 = .ok (.iload_n 3, 1) := by decide +kernel
theorem dX11_dates_49 : decode cX11_dates 49 = .ok (.invokestatic 58, 3) := by decide +kernel
theorem dX11_dates_52 : decode cX11_dates 52 = .ok (.ifCond .eq 9, 3) := by decide +kernel
theorem dX11_dates_55 : decode cX11_dates 55 = .ok (.sipush 366, 3) := by decide +kernel
theorem dX11_dates_58 : decode cX11_dates 58 = .ok (.goto 6, 3) := by decide +kernel
theorem dX11_dates_61 : decode cX11_dates 61 = .ok (.sipush 365, 3) := by decide +kernel
theorem dX11_dates_64 : decode cX11_dates 64 = .ok (.iadd, 1) := by decide +kernel
theorem dX11_dates_65 : decode cX11_dates 65 = .ok (.istore 5, 2) := by decide +kernel
theorem dX11_dates_67 : decode cX11_dates 67 = .ok (.iload_n 3, 1) := by decide +kernel
theorem dX11_dates_68 : decode cX11_dates 68 = .ok (.invokestatic 76, 3) := by decide +kernel
theorem dX11_dates_71 : decode cX11_dates 71 = .ok (.istore 6, 2) := by decide +kernel
theorem dX11_dates_73 : decode cX11_dates 73 = .ok (.iload 6, 2) := by decide +kernel
theorem dX11_dates_75 : decode cX11_dates 75 = .ok (.iload 5, 2) := by decide +kernel
theorem dX11_dates_77 : decode cX11_dates 77 = .ok (.if_icmp .ge 34, 3) := by decide +kernel
theorem dX11_dates_80 : decode cX11_dates 80 = .ok (.aload_n 0, 1) := by decide +kernel
theorem dX11_dates_81 : decode cX11_dates 81 = .ok (.iload 6, 2) := by decide +kernel
theorem dX11_dates_83 : decode cX11_dates 83 = .ok (.invokevirtual 136, 3) := by decide +kernel
theorem dX11_dates_86 : decode cX11_dates 86 = .ok (.iload 4, 2) := by decide +kernel
theorem dX11_dates_88 : decode cX11_dates 88 = .ok (.aload_n 0, 1) := by decide +kernel
theorem dX11_dates_89 : decode cX11_dates 89 = .ok (.iload_n 1, 1) := by decide +kernel
theorem dX11_dates_90 : decode cX11_dates 90 = .ok (.iload_n 2, 1) := by decide +kernel
theorem dX11_dates_91 : decode cX11_dates 91 = .ok (.invokevirtual 154, 3) := by decide +kernel
theorem dX11_dates_94 : decode cX11_dates 94 = .ok (.ifCond .ne 7, 3) := by decide +kernel
theorem dX11_dates_97 : decode cX11_dates 97 = .ok (.iconst 1, 1) := by decide +kernel
theorem dX11_dates_98 : decode cX11_dates 98 = .ok (.goto 4, 3) := by decide +kernel
theorem dX11_dates_101 : decode cX11_dates 101 = .ok (.iconst 0, 1) := by decide +kernel
theorem dX11_dates_102 : decode cX11_dates 102 = .ok (.iadd, 1) := by decide +kernel
theorem dX11_dates_103 : decode cX11_dates 103 = .ok (.istore 4, 2) := by decide +kernel
theorem dX11_dates_105 : decode cX11_dates 105 = .ok (.iinc 6 1, 3) := by decide +kernel
theorem dX11_dates_108 : decode cX11_dates 108 = .ok (.goto (-35), 3) := by decide +kernel
theorem dX11_dates_111 : decode cX11_dates 111 = .ok (.iload 4, 2) := by decide +kernel
theorem dX11_dates_113 : decode cX11_dates 113 = .ok (.ireturn, 1) := by decide +kernel
theorem dX11_next_0 : decode cX11_next 0 = .ok (.aload_n 0, 1) := by decide +kernel
theorem dX11_next_1 : decode cX11_next 1 = .ok (.iload_n 1, 1) := by decide +kernel
theorem dX11_next_2 : decode cX11_next 2 = .ok (.invokevirtual 148, 3) := by decide +kernel
theorem dX11_next_5 : decode cX11_next 5 = .ok (.ifCond .eq 13, 3) := by decide +kernel
theorem dX11_next_8 : decode cX11_next 8 = .ok (.aload_n 0, 1) := by decide +kernel
theorem dX11_next_9 : decode cX11_next 9 = .ok (.iload_n 1, 1) := by decide +kernel
theorem dX11_next_10 : decode cX11_next 10 = .ok (.iload_n 2, 1) := by decide +kernel
theorem dX11_next_11 : decode cX11_next 11 = .ok (.iload_n 3, 1) := by decide +kernel
theorem dX11_next_12 : decode cX11_next 12 = .ok (.invokevirtual 232, 3) := by decide +kernel
theorem dX11_next_15 : decode cX11_next 15 = .ok (.ifCond .ne 10, 3) := by decide +kernel
theorem dX11_next_18 : decode cX11_next 18 = .ok (.aload_n 0, 1) := by decide +kernel
theorem dX11_next_19 : decode cX11_next 19 = .ok (.bipush (-2), 2) := by decide +kernel
theorem dX11_next_21 : decode cX11_next 21 = .ok (.invokevirtual 103, 3) := by decide +kernel
theorem dX11_next_24 : decode cX11_next 24 = .ok (.ireturn, 1) := by decide +kernel
theorem dX11_next_25 : decode cX11_next 25 = .ok (.aload_n 0, 1) := by decide +kernel
theorem dX11_next_26 : decode cX11_next 26 = .ok (.invokevirtual 133, 3) := by decide +kernel
theorem dX11_next_29 : decode cX11_next 29 = .ok (.iload_n 3, 1) := by decide +kernel
theorem dX11_next_30 : decode cX11_next 30 = .ok (.istore 4, 2) := by decide +kernel
theorem dX11_next_32 : decode cX11_next 32 = .ok (.iload 4, 2) := by decide +kernel
theorem dX11_next_34 : decode cX11_next 34 = .ok (.ldc 242, 2) := by decide +kernel
theorem dX11_next_36 : decode cX11_next 36 = .ok (.if_icmp .ge 27, 3) := by decide +kernel
theorem dX11_next_39 : decode cX11_next 39 = .ok (.aload_n 0, 1) := by decide +kernel
theorem dX11_next_40 : decode cX11_next 40 = .ok (.iload 4, 2) := by decide +kernel
theorem dX11_next_42 : decode cX11_next 42 = .ok (.invokevirtual 136, 3) := by decide +kernel
theorem dX11_next_45 : decode cX11_next 45 = .ok (.aload_n 0, 1) := by decide +kernel
theorem dX11_next_46 : decode cX11_next 46 = .ok (.iload_n 1, 1) := by decide +kernel
theorem dX11_next_47 : decode cX11_next 47 = .ok (.iload_n 2, 1) := by decide +kernel
theorem dX11_next_48 : decode cX11_next 48 = .ok (.invokevirtual 154, 3) := by decide +kernel
theorem dX11_next_51 : decode cX11_next 51 = .ok (.ifCond .ne 6, 3) := by decide +kernel
theorem dX11_next_54 : decode cX11_next 54 = .ok (.iload 4, 2) := by decide +kernel
theorem dX11_next_56 : decode cX11_next 56 = .ok (.ireturn, 1) := by decide +kernel
theorem dX11_next_57 : decode cX11_next 57 = .ok (.iinc 4 1, 3) := by decide +kernel
theorem dX11_next_60 : decode cX11_next 60 = .ok (.goto (-28), 3) := by decide +kernel
theorem dX11_next_63 : decode cX11_next 63 = .ok (.iconst (-1), 1) := by decide +kernel
theorem dX11_next_64 : decode cX11_next 64 = .ok (.ireturn, 1) := by decide +kernel
theorem dX11_areOther_0 : decode cX11_areOther 0 = .ok (.iconst 0, 1) := by decide +kernel
theorem dX11_areOther_1 : decode cX11_areOther 1 = .ok (.istore_n 1, 1) := by decide +kernel
theorem dX11_areOther_2 : decode cX11_areOther 2 = .ok (.iconst 0, 1) := by decide +kernel
theorem dX11_areOther_3 : decode cX11_areOther 3 = .ok (.istore_n 2, 1) := by decide +kernel
theorem dX11_areOther_4 : decode cX11_areOther 4 = .ok (.iload_n 2, 1) := by decide +kernel
theorem dX11_areOther_5 : decode cX11_areOther 5 = .ok (.aload_n 0, 1) := by decide +kernel
theorem dX11_areOther_6 : decode cX11_areOther 6 = .ok (.getfield 7, 3) := by decide +kernel
theorem dX11_areOther_9 : decode cX11_areOther 9 = .ok (.iconst 0, 1) := by decide +kernel
theorem dX11_areOther_10 : decode cX11_areOther 10 = .ok (.iaload, 1) := by decide +kernel
theorem dX11_areOther_11 : decode cX11_areOther 11 = .ok (.if_icmp .ge 46, 3) := by decide +kernel
theorem dX11_areOther_14 : decode cX11_areOther 14 = .ok (.iload_n 1, 1) := by decide +kernel
theorem dX11_areOther_15 : decode cX11_areOther 15 = .ok (.ifCond .ne 18, 3) := by decide +kernel
theorem dX11_areOther_18 : decode cX11_areOther 18 = .ok (.aload_n 0, 1) := by decide +kernel
theorem dX11_areOther_19 : decode cX11_areOther 19 = .ok (.getfield 32, 3) := by decide +kernel
theorem dX11_areOther_22 : decode cX11_areOther 22 = .ok (.iload_n 2, 1) := by decide +kernel
theorem dX11_areOther_23 : decode cX11_areOther 23 = .ok (.iaload, 1) := by decide +kernel
theorem dX11_areOther_24 : decode cX11_areOther 24 = .ok (.aload_n 0, 1) := by decide +kernel
theorem dX11_areOther_25 : decode cX11_areOther 25 = .ok (.getfield 48, 3) := by decide +kernel
theorem dX11_areOther_28 : decode cX11_areOther 28 = .ok (.iload_n 2, 1) := by decide +kernel
theorem dX11_areOther_29 : decode cX11_areOther 29 = .ok (.iaload, 1) := by decide +kernel
theorem dX11_areOther_30 : decode cX11_areOther 30 = .ok (.if_icmp .eq 7, 3) := by decide +kernel
theorem dX11_areOther_33 : decode cX11_areOther 33 = .ok (.iconst 1, 1) := by decide +kernel
theorem dX11_areOther_34 : decode cX11_areOther 34 = .ok (.goto 4, 3) := by decide +kernel
theorem dX11_areOther_37 : decode cX11_areOther 37 = .ok (.iconst 0, 1) := by decide +kernel
theorem dX11_areOther_38 : decode cX11_areOther 38 = .ok (.istore_n 1, 1) := by decide +kernel
theorem dX11_areOther_39 : decode cX11_areOther 39 = .ok (.aload_n 0, 1) := by decide +kernel
theorem dX11_areOther_40 : decode cX11_areOther 40 = .ok (.getfield 48, 3) := by decide +kernel
theorem dX11_areOther_43 : decode cX11_areOther 43 = .ok (.iload_n 2, 1) := by decide +kernel
theorem dX11_areOther_44 : decode cX11_areOther 44 = .ok (.aload_n 0, 1) := by decide +kernel
theorem dX11_areOther_45 : decode cX11_areOther 45 = .ok (.getfield 32, 3) := by decide +kernel
theorem dX11_areOther_48 : decode cX11_areOther 48 = .ok (.iload_n 2, 1) := by decide +kernel
theorem dX11_areOther_49 : decode cX11_areOther 49 = .ok (.iaload, 1) := by decide +kernel
theorem dX11_areOther_50 : decode cX11_areOther 50 = .ok (.iastore, 1) := by decide +kernel
theorem dX11_areOther_51 : decode cX11_areOther 51 = .ok (.iinc 2 1, 3) := by decide +kernel
theorem dX11_areOther_54 : decode cX11_areOther 54 = .ok (.goto (-50), 3) := by decide +kernel
theorem dX11_areOther_57 : decode cX11_areOther 57 = .ok (.iload_n 1, 1) := by decide +kernel
theorem dX11_areOther_58 : decode cX11_areOther 58 = .ok (.ireturn, 1) := by decide +kernel
theorem dX11_leavesNobody_0 : decode cX11_leavesNobody 0 = .ok (.aload_n 0, 1) := by decide +kernel
theorem dX11_leavesNobody_1 : decode cX11_leavesNobody 1 = .ok (.iload_n 1, 1) := by decide +kernel
theorem dX11_leavesNobody_2 : decode cX11_leavesNobody 2 = .ok (.iload_n 2, 1) := by decide +kernel
theorem dX11_leavesNobody_3 : decode cX11_leavesNobody 3 = .ok (.invokevirtual 235, 3) := by decide +kernel
theorem dX11_leavesNobody_6 : decode cX11_leavesNobody 6 = .ok (.aload_n 0, 1) := by decide +kernel
theorem dX11_leavesNobody_7 : decode cX11_leavesNobody 7 = .ok (.getfield 42, 3) := by decide +kernel
theorem dX11_leavesNobody_10 : decode cX11_leavesNobody 10 = .ok (.iload_n 1, 1) := by decide +kernel
theorem dX11_leavesNobody_11 : decode cX11_leavesNobody 11 = .ok (.iaload, 1) := by decide +kernel
theorem dX11_leavesNobody_12 : decode cX11_leavesNobody 12 = .ok (.bipush 16, 2) := by decide +kernel
theorem dX11_leavesNobody_14 : decode cX11_leavesNobody 14 = .ok (.if_icmp .ge 7, 3) := by decide +kernel
theorem dX11_leavesNobody_17 : decode cX11_leavesNobody 17 = .ok (.iconst 1, 1) := by decide +kernel
theorem dX11_leavesNobody_18 : decode cX11_leavesNobody 18 = .ok (.goto 4, 3) := by decide +kernel
theorem dX11_leavesNobody_21 : decode cX11_leavesNobody 21 = .ok (.iconst 0, 1) := by decide +kernel
theorem dX11_leavesNobody_22 : decode cX11_leavesNobody 22 = .ok (.ireturn, 1) := by decide +kernel
theorem dX11_wedding_0 : decode cX11_wedding 0 = .ok (.aload_n 0, 1) := by decide +kernel
theorem dX11_wedding_1 : decode cX11_wedding 1 = .ok (.iload_n 1, 1) := by decide +kernel
theorem dX11_wedding_2 : decode cX11_wedding 2 = .ok (.iload_n 3, 1) := by decide +kernel
theorem dX11_wedding_3 : decode cX11_wedding 3 = .ok (.iload 4, 2) := by decide +kernel
theorem dX11_wedding_5 : decode cX11_wedding 5 = .ok (.invokevirtual 232, 3) := by decide +kernel
theorem dX11_wedding_8 : decode cX11_wedding 8 = .ok (.ifCond .eq 17, 3) := by decide +kernel
theorem dX11_wedding_11 : decode cX11_wedding 11 = .ok (.aload_n 0, 1) := by decide +kernel
theorem dX11_wedding_12 : decode cX11_wedding 12 = .ok (.iload_n 2, 1) := by decide +kernel
theorem dX11_wedding_13 : decode cX11_wedding 13 = .ok (.invokevirtual 229, 3) := by decide +kernel
theorem dX11_wedding_16 : decode cX11_wedding 16 = .ok (.ifCond .eq 9, 3) := by decide +kernel
theorem dX11_wedding_19 : decode cX11_wedding 19 = .ok (.iload_n 1, 1) := by decide +kernel
theorem dX11_wedding_20 : decode cX11_wedding 20 = .ok (.iload_n 2, 1) := by decide +kernel
theorem dX11_wedding_21 : decode cX11_wedding 21 = .ok (.iand, 1) := by decide +kernel
theorem dX11_wedding_22 : decode cX11_wedding 22 = .ok (.ifCond .eq 10, 3) := by decide +kernel
theorem dX11_wedding_25 : decode cX11_wedding 25 = .ok (.aload_n 0, 1) := by decide +kernel
theorem dX11_wedding_26 : decode cX11_wedding 26 = .ok (.bipush (-2), 2) := by decide +kernel
theorem dX11_wedding_28 : decode cX11_wedding 28 = .ok (.invokevirtual 103, 3) := by decide +kernel
theorem dX11_wedding_31 : decode cX11_wedding 31 = .ok (.ireturn, 1) := by decide +kernel
theorem dX11_wedding_32 : decode cX11_wedding 32 = .ok (.aload_n 0, 1) := by decide +kernel
theorem dX11_wedding_33 : decode cX11_wedding 33 = .ok (.invokevirtual 133, 3) := by decide +kernel
theorem dX11_wedding_36 : decode cX11_wedding 36 = .ok (.iload 4, 2) := by decide +kernel
theorem dX11_wedding_38 : decode cX11_wedding 38 = .ok (.istore 5, 2) := by decide +kernel
theorem dX11_wedding_40 : decode cX11_wedding 40 = .ok (.iload 5, 2) := by decide +kernel
theorem dX11_wedding_42 : decode cX11_wedding 42 = .ok (.iload 4, 2) := by decide +kernel
theorem dX11_wedding_44 : decode cX11_wedding 44 = .ok (.sipush 1500, 3) := by decide +kernel
theorem dX11_wedding_47 : decode cX11_wedding 47 = .ok (.iadd, 1) := by decide +kernel
theorem dX11_wedding_48 : decode cX11_wedding 48 = .ok (.if_icmp .gt 69, 3) := by decide +kernel
theorem dX11_wedding_51 : decode cX11_wedding 51 = .ok (.iload 5, 2) := by decide +kernel
theorem dX11_wedding_53 : decode cX11_wedding 53 = .ok (.ldc 242, 2) := by decide +kernel
theorem dX11_wedding_55 : decode cX11_wedding 55 = .ok (.if_icmp .ge 62, 3) := by decide +kernel
theorem dX11_wedding_58 : decode cX11_wedding 58 = .ok (.aload_n 0, 1) := by decide +kernel
theorem dX11_wedding_59 : decode cX11_wedding 59 = .ok (.iload 5, 2) := by decide +kernel
theorem dX11_wedding_61 : decode cX11_wedding 61 = .ok (.invokevirtual 136, 3) := by decide +kernel
theorem dX11_wedding_64 : decode cX11_wedding 64 = .ok (.aload_n 0, 1) := by decide +kernel
theorem dX11_wedding_65 : decode cX11_wedding 65 = .ok (.invokevirtual 243, 3) := by decide +kernel
theorem dX11_wedding_68 : decode cX11_wedding 68 = .ok (.ifCond .ne 10, 3) := by decide +kernel
theorem dX11_wedding_71 : decode cX11_wedding 71 = .ok (.iload 5, 2) := by decide +kernel
theorem dX11_wedding_73 : decode cX11_wedding 73 = .ok (.iload 4, 2) := by decide +kernel
theorem dX11_wedding_75 : decode cX11_wedding 75 = .ok (.if_icmp .ne 7, 3) := by decide +kernel
theorem dX11_wedding_78 : decode cX11_wedding 78 = .ok (.iconst 1, 1) := by decide +kernel
theorem dX11_wedding_79 : decode cX11_wedding 79 = .ok (.goto 4, 3) := by decide +kernel
theorem dX11_wedding_82 : decode cX11_wedding 82 = .ok (.iconst 0, 1) := by decide +kernel
theorem dX11_wedding_83 : decode cX11_wedding 83 = .ok (.istore 6, 2) := by decide +kernel
theorem dX11_wedding_85 : decode cX11_wedding 85 = .ok (.iload 6, 2) := by decide +kernel
theorem dX11_wedding_87 : decode cX11_wedding 87 = .ok (.ifCond .eq 24, 3) := by decide +kernel
theorem dX11_wedding_90 : decode cX11_wedding 90 = .ok (.aload_n 0, 1) := by decide +kernel
theorem dX11_wedding_91 : decode cX11_wedding 91 = .ok (.iload_n 1, 1) := by decide +kernel
theorem dX11_wedding_92 : decode cX11_wedding 92 = .ok (.iload_n 3, 1) := by decide +kernel
theorem dX11_wedding_93 : decode cX11_wedding 93 = .ok (.invokevirtual 246, 3) := by decide +kernel
theorem dX11_wedding_96 : decode cX11_wedding 96 = .ok (.ifCond .eq 15, 3) := by decide +kernel
theorem dX11_wedding_99 : decode cX11_wedding 99 = .ok (.aload_n 0, 1) := by decide +kernel
theorem dX11_wedding_100 : decode cX11_wedding 100 = .ok (.iload_n 2, 1) := by decide +kernel
theorem dX11_wedding_101 : decode cX11_wedding 101 = .ok (.iload_n 3, 1) := by decide +kernel
theorem dX11_wedding_102 : decode cX11_wedding 102 = .ok (.invokevirtual 246, 3) := by decide +kernel
theorem dX11_wedding_105 : decode cX11_wedding 105 = .ok (.ifCond .eq 6, 3) := by decide +kernel
theorem dX11_wedding_108 : decode cX11_wedding 108 = .ok (.iload 5, 2) := by decide +kernel
theorem dX11_wedding_110 : decode cX11_wedding 110 = .ok (.ireturn, 1) := by decide +kernel
theorem dX11_wedding_111 : decode cX11_wedding 111 = .ok (.iinc 5 1, 3) := by decide +kernel
theorem dX11_wedding_114 : decode cX11_wedding 114 = .ok (.goto (-74), 3) := by decide +kernel
theorem dX11_wedding_117 : decode cX11_wedding 117 = .ok (.iconst (-1), 1) := by decide +kernel
theorem dX11_wedding_118 : decode cX11_wedding 118 = .ok (.ireturn, 1) := by decide +kernel
theorem dX11_crowd_0 : decode cX11_crowd 0 = .ok (.iload_n 1, 1) := by decide +kernel
theorem dX11_crowd_1 : decode cX11_crowd 1 = .ok (.i2l, 1) := by decide +kernel
theorem dX11_crowd_2 : decode cX11_crowd 2 = .ok (.lconst 0, 1) := by decide +kernel
theorem dX11_crowd_3 : decode cX11_crowd 3 = .ok (.ldc2_w 249, 3) := by decide +kernel
theorem dX11_crowd_6 : decode cX11_crowd 6 = .ok (.invokestatic 66, 3) := by decide +kernel
theorem dX11_crowd_9 : decode cX11_crowd 9 = .ok (.ifCond .eq 15, 3) := by decide +kernel
theorem dX11_crowd_12 : decode cX11_crowd 12 = .ok (.iload_n 2, 1) := by decide +kernel
theorem dX11_crowd_13 : decode cX11_crowd 13 = .ok (.i2l, 1) := by decide +kernel
theorem dX11_crowd_14 : decode cX11_crowd 14 = .ok (.lconst 0, 1) := by decide +kernel
theorem dX11_crowd_15 : decode cX11_crowd 15 = .ok (.ldc2_w 251, 3) := by decide +kernel
theorem dX11_crowd_18 : decode cX11_crowd 18 = .ok (.invokestatic 66, 3) := by decide +kernel
theorem dX11_crowd_21 : decode cX11_crowd 21 = .ok (.ifCond .ne 10, 3) := by decide +kernel
theorem dX11_crowd_24 : decode cX11_crowd 24 = .ok (.aload_n 0, 1) := by decide +kernel
theorem dX11_crowd_25 : decode cX11_crowd 25 = .ok (.bipush (-2), 2) := by decide +kernel
theorem dX11_crowd_27 : decode cX11_crowd 27 = .ok (.invokevirtual 103, 3) := by decide +kernel
theorem dX11_crowd_30 : decode cX11_crowd 30 = .ok (.ireturn, 1) := by decide +kernel
theorem dX11_crowd_31 : decode cX11_crowd 31 = .ok (.aload_n 0, 1) := by decide +kernel
theorem dX11_crowd_32 : decode cX11_crowd 32 = .ok (.getfield 7, 3) := by decide +kernel
theorem dX11_crowd_35 : decode cX11_crowd 35 = .ok (.bipush 37, 2) := by decide +kernel
theorem dX11_crowd_37 : decode cX11_crowd 37 = .ok (.iload_n 1, 1) := by decide +kernel
theorem dX11_crowd_38 : decode cX11_crowd 38 = .ok (.iadd, 1) := by decide +kernel
theorem dX11_crowd_39 : decode cX11_crowd 39 = .ok (.iaload, 1) := by decide +kernel
theorem dX11_crowd_40 : decode cX11_crowd 40 = .ok (.istore_n 3, 1) := by decide +kernel
theorem dX11_crowd_41 : decode cX11_crowd 41 = .ok (.aload_n 0, 1) := by decide +kernel
theorem dX11_crowd_42 : decode cX11_crowd 42 = .ok (.getfield 7, 3) := by decide +kernel
theorem dX11_crowd_45 : decode cX11_crowd 45 = .ok (.bipush 37, 2) := by decide +kernel
theorem dX11_crowd_47 : decode cX11_crowd 47 = .ok (.iload_n 1, 1) := by decide +kernel
theorem dX11_crowd_48 : decode cX11_crowd 48 = .ok (.iadd, 1) := by decide +kernel
theorem dX11_crowd_49 : decode cX11_crowd 49 = .ok (.iload_n 2, 1) := by decide +kernel
theorem dX11_crowd_50 : decode cX11_crowd 50 = .ok (.iastore, 1) := by decide +kernel
theorem dX11_crowd_51 : decode cX11_crowd 51 = .ok (.iload_n 3, 1) := by decide +kernel
theorem dX11_crowd_52 : decode cX11_crowd 52 = .ok (.ireturn, 1) := by decide +kernel
theorem dX11_choose_0 : decode cX11_choose 0 = .ok (.iconst 1, 1) := by decide +kernel
theorem dX11_choose_1 : decode cX11_choose 1 = .ok (.istore_n 2, 1) := by decide +kernel
theorem dX11_choose_2 : decode cX11_choose 2 = .ok (.iconst 1, 1) := by decide +kernel
theorem dX11_choose_3 : decode cX11_choose 3 = .ok (.istore_n 3, 1) := by decide +kernel
theorem dX11_choose_4 : decode cX11_choose 4 = .ok (.iload_n 3, 1) := by decide +kernel
theorem dX11_choose_5 : decode cX11_choose 5 = .ok (.iload_n 1, 1) := by decide +kernel
theorem dX11_choose_6 : decode cX11_choose 6 = .ok (.if_icmp .gt 19, 3) := by decide +kernel
theorem dX11_choose_9 : decode cX11_choose 9 = .ok (.iload_n 2, 1) := by decide +kernel
theorem dX11_choose_10 : decode cX11_choose 10 = .ok (.iload_n 0, 1) := by decide +kernel
theorem dX11_choose_11 : decode cX11_choose 11 = .ok (.iload_n 3, 1) := by decide +kernel
theorem dX11_choose_12 : decode cX11_choose 12 = .ok (.isub, 1) := by decide +kernel
theorem dX11_choose_13 : decode cX11_choose 13 = .ok (.iconst 1, 1) := by decide +kernel
theorem dX11_choose_14 : decode cX11_choose 14 = .ok (.iadd, 1) := by decide +kernel
theorem dX11_choose_15 : decode cX11_choose 15 = .ok (.imul, 1) := by decide +kernel
theorem dX11_choose_16 : decode cX11_choose 16 = .ok (.iload_n 3, 1) := by decide +kernel
theorem dX11_choose_17 : decode cX11_choose 17 = .ok (.idiv, 1) := by decide +kernel
theorem dX11_choose_18 : decode cX11_choose 18 = .ok (.istore_n 2, 1) := by decide +kernel
theorem dX11_choose_19 : decode cX11_choose 19 = .ok (.iinc 3 1, 3) := by decide +kernel
theorem dX11_choose_22 : decode cX11_choose 22 = .ok (.goto (-18), 3) := by decide +kernel
theorem dX11_choose_25 : decode cX11_choose 25 = .ok (.iload_n 2, 1) := by decide +kernel
theorem dX11_choose_26 : decode cX11_choose 26 = .ok (.ireturn, 1) := by decide +kernel
theorem dX11_layWays_0 : decode cX11_layWays 0 = .ok (.iconst 0, 1) := by decide +kernel
theorem dX11_layWays_1 : decode cX11_layWays 1 = .ok (.istore_n 1, 1) := by decide +kernel
theorem dX11_layWays_2 : decode cX11_layWays 2 = .ok (.iload_n 1, 1) := by decide +kernel
theorem dX11_layWays_3 : decode cX11_layWays 3 = .ok (.sipush 610, 3) := by decide +kernel
theorem dX11_layWays_6 : decode cX11_layWays 6 = .ok (.if_icmp .ge 24, 3) := by decide +kernel
theorem dX11_layWays_9 : decode cX11_layWays 9 = .ok (.aload_n 0, 1) := by decide +kernel
theorem dX11_layWays_10 : decode cX11_layWays 10 = .ok (.getfield 51, 3) := by decide +kernel
theorem dX11_layWays_13 : decode cX11_layWays 13 = .ok (.iload_n 1, 1) := by decide +kernel
theorem dX11_layWays_14 : decode cX11_layWays 14 = .ok (.iload_n 1, 1) := by decide +kernel
theorem dX11_layWays_15 : decode cX11_layWays 15 = .ok (.ifCond .ne 7, 3) := by decide +kernel
theorem dX11_layWays_18 : decode cX11_layWays 18 = .ok (.lconst 1, 1) := by decide +kernel
theorem dX11_layWays_19 : decode cX11_layWays 19 = .ok (.goto 4, 3) := by decide +kernel
theorem dX11_layWays_22 : decode cX11_layWays 22 = .ok (.lconst 0, 1) := by decide +kernel
theorem dX11_layWays_23 : decode cX11_layWays 23 = .ok (.lastore, 1) := by decide +kernel
theorem dX11_layWays_24 : decode cX11_layWays 24 = .ok (.iinc 1 1, 3) := by decide +kernel
theorem dX11_layWays_27 : decode cX11_layWays 27 = .ok (.goto (-25), 3) := by decide +kernel
theorem dX11_layWays_30 : decode cX11_layWays 30 = .ok (.iconst 0, 1) := by decide +kernel
theorem dX11_layWays_31 : decode cX11_layWays 31 = .ok (.istore_n 1, 1) := by decide +kernel
theorem dX11_layWays_32 : decode cX11_layWays 32 = .ok (.iload_n 1, 1) := by decide +kernel
theorem dX11_layWays_33 : decode cX11_layWays 33 = .ok (.bipush 10, 2) := by decide +kernel
theorem dX11_layWays_35 : decode cX11_layWays 35 = .ok (.if_icmp .ge 162, 3) := by decide +kernel
theorem dX11_layWays_38 : decode cX11_layWays 38 = .ok (.iconst 0, 1) := by decide +kernel
theorem dX11_layWays_39 : decode cX11_layWays 39 = .ok (.istore_n 2, 1) := by decide +kernel
theorem dX11_layWays_40 : decode cX11_layWays 40 = .ok (.iload_n 2, 1) := by decide +kernel
theorem dX11_layWays_41 : decode cX11_layWays 41 = .ok (.sipush 610, 3) := by decide +kernel
theorem dX11_layWays_44 : decode cX11_layWays 44 = .ok (.if_icmp .ge 16, 3) := by decide +kernel
theorem dX11_layWays_47 : decode cX11_layWays 47 = .ok (.aload_n 0, 1) := by decide +kernel
theorem dX11_layWays_48 : decode cX11_layWays 48 = .ok (.getfield 55, 3) := by decide +kernel
theorem dX11_layWays_51 : decode cX11_layWays 51 = .ok (.iload_n 2, 1) := by decide +kernel
theorem dX11_layWays_52 : decode cX11_layWays 52 = .ok (.lconst 0, 1) := by decide +kernel
theorem dX11_layWays_53 : decode cX11_layWays 53 = .ok (.lastore, 1) := by decide +kernel
theorem dX11_layWays_54 : decode cX11_layWays 54 = .ok (.iinc 2 1, 3) := by decide +kernel
theorem dX11_layWays_57 : decode cX11_layWays 57 = .ok (.goto (-17), 3) := by decide +kernel
theorem dX11_layWays_60 : decode cX11_layWays 60 = .ok (.iconst 0, 1) := by decide +kernel
theorem dX11_layWays_61 : decode cX11_layWays 61 = .ok (.istore_n 2, 1) := by decide +kernel
theorem dX11_layWays_62 : decode cX11_layWays 62 = .ok (.iload_n 2, 1) := by decide +kernel
theorem dX11_layWays_63 : decode cX11_layWays 63 = .ok (.aload_n 0, 1) := by decide +kernel
theorem dX11_layWays_64 : decode cX11_layWays 64 = .ok (.getfield 7, 3) := by decide +kernel
theorem dX11_layWays_67 : decode cX11_layWays 67 = .ok (.bipush 37, 2) := by decide +kernel
theorem dX11_layWays_69 : decode cX11_layWays 69 = .ok (.iload_n 1, 1) := by decide +kernel
theorem dX11_layWays_70 : decode cX11_layWays 70 = .ok (.iadd, 1) := by decide +kernel
theorem dX11_layWays_71 : decode cX11_layWays 71 = .ok (.iaload, 1) := by decide +kernel
theorem dX11_layWays_72 : decode cX11_layWays 72 = .ok (.if_icmp .gt 92, 3) := by decide +kernel
theorem dX11_layWays_75 : decode cX11_layWays 75 = .ok (.iconst 0, 1) := by decide +kernel
theorem dX11_layWays_76 : decode cX11_layWays 76 = .ok (.istore_n 3, 1) := by decide +kernel
theorem dX11_layWays_77 : decode cX11_layWays 77 = .ok (.iload_n 3, 1) := by decide +kernel
theorem dX11_layWays_78 : decode cX11_layWays 78 = .ok (.iload_n 2, 1) := by decide +kernel
theorem dX11_layWays_79 : decode cX11_layWays 79 = .ok (.iadd, 1) := by decide +kernel
theorem dX11_layWays_80 : decode cX11_layWays 80 = .ok (.bipush 60, 2) := by decide +kernel
theorem dX11_layWays_82 : decode cX11_layWays 82 = .ok (.if_icmp .gt 76, 3) := by decide +kernel
theorem dX11_layWays_85 : decode cX11_layWays 85 = .ok (.iconst 0, 1) := by decide +kernel
theorem dX11_layWays_86 : decode cX11_layWays 86 = .ok (.istore 4, 2) := by decide +kernel
theorem dX11_layWays_88 : decode cX11_layWays 88 = .ok (.iload 4, 2) := by decide +kernel
theorem dX11_layWays_90 : decode cX11_layWays 90 = .ok (.bipush 10, 2) := by decide +kernel
theorem dX11_layWays_92 : decode cX11_layWays 92 = .ok (.if_icmp .ge 60, 3) := by decide +kernel
theorem dX11_layWays_95 : decode cX11_layWays 95 = .ok (.aload_n 0, 1) := by decide +kernel
theorem dX11_layWays_96 : decode cX11_layWays 96 = .ok (.getfield 55, 3) := by decide +kernel
theorem dX11_layWays_99 : decode cX11_layWays 99 = .ok (.bipush 10, 2) := by decide +kernel
theorem dX11_layWays_101 : decode cX11_layWays 101 = .ok (.iload_n 3, 1) := by decide +kernel
theorem dX11_layWays_102 : decode cX11_layWays 102 = .ok (.iload_n 2, 1) := by decide +kernel
theorem dX11_layWays_103 : decode cX11_layWays 103 = .ok (.iadd, 1) := by decide +kernel
theorem dX11_layWays_104 : decode cX11_layWays 104 = .ok (.imul, 1) := by decide +kernel
theorem dX11_layWays_105 : decode cX11_layWays 105 = .ok (.iload 4, 2) := by decide +kernel
theorem dX11_layWays_107 : decode cX11_layWays 107 = .ok (.iload_n 2, 1) := by decide +kernel
theorem dX11_layWays_108 : decode cX11_layWays 108 = .ok (.iload_n 1, 1) := by decide +kernel
theorem dX11_layWays_109 : decode cX11_layWays 109 = .ok (.imul, 1) := by decide +kernel
theorem dX11_layWays_110 : decode cX11_layWays 110 = .ok (.iadd, 1) := by decide +kernel
theorem dX11_layWays_111 : decode cX11_layWays 111 = .ok (.bipush 10, 2) := by decide +kernel
theorem dX11_layWays_113 : decode cX11_layWays 113 = .ok (.irem, 1) := by decide +kernel
theorem dX11_layWays_114 : decode cX11_layWays 114 = .ok (.iadd, 1) := by decide +kernel
theorem dX11_layWays_115 : decode cX11_layWays 115 = .ok (.dup2, 1) := by decide +kernel
theorem dX11_layWays_116 : decode cX11_layWays 116 = .ok (.laload, 1) := by decide +kernel
theorem dX11_layWays_117 : decode cX11_layWays 117 = .ok (.aload_n 0, 1) := by decide +kernel
theorem dX11_layWays_118 : decode cX11_layWays 118 = .ok (.getfield 51, 3) := by decide +kernel
theorem dX11_layWays_121 : decode cX11_layWays 121 = .ok (.bipush 10, 2) := by decide +kernel
theorem dX11_layWays_123 : decode cX11_layWays 123 = .ok (.iload_n 3, 1) := by decide +kernel
theorem dX11_layWays_124 : decode cX11_layWays 124 = .ok (.imul, 1) := by decide +kernel
theorem dX11_layWays_125 : decode cX11_layWays 125 = .ok (.iload 4, 2) := by decide +kernel
theorem dX11_layWays_127 : decode cX11_layWays 127 = .ok (.iadd, 1) := by decide +kernel
theorem dX11_layWays_128 : decode cX11_layWays 128 = .ok (.laload, 1) := by decide +kernel
theorem dX11_layWays_129 : decode cX11_layWays 129 = .ok (.aload_n 0, 1) := by decide +kernel
theorem dX11_layWays_130 : decode cX11_layWays 130 = .ok (.getfield 7, 3) := by decide +kernel
theorem dX11_layWays_133 : decode cX11_layWays 133 = .ok (.bipush 37, 2) := by decide +kernel
theorem dX11_layWays_135 : decode cX11_layWays 135 = .ok (.iload_n 1, 1) := by decide +kernel
theorem dX11_layWays_136 : decode cX11_layWays 136 = .ok (.iadd, 1) := by decide +kernel
theorem dX11_layWays_137 : decode cX11_layWays 137 = .ok (.iaload, 1) := by decide +kernel
theorem dX11_layWays_138 : decode cX11_layWays 138 = .ok (.iload_n 2, 1) := by decide +kernel
theorem dX11_layWays_139 : decode cX11_layWays 139 = .ok (.invokestatic 253, 3) := by decide +kernel
theorem dX11_layWays_142 : decode cX11_layWays 142 = .ok (.i2l, 1) := by decide +kernel
theorem dX11_layWays_143 : decode cX11_layWays 143 = .ok (.lmul, 1) := by decide +kernel
theorem dX11_layWays_144 : decode cX11_layWays 144 = .ok (.ladd, 1) := by decide +kernel
theorem dX11_layWays_145 : decode cX11_layWays 145 = .ok (.lastore, 1) := by decide +kernel
theorem dX11_layWays_146 : decode cX11_layWays 146 = .ok (.iinc 4 1, 3) := by decide +kernel
theorem dX11_layWays_149 : decode cX11_layWays 149 = .ok (.goto (-61), 3) := by decide +kernel
theorem dX11_layWays_152 : decode cX11_layWays 152 = .ok (.iinc 3 1, 3) := by decide +kernel
theorem dX11_layWays_155 : decode cX11_layWays 155 = .ok (.goto (-78), 3) := by decide +kernel
theorem dX11_layWays_158 : decode cX11_layWays 158 = .ok (.iinc 2 1, 3) := by decide +kernel
theorem dX11_layWays_161 : decode cX11_layWays 161 = .ok (.goto (-99), 3) := by decide +kernel
theorem dX11_layWays_164 : decode cX11_layWays 164 = .ok (.iconst 0, 1) := by decide +kernel
theorem dX11_layWays_165 : decode cX11_layWays 165 = .ok (.istore_n 2, 1) := by decide +kernel
theorem dX11_layWays_166 : decode cX11_layWays 166 = .ok (.iload_n 2, 1) := by decide +kernel
theorem dX11_layWays_167 : decode cX11_layWays 167 = .ok (.sipush 610, 3) := by decide +kernel
theorem dX11_layWays_170 : decode cX11_layWays 170 = .ok (.if_icmp .ge 21, 3) := by decide +kernel
theorem dX11_layWays_173 : decode cX11_layWays 173 = .ok (.aload_n 0, 1) := by decide +kernel
theorem dX11_layWays_174 : decode cX11_layWays 174 = .ok (.getfield 51, 3) := by decide +kernel
theorem dX11_layWays_177 : decode cX11_layWays 177 = .ok (.iload_n 2, 1) := by decide +kernel
theorem dX11_layWays_178 : decode cX11_layWays 178 = .ok (.aload_n 0, 1) := by decide +kernel
theorem dX11_layWays_179 : decode cX11_layWays 179 = .ok (.getfield 55, 3) := by decide +kernel
theorem dX11_layWays_182 : decode cX11_layWays 182 = .ok (.iload_n 2, 1) := by decide +kernel
theorem dX11_layWays_183 : decode cX11_layWays 183 = .ok (.laload, 1) := by decide +kernel
theorem dX11_layWays_184 : decode cX11_layWays 184 = .ok (.lastore, 1) := by decide +kernel
theorem dX11_layWays_185 : decode cX11_layWays 185 = .ok (.iinc 2 1, 3) := by decide +kernel
theorem dX11_layWays_188 : decode cX11_layWays 188 = .ok (.goto (-22), 3) := by decide +kernel
theorem dX11_layWays_191 : decode cX11_layWays 191 = .ok (.iinc 1 1, 3) := by decide +kernel
theorem dX11_layWays_194 : decode cX11_layWays 194 = .ok (.goto (-162), 3) := by decide +kernel
theorem dX11_layWays_197 : decode cX11_layWays 197 = .ok (.return_, 1) := by decide +kernel
theorem dX11_tens_0 : decode cX11_tens 0 = .ok (.iload_n 1, 1) := by decide +kernel
theorem dX11_tens_1 : decode cX11_tens 1 = .ok (.i2l, 1) := by decide +kernel
theorem dX11_tens_2 : decode cX11_tens 2 = .ok (.lconst 0, 1) := by decide +kernel
theorem dX11_tens_3 : decode cX11_tens 3 = .ok (.ldc2_w 256, 3) := by decide +kernel
theorem dX11_tens_6 : decode cX11_tens 6 = .ok (.invokestatic 66, 3) := by decide +kernel
theorem dX11_tens_9 : decode cX11_tens 9 = .ok (.ifCond .ne 11, 3) := by decide +kernel
theorem dX11_tens_12 : decode cX11_tens 12 = .ok (.aload_n 0, 1) := by decide +kernel
theorem dX11_tens_13 : decode cX11_tens 13 = .ok (.bipush (-2), 2) := by decide +kernel
theorem dX11_tens_15 : decode cX11_tens 15 = .ok (.invokevirtual 103, 3) := by decide +kernel
theorem dX11_tens_18 : decode cX11_tens 18 = .ok (.i2l, 1) := by decide +kernel
theorem dX11_tens_19 : decode cX11_tens 19 = .ok (.lreturn, 1) := by decide +kernel
theorem dX11_tens_20 : decode cX11_tens 20 = .ok (.aload_n 0, 1) := by decide +kernel
theorem dX11_tens_21 : decode cX11_tens 21 = .ok (.invokevirtual 258, 3) := by decide +kernel
theorem dX11_tens_24 : decode cX11_tens 24 = .ok (.aload_n 0, 1) := by decide +kernel
theorem dX11_tens_25 : decode cX11_tens 25 = .ok (.getfield 51, 3) := by decide +kernel
theorem dX11_tens_28 : decode cX11_tens 28 = .ok (.bipush 10, 2) := by decide +kernel
theorem dX11_tens_30 : decode cX11_tens 30 = .ok (.iload_n 1, 1) := by decide +kernel
theorem dX11_tens_31 : decode cX11_tens 31 = .ok (.imul, 1) := by decide +kernel
theorem dX11_tens_32 : decode cX11_tens 32 = .ok (.laload, 1) := by decide +kernel
theorem dX11_tens_33 : decode cX11_tens 33 = .ok (.lreturn, 1) := by decide +kernel
theorem dX11_spare_0 : decode cX11_spare 0 = .ok (.aload_n 0, 1) := by decide +kernel
theorem dX11_spare_1 : decode cX11_spare 1 = .ok (.invokevirtual 258, 3) := by decide +kernel
theorem dX11_spare_4 : decode cX11_spare 4 = .ok (.iconst 0, 1) := by decide +kernel
theorem dX11_spare_5 : decode cX11_spare 5 = .ok (.istore_n 1, 1) := by decide +kernel
theorem dX11_spare_6 : decode cX11_spare 6 = .ok (.iconst 0, 1) := by decide +kernel
theorem dX11_spare_7 : decode cX11_spare 7 = .ok (.istore_n 2, 1) := by decide +kernel
theorem dX11_spare_8 : decode cX11_spare 8 = .ok (.iload_n 2, 1) := by decide +kernel
theorem dX11_spare_9 : decode cX11_spare 9 = .ok (.bipush 10, 2) := by decide +kernel
theorem dX11_spare_11 : decode cX11_spare 11 = .ok (.if_icmp .ge 21, 3) := by decide +kernel
theorem dX11_spare_14 : decode cX11_spare 14 = .ok (.iload_n 1, 1) := by decide +kernel
theorem dX11_spare_15 : decode cX11_spare 15 = .ok (.aload_n 0, 1) := by decide +kernel
theorem dX11_spare_16 : decode cX11_spare 16 = .ok (.getfield 7, 3) := by decide +kernel
theorem dX11_spare_19 : decode cX11_spare 19 = .ok (.bipush 37, 2) := by decide +kernel
theorem dX11_spare_21 : decode cX11_spare 21 = .ok (.iload_n 2, 1) := by decide +kernel
theorem dX11_spare_22 : decode cX11_spare 22 = .ok (.iadd, 1) := by decide +kernel
theorem dX11_spare_23 : decode cX11_spare 23 = .ok (.iaload, 1) := by decide +kernel
theorem dX11_spare_24 : decode cX11_spare 24 = .ok (.iadd, 1) := by decide +kernel
theorem dX11_spare_25 : decode cX11_spare 25 = .ok (.istore_n 1, 1) := by decide +kernel
theorem dX11_spare_26 : decode cX11_spare 26 = .ok (.iinc 2 1, 3) := by decide +kernel
theorem dX11_spare_29 : decode cX11_spare 29 = .ok (.goto (-21), 3) := by decide +kernel
theorem dX11_spare_32 : decode cX11_spare 32 = .ok (.iload_n 1, 1) := by decide +kernel
theorem dX11_spare_33 : decode cX11_spare 33 = .ok (.istore_n 2, 1) := by decide +kernel
theorem dX11_spare_34 : decode cX11_spare 34 = .ok (.iload_n 2, 1) := by decide +kernel
theorem dX11_spare_35 : decode cX11_spare 35 = .ok (.ifCond .le 23, 3) := by decide +kernel
theorem dX11_spare_38 : decode cX11_spare 38 = .ok (.aload_n 0, 1) := by decide +kernel
theorem dX11_spare_39 : decode cX11_spare 39 = .ok (.getfield 51, 3) := by decide +kernel
theorem dX11_spare_42 : decode cX11_spare 42 = .ok (.bipush 10, 2) := by decide +kernel
theorem dX11_spare_44 : decode cX11_spare 44 = .ok (.iload_n 2, 1) := by decide +kernel
theorem dX11_spare_45 : decode cX11_spare 45 = .ok (.imul, 1) := by decide +kernel
theorem dX11_spare_46 : decode cX11_spare 46 = .ok (.laload, 1) := by decide +kernel
theorem dX11_spare_47 : decode cX11_spare 47 = .ok (.lconst 0, 1) := by decide +kernel
theorem dX11_spare_48 : decode cX11_spare 48 = .ok (.lcmp, 1) := by decide +kernel
theorem dX11_spare_49 : decode cX11_spare 49 = .ok (.ifCond .ne 9, 3) := by decide +kernel
theorem dX11_spare_52 : decode cX11_spare 52 = .ok (.iinc 2 (-1), 3) := by decide +kernel
theorem dX11_spare_55 : decode cX11_spare 55 = .ok (.goto (-21), 3) := by decide +kernel
theorem dX11_spare_58 : decode cX11_spare 58 = .ok (.iload_n 1, 1) := by decide +kernel
theorem dX11_spare_59 : decode cX11_spare 59 = .ok (.iload_n 2, 1) := by decide +kernel
theorem dX11_spare_60 : decode cX11_spare 60 = .ok (.isub, 1) := by decide +kernel
theorem dX11_spare_61 : decode cX11_spare 61 = .ok (.ireturn, 1) := by decide +kernel
theorem dX11_passing_0 : decode cX11_passing 0 = .ok (.iload_n 1, 1) := by decide +kernel
theorem dX11_passing_1 : decode cX11_passing 1 = .ok (.i2l, 1) := by decide +kernel
theorem dX11_passing_2 : decode cX11_passing 2 = .ok (.lconst 1, 1) := by decide +kernel
theorem dX11_passing_3 : decode cX11_passing 3 = .ok (.ldc2_w 261, 3) := by decide +kernel
end
section
theorem dX11_passing_6 : decode cX11_passing 6 = .ok (.invokestatic 66, 3) := by decide +kernel
theorem dX11_passing_9 : decode cX11_passing 9 = .ok (.ifCond .eq 15, 3) := by decide +kernel
theorem dX11_passing_12 : decode cX11_passing 12 = .ok (.iload_n 2, 1) := by decide +kernel
theorem dX11_passing_13 : decode cX11_passing 13 = .ok (.i2l, 1) := by decide +kernel
theorem dX11_passing_14 : decode cX11_passing 14 = .ok (.lconst 0, 1) := by decide +kernel
theorem dX11_passing_15 : decode cX11_passing 15 = .ok (.ldc2_w 263, 3) := by decide +kernel
theorem dX11_passing_18 : decode cX11_passing 18 = .ok (.invokestatic 66, 3) := by decide +kernel
theorem dX11_passing_21 : decode cX11_passing 21 = .ok (.ifCond .ne 10, 3) := by decide +kernel
theorem dX11_passing_24 : decode cX11_passing 24 = .ok (.aload_n 0, 1) := by decide +kernel
theorem dX11_passing_25 : decode cX11_passing 25 = .ok (.bipush (-2), 2) := by decide +kernel
theorem dX11_passing_27 : decode cX11_passing 27 = .ok (.invokevirtual 103, 3) := by decide +kernel
theorem dX11_passing_30 : decode cX11_passing 30 = .ok (.ireturn, 1) := by decide +kernel
theorem dX11_passing_31 : decode cX11_passing 31 = .ok (.aload_n 0, 1) := by decide +kernel
theorem dX11_passing_32 : decode cX11_passing 32 = .ok (.getfield 7, 3) := by decide +kernel
theorem dX11_passing_35 : decode cX11_passing 35 = .ok (.iconst 3, 1) := by decide +kernel
theorem dX11_passing_36 : decode cX11_passing 36 = .ok (.iaload, 1) := by decide +kernel
theorem dX11_passing_37 : decode cX11_passing 37 = .ok (.istore 4, 2) := by decide +kernel
theorem dX11_passing_39 : decode cX11_passing 39 = .ok (.iload 4, 2) := by decide +kernel
theorem dX11_passing_41 : decode cX11_passing 41 = .ok (.bipush 10, 2) := by decide +kernel
theorem dX11_passing_43 : decode cX11_passing 43 = .ok (.if_icmp .ne 8, 3) := by decide +kernel
theorem dX11_passing_46 : decode cX11_passing 46 = .ok (.aload_n 0, 1) := by decide +kernel
theorem dX11_passing_47 : decode cX11_passing 47 = .ok (.invokevirtual 115, 3) := by decide +kernel
theorem dX11_passing_50 : decode cX11_passing 50 = .ok (.ireturn, 1) := by decide +kernel
theorem dX11_passing_51 : decode cX11_passing 51 = .ok (.aload_n 0, 1) := by decide +kernel
theorem dX11_passing_52 : decode cX11_passing 52 = .ok (.getfield 7, 3) := by decide +kernel
theorem dX11_passing_55 : decode cX11_passing 55 = .ok (.bipush 47, 2) := by decide +kernel
theorem dX11_passing_57 : decode cX11_passing 57 = .ok (.iconst 3, 1) := by decide +kernel
theorem dX11_passing_58 : decode cX11_passing 58 = .ok (.iload 4, 2) := by decide +kernel
theorem dX11_passing_60 : decode cX11_passing 60 = .ok (.imul, 1) := by decide +kernel
theorem dX11_passing_61 : decode cX11_passing 61 = .ok (.iadd, 1) := by decide +kernel
theorem dX11_passing_62 : decode cX11_passing 62 = .ok (.iload_n 1, 1) := by decide +kernel
theorem dX11_passing_63 : decode cX11_passing 63 = .ok (.iastore, 1) := by decide +kernel
theorem dX11_passing_64 : decode cX11_passing 64 = .ok (.aload_n 0, 1) := by decide +kernel
theorem dX11_passing_65 : decode cX11_passing 65 = .ok (.getfield 7, 3) := by decide +kernel
theorem dX11_passing_68 : decode cX11_passing 68 = .ok (.bipush 48, 2) := by decide +kernel
theorem dX11_passing_70 : decode cX11_passing 70 = .ok (.iconst 3, 1) := by decide +kernel
theorem dX11_passing_71 : decode cX11_passing 71 = .ok (.iload 4, 2) := by decide +kernel
theorem dX11_passing_73 : decode cX11_passing 73 = .ok (.imul, 1) := by decide +kernel
theorem dX11_passing_74 : decode cX11_passing 74 = .ok (.iadd, 1) := by decide +kernel
theorem dX11_passing_75 : decode cX11_passing 75 = .ok (.iload_n 2, 1) := by decide +kernel
theorem dX11_passing_76 : decode cX11_passing 76 = .ok (.iastore, 1) := by decide +kernel
theorem dX11_passing_77 : decode cX11_passing 77 = .ok (.aload_n 0, 1) := by decide +kernel
theorem dX11_passing_78 : decode cX11_passing 78 = .ok (.getfield 7, 3) := by decide +kernel
theorem dX11_passing_81 : decode cX11_passing 81 = .ok (.bipush 49, 2) := by decide +kernel
theorem dX11_passing_83 : decode cX11_passing 83 = .ok (.iconst 3, 1) := by decide +kernel
theorem dX11_passing_84 : decode cX11_passing 84 = .ok (.iload 4, 2) := by decide +kernel
theorem dX11_passing_86 : decode cX11_passing 86 = .ok (.imul, 1) := by decide +kernel
theorem dX11_passing_87 : decode cX11_passing 87 = .ok (.iadd, 1) := by decide +kernel
theorem dX11_passing_88 : decode cX11_passing 88 = .ok (.iload_n 3, 1) := by decide +kernel
theorem dX11_passing_89 : decode cX11_passing 89 = .ok (.ifCond .eq 7, 3) := by decide +kernel
theorem dX11_passing_92 : decode cX11_passing 92 = .ok (.iconst 1, 1) := by decide +kernel
theorem dX11_passing_93 : decode cX11_passing 93 = .ok (.goto 4, 3) := by decide +kernel
theorem dX11_passing_96 : decode cX11_passing 96 = .ok (.iconst 0, 1) := by decide +kernel
theorem dX11_passing_97 : decode cX11_passing 97 = .ok (.iastore, 1) := by decide +kernel
theorem dX11_passing_98 : decode cX11_passing 98 = .ok (.aload_n 0, 1) := by decide +kernel
theorem dX11_passing_99 : decode cX11_passing 99 = .ok (.getfield 7, 3) := by decide +kernel
theorem dX11_passing_102 : decode cX11_passing 102 = .ok (.iconst 3, 1) := by decide +kernel
theorem dX11_passing_103 : decode cX11_passing 103 = .ok (.dup2, 1) := by decide +kernel
theorem dX11_passing_104 : decode cX11_passing 104 = .ok (.iaload, 1) := by decide +kernel
theorem dX11_passing_105 : decode cX11_passing 105 = .ok (.iconst 1, 1) := by decide +kernel
theorem dX11_passing_106 : decode cX11_passing 106 = .ok (.iadd, 1) := by decide +kernel
theorem dX11_passing_107 : decode cX11_passing 107 = .ok (.iastore, 1) := by decide +kernel
theorem dX11_passing_108 : decode cX11_passing 108 = .ok (.iload 4, 2) := by decide +kernel
theorem dX11_passing_110 : decode cX11_passing 110 = .ok (.ireturn, 1) := by decide +kernel
theorem dX11_forget_0 : decode cX11_forget 0 = .ok (.aload_n 0, 1) := by decide +kernel
theorem dX11_forget_1 : decode cX11_forget 1 = .ok (.getfield 7, 3) := by decide +kernel
theorem dX11_forget_4 : decode cX11_forget 4 = .ok (.iconst 3, 1) := by decide +kernel
theorem dX11_forget_5 : decode cX11_forget 5 = .ok (.iaload, 1) := by decide +kernel
theorem dX11_forget_6 : decode cX11_forget 6 = .ok (.istore_n 1, 1) := by decide +kernel
theorem dX11_forget_7 : decode cX11_forget 7 = .ok (.aload_n 0, 1) := by decide +kernel
theorem dX11_forget_8 : decode cX11_forget 8 = .ok (.getfield 7, 3) := by decide +kernel
theorem dX11_forget_11 : decode cX11_forget 11 = .ok (.iconst 3, 1) := by decide +kernel
theorem dX11_forget_12 : decode cX11_forget 12 = .ok (.iconst 0, 1) := by decide +kernel
theorem dX11_forget_13 : decode cX11_forget 13 = .ok (.iastore, 1) := by decide +kernel
theorem dX11_forget_14 : decode cX11_forget 14 = .ok (.iload_n 1, 1) := by decide +kernel
theorem dX11_forget_15 : decode cX11_forget 15 = .ok (.ireturn, 1) := by decide +kernel
theorem dX11_liars_0 : decode cX11_liars 0 = .ok (.iload_n 1, 1) := by decide +kernel
theorem dX11_liars_1 : decode cX11_liars 1 = .ok (.i2l, 1) := by decide +kernel
theorem dX11_liars_2 : decode cX11_liars 2 = .ok (.lconst 0, 1) := by decide +kernel
theorem dX11_liars_3 : decode cX11_liars 3 = .ok (.ldc2_w 265, 3) := by decide +kernel
theorem dX11_liars_6 : decode cX11_liars 6 = .ok (.invokestatic 66, 3) := by decide +kernel
theorem dX11_liars_9 : decode cX11_liars 9 = .ok (.ifCond .ne 10, 3) := by decide +kernel
theorem dX11_liars_12 : decode cX11_liars 12 = .ok (.aload_n 0, 1) := by decide +kernel
theorem dX11_liars_13 : decode cX11_liars 13 = .ok (.bipush (-2), 2) := by decide +kernel
theorem dX11_liars_15 : decode cX11_liars 15 = .ok (.invokevirtual 103, 3) := by decide +kernel
theorem dX11_liars_18 : decode cX11_liars 18 = .ok (.ireturn, 1) := by decide +kernel
theorem dX11_liars_19 : decode cX11_liars 19 = .ok (.aload_n 0, 1) := by decide +kernel
theorem dX11_liars_20 : decode cX11_liars 20 = .ok (.getfield 7, 3) := by decide +kernel
theorem dX11_liars_23 : decode cX11_liars 23 = .ok (.iconst 4, 1) := by decide +kernel
theorem dX11_liars_24 : decode cX11_liars 24 = .ok (.iaload, 1) := by decide +kernel
theorem dX11_liars_25 : decode cX11_liars 25 = .ok (.istore_n 2, 1) := by decide +kernel
theorem dX11_liars_26 : decode cX11_liars 26 = .ok (.aload_n 0, 1) := by decide +kernel
theorem dX11_liars_27 : decode cX11_liars 27 = .ok (.getfield 7, 3) := by decide +kernel
theorem dX11_liars_30 : decode cX11_liars 30 = .ok (.iconst 4, 1) := by decide +kernel
theorem dX11_liars_31 : decode cX11_liars 31 = .ok (.iload_n 1, 1) := by decide +kernel
theorem dX11_liars_32 : decode cX11_liars 32 = .ok (.iastore, 1) := by decide +kernel
theorem dX11_liars_33 : decode cX11_liars 33 = .ok (.iload_n 2, 1) := by decide +kernel
theorem dX11_liars_34 : decode cX11_liars 34 = .ok (.ireturn, 1) := by decide +kernel
theorem dX11_figure_0 : decode cX11_figure 0 = .ok (.iload_n 0, 1) := by decide +kernel
theorem dX11_figure_1 : decode cX11_figure 1 = .ok (.istore_n 2, 1) := by decide +kernel
theorem dX11_figure_2 : decode cX11_figure 2 = .ok (.iconst 4, 1) := by decide +kernel
theorem dX11_figure_3 : decode cX11_figure 3 = .ok (.istore_n 3, 1) := by decide +kernel
theorem dX11_figure_4 : decode cX11_figure 4 = .ok (.iload_n 3, 1) := by decide +kernel
theorem dX11_figure_5 : decode cX11_figure 5 = .ok (.iload_n 1, 1) := by decide +kernel
theorem dX11_figure_6 : decode cX11_figure 6 = .ok (.if_icmp .le 14, 3) := by decide +kernel
theorem dX11_figure_9 : decode cX11_figure 9 = .ok (.iload_n 2, 1) := by decide +kernel
theorem dX11_figure_10 : decode cX11_figure 10 = .ok (.bipush 10, 2) := by decide +kernel
theorem dX11_figure_12 : decode cX11_figure 12 = .ok (.idiv, 1) := by decide +kernel
theorem dX11_figure_13 : decode cX11_figure 13 = .ok (.istore_n 2, 1) := by decide +kernel
theorem dX11_figure_14 : decode cX11_figure 14 = .ok (.iinc 3 (-1), 3) := by decide +kernel
theorem dX11_figure_17 : decode cX11_figure 17 = .ok (.goto (-13), 3) := by decide +kernel
theorem dX11_figure_20 : decode cX11_figure 20 = .ok (.iload_n 2, 1) := by decide +kernel
theorem dX11_figure_21 : decode cX11_figure 21 = .ok (.bipush 10, 2) := by decide +kernel
theorem dX11_figure_23 : decode cX11_figure 23 = .ok (.irem, 1) := by decide +kernel
theorem dX11_figure_24 : decode cX11_figure 24 = .ok (.ireturn, 1) := by decide +kernel
theorem dX11_fitsAll_0 : decode cX11_fitsAll 0 = .ok (.iconst 0, 1) := by decide +kernel
theorem dX11_fitsAll_1 : decode cX11_fitsAll 1 = .ok (.istore_n 2, 1) := by decide +kernel
theorem dX11_fitsAll_2 : decode cX11_fitsAll 2 = .ok (.iconst 0, 1) := by decide +kernel
theorem dX11_fitsAll_3 : decode cX11_fitsAll 3 = .ok (.istore_n 3, 1) := by decide +kernel
theorem dX11_fitsAll_4 : decode cX11_fitsAll 4 = .ok (.iload_n 3, 1) := by decide +kernel
theorem dX11_fitsAll_5 : decode cX11_fitsAll 5 = .ok (.aload_n 0, 1) := by decide +kernel
theorem dX11_fitsAll_6 : decode cX11_fitsAll 6 = .ok (.getfield 7, 3) := by decide +kernel
theorem dX11_fitsAll_9 : decode cX11_fitsAll 9 = .ok (.iconst 3, 1) := by decide +kernel
theorem dX11_fitsAll_10 : decode cX11_fitsAll 10 = .ok (.iaload, 1) := by decide +kernel
theorem dX11_fitsAll_11 : decode cX11_fitsAll 11 = .ok (.if_icmp .ge 106, 3) := by decide +kernel
theorem dX11_fitsAll_14 : decode cX11_fitsAll 14 = .ok (.aload_n 0, 1) := by decide +kernel
theorem dX11_fitsAll_15 : decode cX11_fitsAll 15 = .ok (.getfield 7, 3) := by decide +kernel
theorem dX11_fitsAll_18 : decode cX11_fitsAll 18 = .ok (.bipush 48, 2) := by decide +kernel
theorem dX11_fitsAll_20 : decode cX11_fitsAll 20 = .ok (.iconst 3, 1) := by decide +kernel
theorem dX11_fitsAll_21 : decode cX11_fitsAll 21 = .ok (.iload_n 3, 1) := by decide +kernel
theorem dX11_fitsAll_22 : decode cX11_fitsAll 22 = .ok (.imul, 1) := by decide +kernel
theorem dX11_fitsAll_23 : decode cX11_fitsAll 23 = .ok (.iadd, 1) := by decide +kernel
theorem dX11_fitsAll_24 : decode cX11_fitsAll 24 = .ok (.iaload, 1) := by decide +kernel
theorem dX11_fitsAll_25 : decode cX11_fitsAll 25 = .ok (.istore 4, 2) := by decide +kernel
theorem dX11_fitsAll_27 : decode cX11_fitsAll 27 = .ok (.iconst 0, 1) := by decide +kernel
theorem dX11_fitsAll_28 : decode cX11_fitsAll 28 = .ok (.istore 5, 2) := by decide +kernel
theorem dX11_fitsAll_30 : decode cX11_fitsAll 30 = .ok (.iload 5, 2) := by decide +kernel
theorem dX11_fitsAll_32 : decode cX11_fitsAll 32 = .ok (.iconst 5, 1) := by decide +kernel
theorem dX11_fitsAll_33 : decode cX11_fitsAll 33 = .ok (.if_icmp .ge 43, 3) := by decide +kernel
theorem dX11_fitsAll_36 : decode cX11_fitsAll 36 = .ok (.iload 4, 2) := by decide +kernel
theorem dX11_fitsAll_38 : decode cX11_fitsAll 38 = .ok (.aload_n 0, 1) := by decide +kernel
theorem dX11_fitsAll_39 : decode cX11_fitsAll 39 = .ok (.getfield 7, 3) := by decide +kernel
theorem dX11_fitsAll_42 : decode cX11_fitsAll 42 = .ok (.bipush 47, 2) := by decide +kernel
theorem dX11_fitsAll_44 : decode cX11_fitsAll 44 = .ok (.iconst 3, 1) := by decide +kernel
theorem dX11_fitsAll_45 : decode cX11_fitsAll 45 = .ok (.iload_n 3, 1) := by decide +kernel
theorem dX11_fitsAll_46 : decode cX11_fitsAll 46 = .ok (.imul, 1) := by decide +kernel
theorem dX11_fitsAll_47 : decode cX11_fitsAll 47 = .ok (.iadd, 1) := by decide +kernel
theorem dX11_fitsAll_48 : decode cX11_fitsAll 48 = .ok (.iaload, 1) := by decide +kernel
theorem dX11_fitsAll_49 : decode cX11_fitsAll 49 = .ok (.iload 5, 2) := by decide +kernel
theorem dX11_fitsAll_51 : decode cX11_fitsAll 51 = .ok (.invokestatic 126, 3) := by decide +kernel
theorem dX11_fitsAll_54 : decode cX11_fitsAll 54 = .ok (.ifCond .eq 12, 3) := by decide +kernel
theorem dX11_fitsAll_57 : decode cX11_fitsAll 57 = .ok (.iload_n 1, 1) := by decide +kernel
theorem dX11_fitsAll_58 : decode cX11_fitsAll 58 = .ok (.iload 5, 2) := by decide +kernel
theorem dX11_fitsAll_60 : decode cX11_fitsAll 60 = .ok (.invokestatic 267, 3) := by decide +kernel
theorem dX11_fitsAll_63 : decode cX11_fitsAll 63 = .ok (.goto 4, 3) := by decide +kernel
theorem dX11_fitsAll_66 : decode cX11_fitsAll 66 = .ok (.iconst 0, 1) := by decide +kernel
theorem dX11_fitsAll_67 : decode cX11_fitsAll 67 = .ok (.iadd, 1) := by decide +kernel
theorem dX11_fitsAll_68 : decode cX11_fitsAll 68 = .ok (.istore 4, 2) := by decide +kernel
theorem dX11_fitsAll_70 : decode cX11_fitsAll 70 = .ok (.iinc 5 1, 3) := by decide +kernel
theorem dX11_fitsAll_73 : decode cX11_fitsAll 73 = .ok (.goto (-43), 3) := by decide +kernel
theorem dX11_fitsAll_76 : decode cX11_fitsAll 76 = .ok (.iload_n 2, 1) := by decide +kernel
theorem dX11_fitsAll_77 : decode cX11_fitsAll 77 = .ok (.iload 4, 2) := by decide +kernel
theorem dX11_fitsAll_79 : decode cX11_fitsAll 79 = .ok (.bipush 10, 2) := by decide +kernel
theorem dX11_fitsAll_81 : decode cX11_fitsAll 81 = .ok (.irem, 1) := by decide +kernel
theorem dX11_fitsAll_82 : decode cX11_fitsAll 82 = .ok (.ifCond .ne 7, 3) := by decide +kernel
theorem dX11_fitsAll_85 : decode cX11_fitsAll 85 = .ok (.iconst 1, 1) := by decide +kernel
theorem dX11_fitsAll_86 : decode cX11_fitsAll 86 = .ok (.goto 4, 3) := by decide +kernel
theorem dX11_fitsAll_89 : decode cX11_fitsAll 89 = .ok (.iconst 0, 1) := by decide +kernel
theorem dX11_fitsAll_90 : decode cX11_fitsAll 90 = .ok (.aload_n 0, 1) := by decide +kernel
theorem dX11_fitsAll_91 : decode cX11_fitsAll 91 = .ok (.getfield 7, 3) := by decide +kernel
theorem dX11_fitsAll_94 : decode cX11_fitsAll 94 = .ok (.bipush 49, 2) := by decide +kernel
theorem dX11_fitsAll_96 : decode cX11_fitsAll 96 = .ok (.iconst 3, 1) := by decide +kernel
theorem dX11_fitsAll_97 : decode cX11_fitsAll 97 = .ok (.iload_n 3, 1) := by decide +kernel
theorem dX11_fitsAll_98 : decode cX11_fitsAll 98 = .ok (.imul, 1) := by decide +kernel
theorem dX11_fitsAll_99 : decode cX11_fitsAll 99 = .ok (.iadd, 1) := by decide +kernel
theorem dX11_fitsAll_100 : decode cX11_fitsAll 100 = .ok (.iaload, 1) := by decide +kernel
theorem dX11_fitsAll_101 : decode cX11_fitsAll 101 = .ok (.if_icmp .ne 7, 3) := by decide +kernel
theorem dX11_fitsAll_104 : decode cX11_fitsAll 104 = .ok (.iconst 0, 1) := by decide +kernel
theorem dX11_fitsAll_105 : decode cX11_fitsAll 105 = .ok (.goto 4, 3) := by decide +kernel
theorem dX11_fitsAll_108 : decode cX11_fitsAll 108 = .ok (.iconst 1, 1) := by decide +kernel
theorem dX11_fitsAll_109 : decode cX11_fitsAll 109 = .ok (.iadd, 1) := by decide +kernel
theorem dX11_fitsAll_110 : decode cX11_fitsAll 110 = .ok (.istore_n 2, 1) := by decide +kernel
theorem dX11_fitsAll_111 : decode cX11_fitsAll 111 = .ok (.iinc 3 1, 3) := by decide +kernel
theorem dX11_fitsAll_114 : decode cX11_fitsAll 114 = .ok (.goto (-110), 3) := by decide +kernel
theorem dX11_fitsAll_117 : decode cX11_fitsAll 117 = .ok (.iload_n 2, 1) := by decide +kernel
theorem dX11_fitsAll_118 : decode cX11_fitsAll 118 = .ok (.aload_n 0, 1) := by decide +kernel
theorem dX11_fitsAll_119 : decode cX11_fitsAll 119 = .ok (.getfield 7, 3) := by decide +kernel
theorem dX11_fitsAll_122 : decode cX11_fitsAll 122 = .ok (.iconst 4, 1) := by decide +kernel
theorem dX11_fitsAll_123 : decode cX11_fitsAll 123 = .ok (.iaload, 1) := by decide +kernel
theorem dX11_fitsAll_124 : decode cX11_fitsAll 124 = .ok (.if_icmp .gt 7, 3) := by decide +kernel
theorem dX11_fitsAll_127 : decode cX11_fitsAll 127 = .ok (.iconst 1, 1) := by decide +kernel
theorem dX11_fitsAll_128 : decode cX11_fitsAll 128 = .ok (.goto 4, 3) := by decide +kernel
theorem dX11_fitsAll_131 : decode cX11_fitsAll 131 = .ok (.iconst 0, 1) := by decide +kernel
theorem dX11_fitsAll_132 : decode cX11_fitsAll 132 = .ok (.ireturn, 1) := by decide +kernel
theorem dX11_fits_0 : decode cX11_fits 0 = .ok (.iload_n 1, 1) := by decide +kernel
theorem dX11_fits_1 : decode cX11_fits 1 = .ok (.iconst (-1), 1) := by decide +kernel
theorem dX11_fits_2 : decode cX11_fits 2 = .ok (.if_icmp .ge 10, 3) := by decide +kernel
theorem dX11_fits_5 : decode cX11_fits 5 = .ok (.aload_n 0, 1) := by decide +kernel
theorem dX11_fits_6 : decode cX11_fits 6 = .ok (.bipush (-10), 2) := by decide +kernel
theorem dX11_fits_8 : decode cX11_fits 8 = .ok (.invokevirtual 103, 3) := by decide +kernel
theorem dX11_fits_11 : decode cX11_fits 11 = .ok (.ireturn, 1) := by decide +kernel
theorem dX11_fits_12 : decode cX11_fits 12 = .ok (.iconst 0, 1) := by decide +kernel
theorem dX11_fits_13 : decode cX11_fits 13 = .ok (.istore_n 2, 1) := by decide +kernel
theorem dX11_fits_14 : decode cX11_fits 14 = .ok (.iconst 0, 1) := by decide +kernel
theorem dX11_fits_15 : decode cX11_fits 15 = .ok (.istore_n 3, 1) := by decide +kernel
theorem dX11_fits_16 : decode cX11_fits 16 = .ok (.iload_n 3, 1) := by decide +kernel
theorem dX11_fits_17 : decode cX11_fits 17 = .ok (.ldc_w 270, 3) := by decide +kernel
theorem dX11_fits_20 : decode cX11_fits 20 = .ok (.if_icmp .ge 27, 3) := by decide +kernel
theorem dX11_fits_23 : decode cX11_fits 23 = .ok (.aload_n 0, 1) := by decide +kernel
theorem dX11_fits_24 : decode cX11_fits 24 = .ok (.iload_n 3, 1) := by decide +kernel
theorem dX11_fits_25 : decode cX11_fits 25 = .ok (.invokevirtual 271, 3) := by decide +kernel
theorem dX11_fits_28 : decode cX11_fits 28 = .ok (.ifCond .eq 13, 3) := by decide +kernel
theorem dX11_fits_31 : decode cX11_fits 31 = .ok (.iload_n 2, 1) := by decide +kernel
theorem dX11_fits_32 : decode cX11_fits 32 = .ok (.iload_n 1, 1) := by decide +kernel
theorem dX11_fits_33 : decode cX11_fits 33 = .ok (.if_icmp .ne 5, 3) := by decide +kernel
theorem dX11_fits_36 : decode cX11_fits 36 = .ok (.iload_n 3, 1) := by decide +kernel
theorem dX11_fits_37 : decode cX11_fits 37 = .ok (.ireturn, 1) := by decide +kernel
theorem dX11_fits_38 : decode cX11_fits 38 = .ok (.iinc 2 1, 3) := by decide +kernel
theorem dX11_fits_41 : decode cX11_fits 41 = .ok (.iinc 3 1, 3) := by decide +kernel
theorem dX11_fits_44 : decode cX11_fits 44 = .ok (.goto (-28), 3) := by decide +kernel
theorem dX11_fits_47 : decode cX11_fits 47 = .ok (.iload_n 1, 1) := by decide +kernel
theorem dX11_fits_48 : decode cX11_fits 48 = .ok (.iconst (-1), 1) := by decide +kernel
theorem dX11_fits_49 : decode cX11_fits 49 = .ok (.if_icmp .ne 7, 3) := by decide +kernel
theorem dX11_fits_52 : decode cX11_fits 52 = .ok (.iload_n 2, 1) := by decide +kernel
theorem dX11_fits_53 : decode cX11_fits 53 = .ok (.goto 5, 3) := by decide +kernel
theorem dX11_fits_56 : decode cX11_fits 56 = .ok (.bipush (-5), 2) := by decide +kernel
theorem dX11_fits_58 : decode cX11_fits 58 = .ok (.ireturn, 1) := by decide +kernel
theorem dX11_untold_0 : decode cX11_untold 0 = .ok (.iload_n 1, 1) := by decide +kernel
theorem dX11_untold_1 : decode cX11_untold 1 = .ok (.i2l, 1) := by decide +kernel
theorem dX11_untold_2 : decode cX11_untold 2 = .ok (.lconst 0, 1) := by decide +kernel
theorem dX11_untold_3 : decode cX11_untold 3 = .ok (.ldc2_w 119, 3) := by decide +kernel
theorem dX11_untold_6 : decode cX11_untold 6 = .ok (.invokestatic 66, 3) := by decide +kernel
theorem dX11_untold_9 : decode cX11_untold 9 = .ok (.ifCond .eq 15, 3) := by decide +kernel
theorem dX11_untold_12 : decode cX11_untold 12 = .ok (.iload_n 2, 1) := by decide +kernel
theorem dX11_untold_13 : decode cX11_untold 13 = .ok (.i2l, 1) := by decide +kernel
theorem dX11_untold_14 : decode cX11_untold 14 = .ok (.lconst 0, 1) := by decide +kernel
theorem dX11_untold_15 : decode cX11_untold 15 = .ok (.ldc2_w 249, 3) := by decide +kernel
theorem dX11_untold_18 : decode cX11_untold 18 = .ok (.invokestatic 66, 3) := by decide +kernel
theorem dX11_untold_21 : decode cX11_untold 21 = .ok (.ifCond .ne 10, 3) := by decide +kernel
theorem dX11_untold_24 : decode cX11_untold 24 = .ok (.aload_n 0, 1) := by decide +kernel
theorem dX11_untold_25 : decode cX11_untold 25 = .ok (.bipush (-2), 2) := by decide +kernel
theorem dX11_untold_27 : decode cX11_untold 27 = .ok (.invokevirtual 103, 3) := by decide +kernel
theorem dX11_untold_30 : decode cX11_untold 30 = .ok (.ireturn, 1) := by decide +kernel
theorem dX11_untold_31 : decode cX11_untold 31 = .ok (.iconst 0, 1) := by decide +kernel
theorem dX11_untold_32 : decode cX11_untold 32 = .ok (.istore_n 3, 1) := by decide +kernel
theorem dX11_untold_33 : decode cX11_untold 33 = .ok (.iconst 0, 1) := by decide +kernel
theorem dX11_untold_34 : decode cX11_untold 34 = .ok (.istore 4, 2) := by decide +kernel
theorem dX11_untold_36 : decode cX11_untold 36 = .ok (.iconst 0, 1) := by decide +kernel
theorem dX11_untold_37 : decode cX11_untold 37 = .ok (.istore 5, 2) := by decide +kernel
theorem dX11_untold_39 : decode cX11_untold 39 = .ok (.iload 5, 2) := by decide +kernel
theorem dX11_untold_41 : decode cX11_untold 41 = .ok (.ldc_w 270, 3) := by decide +kernel
theorem dX11_untold_44 : decode cX11_untold 44 = .ok (.if_icmp .ge 41, 3) := by decide +kernel
theorem dX11_untold_47 : decode cX11_untold 47 = .ok (.aload_n 0, 1) := by decide +kernel
theorem dX11_untold_48 : decode cX11_untold 48 = .ok (.iload 5, 2) := by decide +kernel
theorem dX11_untold_50 : decode cX11_untold 50 = .ok (.invokevirtual 271, 3) := by decide +kernel
theorem dX11_untold_53 : decode cX11_untold 53 = .ok (.ifCond .eq 26, 3) := by decide +kernel
theorem dX11_untold_56 : decode cX11_untold 56 = .ok (.iinc 3 1, 3) := by decide +kernel
theorem dX11_untold_59 : decode cX11_untold 59 = .ok (.iload 4, 2) := by decide +kernel
theorem dX11_untold_61 : decode cX11_untold 61 = .ok (.iload 5, 2) := by decide +kernel
theorem dX11_untold_63 : decode cX11_untold 63 = .ok (.iload_n 1, 1) := by decide +kernel
theorem dX11_untold_64 : decode cX11_untold 64 = .ok (.invokestatic 267, 3) := by decide +kernel
theorem dX11_untold_67 : decode cX11_untold 67 = .ok (.iload_n 2, 1) := by decide +kernel
theorem dX11_untold_68 : decode cX11_untold 68 = .ok (.if_icmp .ne 7, 3) := by decide +kernel
theorem dX11_untold_71 : decode cX11_untold 71 = .ok (.iconst 1, 1) := by decide +kernel
theorem dX11_untold_72 : decode cX11_untold 72 = .ok (.goto 4, 3) := by decide +kernel
theorem dX11_untold_75 : decode cX11_untold 75 = .ok (.iconst 0, 1) := by decide +kernel
theorem dX11_untold_76 : decode cX11_untold 76 = .ok (.iadd, 1) := by decide +kernel
theorem dX11_untold_77 : decode cX11_untold 77 = .ok (.istore 4, 2) := by decide +kernel
theorem dX11_untold_79 : decode cX11_untold 79 = .ok (.iinc 5 1, 3) := by decide +kernel
theorem dX11_untold_82 : decode cX11_untold 82 = .ok (.goto (-43), 3) := by decide +kernel
theorem dX11_untold_85 : decode cX11_untold 85 = .ok (.iload_n 3, 1) := by decide +kernel
theorem dX11_untold_86 : decode cX11_untold 86 = .ok (.ifCond .ne 8, 3) := by decide +kernel
theorem dX11_untold_89 : decode cX11_untold 89 = .ok (.aload_n 0, 1) := by decide +kernel
theorem dX11_untold_90 : decode cX11_untold 90 = .ok (.invokevirtual 130, 3) := by decide +kernel
theorem dX11_untold_93 : decode cX11_untold 93 = .ok (.ireturn, 1) := by decide +kernel
theorem dX11_untold_94 : decode cX11_untold 94 = .ok (.iload 4, 2) := by decide +kernel
theorem dX11_untold_96 : decode cX11_untold 96 = .ok (.istore 5, 2) := by decide +kernel
theorem dX11_untold_98 : decode cX11_untold 98 = .ok (.iload_n 3, 1) := by decide +kernel
theorem dX11_untold_99 : decode cX11_untold 99 = .ok (.istore 6, 2) := by decide +kernel
theorem dX11_untold_101 : decode cX11_untold 101 = .ok (.iload 6, 2) := by decide +kernel
theorem dX11_untold_103 : decode cX11_untold 103 = .ok (.ifCond .eq 21, 3) := by decide +kernel
theorem dX11_untold_106 : decode cX11_untold 106 = .ok (.iload 5, 2) := by decide +kernel
theorem dX11_untold_108 : decode cX11_untold 108 = .ok (.iload 6, 2) := by decide +kernel
theorem dX11_untold_110 : decode cX11_untold 110 = .ok (.irem, 1) := by decide +kernel
theorem dX11_untold_111 : decode cX11_untold 111 = .ok (.istore 7, 2) := by decide +kernel
theorem dX11_untold_113 : decode cX11_untold 113 = .ok (.iload 6, 2) := by decide +kernel
theorem dX11_untold_115 : decode cX11_untold 115 = .ok (.istore 5, 2) := by decide +kernel
theorem dX11_untold_117 : decode cX11_untold 117 = .ok (.iload 7, 2) := by decide +kernel
theorem dX11_untold_119 : decode cX11_untold 119 = .ok (.istore 6, 2) := by decide +kernel
theorem dX11_untold_121 : decode cX11_untold 121 = .ok (.goto (-20), 3) := by decide +kernel
theorem dX11_untold_124 : decode cX11_untold 124 = .ok (.aload_n 0, 1) := by decide +kernel
theorem dX11_untold_125 : decode cX11_untold 125 = .ok (.iload 4, 2) := by decide +kernel
theorem dX11_untold_127 : decode cX11_untold 127 = .ok (.iload 5, 2) := by decide +kernel
theorem dX11_untold_129 : decode cX11_untold 129 = .ok (.idiv, 1) := by decide +kernel
theorem dX11_untold_130 : decode cX11_untold 130 = .ok (.i2l, 1) := by decide +kernel
theorem dX11_untold_131 : decode cX11_untold 131 = .ok (.putfield 274, 3) := by decide +kernel
theorem dX11_untold_134 : decode cX11_untold 134 = .ok (.aload_n 0, 1) := by decide +kernel
theorem dX11_untold_135 : decode cX11_untold 135 = .ok (.iload_n 3, 1) := by decide +kernel
theorem dX11_untold_136 : decode cX11_untold 136 = .ok (.iload 5, 2) := by decide +kernel
theorem dX11_untold_138 : decode cX11_untold 138 = .ok (.idiv, 1) := by decide +kernel
theorem dX11_untold_139 : decode cX11_untold 139 = .ok (.i2l, 1) := by decide +kernel
theorem dX11_untold_140 : decode cX11_untold 140 = .ok (.putfield 19, 3) := by decide +kernel
theorem dX11_untold_143 : decode cX11_untold 143 = .ok (.iconst 1, 1) := by decide +kernel
theorem dX11_untold_144 : decode cX11_untold 144 = .ok (.ireturn, 1) := by decide +kernel
theorem dX11_part_0 : decode cX11_part 0 = .ok (.iload_n 1, 1) := by decide +kernel
theorem dX11_part_1 : decode cX11_part 1 = .ok (.i2l, 1) := by decide +kernel
theorem dX11_part_2 : decode cX11_part 2 = .ok (.lconst 0, 1) := by decide +kernel
theorem dX11_part_3 : decode cX11_part 3 = .ok (.lconst 1, 1) := by decide +kernel
theorem dX11_part_4 : decode cX11_part 4 = .ok (.invokestatic 66, 3) := by decide +kernel
theorem dX11_part_7 : decode cX11_part 7 = .ok (.ifCond .eq 22, 3) := by decide +kernel
theorem dX11_part_10 : decode cX11_part 10 = .ok (.iload_n 1, 1) := by decide +kernel
theorem dX11_part_11 : decode cX11_part 11 = .ok (.ifCond .ne 10, 3) := by decide +kernel
theorem dX11_part_14 : decode cX11_part 14 = .ok (.aload_n 0, 1) := by decide +kernel
theorem dX11_part_15 : decode cX11_part 15 = .ok (.getfield 274, 3) := by decide +kernel
theorem dX11_part_18 : decode cX11_part 18 = .ok (.goto 7, 3) := by decide +kernel
theorem dX11_part_21 : decode cX11_part 21 = .ok (.aload_n 0, 1) := by decide +kernel
theorem dX11_part_22 : decode cX11_part 22 = .ok (.getfield 19, 3) := by decide +kernel
theorem dX11_part_25 : decode cX11_part 25 = .ok (.l2i, 1) := by decide +kernel
theorem dX11_part_26 : decode cX11_part 26 = .ok (.goto 9, 3) := by decide +kernel
theorem dX11_part_29 : decode cX11_part 29 = .ok (.aload_n 0, 1) := by decide +kernel
theorem dX11_part_30 : decode cX11_part 30 = .ok (.bipush (-2), 2) := by decide +kernel
theorem dX11_part_32 : decode cX11_part 32 = .ok (.invokevirtual 103, 3) := by decide +kernel
theorem dX11_part_35 : decode cX11_part 35 = .ok (.ireturn, 1) := by decide +kernel
theorem dX11_image_0 : decode cX11_image 0 = .ok (.iload_n 1, 1) := by decide +kernel
theorem dX11_image_1 : decode cX11_image 1 = .ok (.i2l, 1) := by decide +kernel
theorem dX11_image_2 : decode cX11_image 2 = .ok (.lconst 0, 1) := by decide +kernel
theorem dX11_image_3 : decode cX11_image 3 = .ok (.lconst 1, 1) := by decide +kernel
theorem dX11_image_4 : decode cX11_image 4 = .ok (.invokestatic 66, 3) := by decide +kernel
theorem dX11_image_7 : decode cX11_image 7 = .ok (.ifCond .ne 10, 3) := by decide +kernel
theorem dX11_image_10 : decode cX11_image 10 = .ok (.aload_n 0, 1) := by decide +kernel
theorem dX11_image_11 : decode cX11_image 11 = .ok (.bipush (-2), 2) := by decide +kernel
theorem dX11_image_13 : decode cX11_image 13 = .ok (.invokevirtual 103, 3) := by decide +kernel
theorem dX11_image_16 : decode cX11_image 16 = .ok (.ireturn, 1) := by decide +kernel
theorem dX11_image_17 : decode cX11_image 17 = .ok (.iconst 0, 1) := by decide +kernel
theorem dX11_image_18 : decode cX11_image 18 = .ok (.istore_n 2, 1) := by decide +kernel
theorem dX11_image_19 : decode cX11_image 19 = .ok (.iload_n 2, 1) := by decide +kernel
theorem dX11_image_20 : decode cX11_image 20 = .ok (.sipush 277, 3) := by decide +kernel
theorem dX11_image_23 : decode cX11_image 23 = .ok (.if_icmp .ge 60, 3) := by decide +kernel
theorem dX11_image_26 : decode cX11_image 26 = .ok (.aload_n 0, 1) := by decide +kernel
theorem dX11_image_27 : decode cX11_image 27 = .ok (.getfield 13, 3) := by decide +kernel
theorem dX11_image_30 : decode cX11_image 30 = .ok (.iload_n 2, 1) := by decide +kernel
theorem dX11_image_31 : decode cX11_image 31 = .ok (.iload_n 1, 1) := by decide +kernel
theorem dX11_image_32 : decode cX11_image 32 = .ok (.ifCond .ne 12, 3) := by decide +kernel
theorem dX11_image_35 : decode cX11_image 35 = .ok (.aload_n 0, 1) := by decide +kernel
theorem dX11_image_36 : decode cX11_image 36 = .ok (.getfield 7, 3) := by decide +kernel
theorem dX11_image_39 : decode cX11_image 39 = .ok (.iload_n 2, 1) := by decide +kernel
theorem dX11_image_40 : decode cX11_image 40 = .ok (.iaload, 1) := by decide +kernel
theorem dX11_image_41 : decode cX11_image 41 = .ok (.goto 9, 3) := by decide +kernel
theorem dX11_image_44 : decode cX11_image 44 = .ok (.aload_n 0, 1) := by decide +kernel
theorem dX11_image_45 : decode cX11_image 45 = .ok (.getfield 13, 3) := by decide +kernel
theorem dX11_image_48 : decode cX11_image 48 = .ok (.iload_n 2, 1) := by decide +kernel
theorem dX11_image_49 : decode cX11_image 49 = .ok (.iaload, 1) := by decide +kernel
theorem dX11_image_50 : decode cX11_image 50 = .ok (.iastore, 1) := by decide +kernel
theorem dX11_image_51 : decode cX11_image 51 = .ok (.aload_n 0, 1) := by decide +kernel
theorem dX11_image_52 : decode cX11_image 52 = .ok (.getfield 16, 3) := by decide +kernel
theorem dX11_image_55 : decode cX11_image 55 = .ok (.iload_n 2, 1) := by decide +kernel
theorem dX11_image_56 : decode cX11_image 56 = .ok (.iload_n 1, 1) := by decide +kernel
theorem dX11_image_57 : decode cX11_image 57 = .ok (.iconst 1, 1) := by decide +kernel
theorem dX11_image_58 : decode cX11_image 58 = .ok (.if_icmp .ne 12, 3) := by decide +kernel
theorem dX11_image_61 : decode cX11_image 61 = .ok (.aload_n 0, 1) := by decide +kernel
theorem dX11_image_62 : decode cX11_image 62 = .ok (.getfield 7, 3) := by decide +kernel
theorem dX11_image_65 : decode cX11_image 65 = .ok (.iload_n 2, 1) := by decide +kernel
theorem dX11_image_66 : decode cX11_image 66 = .ok (.iaload, 1) := by decide +kernel
theorem dX11_image_67 : decode cX11_image 67 = .ok (.goto 9, 3) := by decide +kernel
theorem dX11_image_70 : decode cX11_image 70 = .ok (.aload_n 0, 1) := by decide +kernel
theorem dX11_image_71 : decode cX11_image 71 = .ok (.getfield 16, 3) := by decide +kernel
theorem dX11_image_74 : decode cX11_image 74 = .ok (.iload_n 2, 1) := by decide +kernel
theorem dX11_image_75 : decode cX11_image 75 = .ok (.iaload, 1) := by decide +kernel
theorem dX11_image_76 : decode cX11_image 76 = .ok (.iastore, 1) := by decide +kernel
theorem dX11_image_77 : decode cX11_image 77 = .ok (.iinc 2 1, 3) := by decide +kernel
theorem dX11_image_80 : decode cX11_image 80 = .ok (.goto (-61), 3) := by decide +kernel
theorem dX11_image_83 : decode cX11_image 83 = .ok (.aload_n 0, 1) := by decide +kernel
theorem dX11_image_84 : decode cX11_image 84 = .ok (.aload_n 0, 1) := by decide +kernel
theorem dX11_image_85 : decode cX11_image 85 = .ok (.getfield 277, 3) := by decide +kernel
theorem dX11_image_88 : decode cX11_image 88 = .ok (.ifCond .ne 7, 3) := by decide +kernel
theorem dX11_image_91 : decode cX11_image 91 = .ok (.iload_n 1, 1) := by decide +kernel
theorem dX11_image_92 : decode cX11_image 92 = .ok (.ifCond .ne 7, 3) := by decide +kernel
theorem dX11_image_95 : decode cX11_image 95 = .ok (.iconst 1, 1) := by decide +kernel
theorem dX11_image_96 : decode cX11_image 96 = .ok (.goto 4, 3) := by decide +kernel
theorem dX11_image_99 : decode cX11_image 99 = .ok (.iconst 0, 1) := by decide +kernel
theorem dX11_image_100 : decode cX11_image 100 = .ok (.putfield 277, 3) := by decide +kernel
theorem dX11_image_103 : decode cX11_image 103 = .ok (.aload_n 0, 1) := by decide +kernel
theorem dX11_image_104 : decode cX11_image 104 = .ok (.aload_n 0, 1) := by decide +kernel
theorem dX11_image_105 : decode cX11_image 105 = .ok (.getfield 281, 3) := by decide +kernel
theorem dX11_image_108 : decode cX11_image 108 = .ok (.ifCond .ne 8, 3) := by decide +kernel
theorem dX11_image_111 : decode cX11_image 111 = .ok (.iload_n 1, 1) := by decide +kernel
theorem dX11_image_112 : decode cX11_image 112 = .ok (.iconst 1, 1) := by decide +kernel
theorem dX11_image_113 : decode cX11_image 113 = .ok (.if_icmp .ne 7, 3) := by decide +kernel
theorem dX11_image_116 : decode cX11_image 116 = .ok (.iconst 1, 1) := by decide +kernel
theorem dX11_image_117 : decode cX11_image 117 = .ok (.goto 4, 3) := by decide +kernel
theorem dX11_image_120 : decode cX11_image 120 = .ok (.iconst 0, 1) := by decide +kernel
theorem dX11_image_121 : decode cX11_image 121 = .ok (.putfield 281, 3) := by decide +kernel
theorem dX11_image_124 : decode cX11_image 124 = .ok (.iconst 1, 1) := by decide +kernel
theorem dX11_image_125 : decode cX11_image 125 = .ok (.ireturn, 1) := by decide +kernel
theorem dX11_from_0 : decode cX11_from 0 = .ok (.iload_n 1, 1) := by decide +kernel
theorem dX11_from_1 : decode cX11_from 1 = .ok (.i2l, 1) := by decide +kernel
theorem dX11_from_2 : decode cX11_from 2 = .ok (.lconst 0, 1) := by decide +kernel
theorem dX11_from_3 : decode cX11_from 3 = .ok (.lconst 1, 1) := by decide +kernel
theorem dX11_from_4 : decode cX11_from 4 = .ok (.invokestatic 66, 3) := by decide +kernel
theorem dX11_from_7 : decode cX11_from 7 = .ok (.ifCond .ne 10, 3) := by decide +kernel
theorem dX11_from_10 : decode cX11_from 10 = .ok (.aload_n 0, 1) := by decide +kernel
theorem dX11_from_11 : decode cX11_from 11 = .ok (.bipush (-2), 2) := by decide +kernel
theorem dX11_from_13 : decode cX11_from 13 = .ok (.invokevirtual 103, 3) := by decide +kernel
theorem dX11_from_16 : decode cX11_from 16 = .ok (.ireturn, 1) := by decide +kernel
theorem dX11_from_17 : decode cX11_from 17 = .ok (.iload_n 1, 1) := by decide +kernel
theorem dX11_from_18 : decode cX11_from 18 = .ok (.ifCond .ne 13, 3) := by decide +kernel
theorem dX11_from_21 : decode cX11_from 21 = .ok (.aload_n 0, 1) := by decide +kernel
theorem dX11_from_22 : decode cX11_from 22 = .ok (.getfield 277, 3) := by decide +kernel
theorem dX11_from_25 : decode cX11_from 25 = .ok (.ifCond .ne 18, 3) := by decide +kernel
theorem dX11_from_28 : decode cX11_from 28 = .ok (.goto 10, 3) := by decide +kernel
theorem dX11_from_31 : decode cX11_from 31 = .ok (.aload_n 0, 1) := by decide +kernel
theorem dX11_from_32 : decode cX11_from 32 = .ok (.getfield 281, 3) := by decide +kernel
theorem dX11_from_35 : decode cX11_from 35 = .ok (.ifCond .ne 8, 3) := by decide +kernel
theorem dX11_from_38 : decode cX11_from 38 = .ok (.aload_n 0, 1) := by decide +kernel
theorem dX11_from_39 : decode cX11_from 39 = .ok (.invokevirtual 130, 3) := by decide +kernel
theorem dX11_from_42 : decode cX11_from 42 = .ok (.ireturn, 1) := by decide +kernel
theorem dX11_from_43 : decode cX11_from 43 = .ok (.iconst 0, 1) := by decide +kernel
theorem dX11_from_44 : decode cX11_from 44 = .ok (.istore_n 2, 1) := by decide +kernel
theorem dX11_from_45 : decode cX11_from 45 = .ok (.iload_n 2, 1) := by decide +kernel
theorem dX11_from_46 : decode cX11_from 46 = .ok (.sipush 277, 3) := by decide +kernel
theorem dX11_from_49 : decode cX11_from 49 = .ok (.if_icmp .ge 34, 3) := by decide +kernel
theorem dX11_from_52 : decode cX11_from 52 = .ok (.aload_n 0, 1) := by decide +kernel
theorem dX11_from_53 : decode cX11_from 53 = .ok (.getfield 7, 3) := by decide +kernel
theorem dX11_from_56 : decode cX11_from 56 = .ok (.iload_n 2, 1) := by decide +kernel
theorem dX11_from_57 : decode cX11_from 57 = .ok (.iload_n 1, 1) := by decide +kernel
theorem dX11_from_58 : decode cX11_from 58 = .ok (.ifCond .ne 12, 3) := by decide +kernel
theorem dX11_from_61 : decode cX11_from 61 = .ok (.aload_n 0, 1) := by decide +kernel
theorem dX11_from_62 : decode cX11_from 62 = .ok (.getfield 13, 3) := by decide +kernel
theorem dX11_from_65 : decode cX11_from 65 = .ok (.iload_n 2, 1) := by decide +kernel
theorem dX11_from_66 : decode cX11_from 66 = .ok (.iaload, 1) := by decide +kernel
theorem dX11_from_67 : decode cX11_from 67 = .ok (.goto 9, 3) := by decide +kernel
theorem dX11_from_70 : decode cX11_from 70 = .ok (.aload_n 0, 1) := by decide +kernel
theorem dX11_from_71 : decode cX11_from 71 = .ok (.getfield 16, 3) := by decide +kernel
theorem dX11_from_74 : decode cX11_from 74 = .ok (.iload_n 2, 1) := by decide +kernel
theorem dX11_from_75 : decode cX11_from 75 = .ok (.iaload, 1) := by decide +kernel
theorem dX11_from_76 : decode cX11_from 76 = .ok (.iastore, 1) := by decide +kernel
theorem dX11_from_77 : decode cX11_from 77 = .ok (.iinc 2 1, 3) := by decide +kernel
theorem dX11_from_80 : decode cX11_from 80 = .ok (.goto (-35), 3) := by decide +kernel
theorem dX11_from_83 : decode cX11_from 83 = .ok (.iconst 1, 1) := by decide +kernel
theorem dX11_from_84 : decode cX11_from 84 = .ok (.ireturn, 1) := by decide +kernel
theorem dX11_status_0 : decode cX11_status 0 = .ok (.iload_n 1, 1) := by decide +kernel
theorem dX11_status_1 : decode cX11_status 1 = .ok (.i2l, 1) := by decide +kernel
theorem dX11_status_2 : decode cX11_status 2 = .ok (.lconst 0, 1) := by decide +kernel
theorem dX11_status_3 : decode cX11_status 3 = .ok (.ldc2_w 109, 3) := by decide +kernel
theorem dX11_status_6 : decode cX11_status 6 = .ok (.invokestatic 66, 3) := by decide +kernel
theorem dX11_status_9 : decode cX11_status 9 = .ok (.ifCond .eq 12, 3) := by decide +kernel
theorem dX11_status_12 : decode cX11_status 12 = .ok (.aload_n 0, 1) := by decide +kernel
theorem dX11_status_13 : decode cX11_status 13 = .ok (.getfield 23, 3) := by decide +kernel
theorem dX11_status_16 : decode cX11_status 16 = .ok (.iload_n 1, 1) := by decide +kernel
theorem dX11_status_17 : decode cX11_status 17 = .ok (.iaload, 1) := by decide +kernel
theorem dX11_status_18 : decode cX11_status 18 = .ok (.goto 8, 3) := by decide +kernel
theorem dX11_status_21 : decode cX11_status 21 = .ok (.aload_n 0, 1) := by decide +kernel
theorem dX11_status_22 : decode cX11_status 22 = .ok (.iconst (-1), 1) := by decide +kernel
theorem dX11_status_23 : decode cX11_status 23 = .ok (.invokevirtual 103, 3) := by decide +kernel
theorem dX11_status_26 : decode cX11_status 26 = .ok (.ireturn, 1) := by decide +kernel
theorem dX11_count_0 : decode cX11_count 0 = .ok (.iload_n 1, 1) := by decide +kernel
theorem dX11_count_1 : decode cX11_count 1 = .ok (.i2l, 1) := by decide +kernel
theorem dX11_count_2 : decode cX11_count 2 = .ok (.lconst 0, 1) := by decide +kernel
theorem dX11_count_3 : decode cX11_count 3 = .ok (.ldc2_w 265, 3) := by decide +kernel
theorem dX11_count_6 : decode cX11_count 6 = .ok (.invokestatic 66, 3) := by decide +kernel
theorem dX11_count_9 : decode cX11_count 9 = .ok (.ifCond .eq 12, 3) := by decide +kernel
theorem dX11_count_12 : decode cX11_count 12 = .ok (.aload_n 0, 1) := by decide +kernel
theorem dX11_count_13 : decode cX11_count 13 = .ok (.getfield 7, 3) := by decide +kernel
theorem dX11_count_16 : decode cX11_count 16 = .ok (.iload_n 1, 1) := by decide +kernel
theorem dX11_count_17 : decode cX11_count 17 = .ok (.iaload, 1) := by decide +kernel
theorem dX11_count_18 : decode cX11_count 18 = .ok (.goto 9, 3) := by decide +kernel
theorem dX11_count_21 : decode cX11_count 21 = .ok (.aload_n 0, 1) := by decide +kernel
theorem dX11_count_22 : decode cX11_count 22 = .ok (.bipush (-2), 2) := by decide +kernel
theorem dX11_count_24 : decode cX11_count 24 = .ok (.invokevirtual 103, 3) := by decide +kernel
theorem dX11_count_27 : decode cX11_count 27 = .ok (.ireturn, 1) := by decide +kernel
theorem dX11_digest_0 : decode cX11_digest 0 = .ok (.ldc2_w 284, 3) := by decide +kernel
theorem dX11_digest_3 : decode cX11_digest 3 = .ok (.lstore_n 1, 1) := by decide +kernel
theorem dX11_digest_4 : decode cX11_digest 4 = .ok (.iconst 0, 1) := by decide +kernel
theorem dX11_digest_5 : decode cX11_digest 5 = .ok (.istore_n 3, 1) := by decide +kernel
theorem dX11_digest_6 : decode cX11_digest 6 = .ok (.iload_n 3, 1) := by decide +kernel
theorem dX11_digest_7 : decode cX11_digest 7 = .ok (.iconst 4, 1) := by decide +kernel
theorem dX11_digest_8 : decode cX11_digest 8 = .ok (.if_icmp .ge 23, 3) := by decide +kernel
theorem dX11_digest_11 : decode cX11_digest 11 = .ok (.ldc2_w 261, 3) := by decide +kernel
theorem dX11_digest_14 : decode cX11_digest 14 = .ok (.lload_n 1, 1) := by decide +kernel
theorem dX11_digest_15 : decode cX11_digest 15 = .ok (.lmul, 1) := by decide +kernel
theorem dX11_digest_16 : decode cX11_digest 16 = .ok (.aload_n 0, 1) := by decide +kernel
theorem dX11_digest_17 : decode cX11_digest 17 = .ok (.getfield 7, 3) := by decide +kernel
theorem dX11_digest_20 : decode cX11_digest 20 = .ok (.iload_n 3, 1) := by decide +kernel
theorem dX11_digest_21 : decode cX11_digest 21 = .ok (.iaload, 1) := by decide +kernel
theorem dX11_digest_22 : decode cX11_digest 22 = .ok (.i2l, 1) := by decide +kernel
theorem dX11_digest_23 : decode cX11_digest 23 = .ok (.ladd, 1) := by decide +kernel
theorem dX11_digest_24 : decode cX11_digest 24 = .ok (.lstore_n 1, 1) := by decide +kernel
theorem dX11_digest_25 : decode cX11_digest 25 = .ok (.iinc 3 1, 3) := by decide +kernel
theorem dX11_digest_28 : decode cX11_digest 28 = .ok (.goto (-22), 3) := by decide +kernel
theorem dX11_digest_31 : decode cX11_digest 31 = .ok (.iconst 0, 1) := by decide +kernel
theorem dX11_digest_32 : decode cX11_digest 32 = .ok (.istore_n 3, 1) := by decide +kernel
theorem dX11_digest_33 : decode cX11_digest 33 = .ok (.iload_n 3, 1) := by decide +kernel
theorem dX11_digest_34 : decode cX11_digest 34 = .ok (.aload_n 0, 1) := by decide +kernel
theorem dX11_digest_35 : decode cX11_digest 35 = .ok (.getfield 7, 3) := by decide +kernel
theorem dX11_digest_38 : decode cX11_digest 38 = .ok (.iconst 0, 1) := by decide +kernel
theorem dX11_digest_39 : decode cX11_digest 39 = .ok (.iaload, 1) := by decide +kernel
theorem dX11_digest_40 : decode cX11_digest 40 = .ok (.if_icmp .ge 59, 3) := by decide +kernel
theorem dX11_digest_43 : decode cX11_digest 43 = .ok (.ldc2_w 261, 3) := by decide +kernel
theorem dX11_digest_46 : decode cX11_digest 46 = .ok (.lload_n 1, 1) := by decide +kernel
theorem dX11_digest_47 : decode cX11_digest 47 = .ok (.lmul, 1) := by decide +kernel
theorem dX11_digest_48 : decode cX11_digest 48 = .ok (.aload_n 0, 1) := by decide +kernel
theorem dX11_digest_49 : decode cX11_digest 49 = .ok (.getfield 7, 3) := by decide +kernel
theorem dX11_digest_52 : decode cX11_digest 52 = .ok (.iconst 5, 1) := by decide +kernel
theorem dX11_digest_53 : decode cX11_digest 53 = .ok (.iload_n 3, 1) := by decide +kernel
theorem dX11_digest_54 : decode cX11_digest 54 = .ok (.iadd, 1) := by decide +kernel
theorem dX11_digest_55 : decode cX11_digest 55 = .ok (.iaload, 1) := by decide +kernel
theorem dX11_digest_56 : decode cX11_digest 56 = .ok (.i2l, 1) := by decide +kernel
theorem dX11_digest_57 : decode cX11_digest 57 = .ok (.ladd, 1) := by decide +kernel
theorem dX11_digest_58 : decode cX11_digest 58 = .ok (.lstore_n 1, 1) := by decide +kernel
theorem dX11_digest_59 : decode cX11_digest 59 = .ok (.ldc2_w 261, 3) := by decide +kernel
theorem dX11_digest_62 : decode cX11_digest 62 = .ok (.lload_n 1, 1) := by decide +kernel
theorem dX11_digest_63 : decode cX11_digest 63 = .ok (.lmul, 1) := by decide +kernel
theorem dX11_digest_64 : decode cX11_digest 64 = .ok (.aload_n 0, 1) := by decide +kernel
theorem dX11_digest_65 : decode cX11_digest 65 = .ok (.getfield 7, 3) := by decide +kernel
theorem dX11_digest_68 : decode cX11_digest 68 = .ok (.bipush 13, 2) := by decide +kernel
theorem dX11_digest_70 : decode cX11_digest 70 = .ok (.iload_n 3, 1) := by decide +kernel
theorem dX11_digest_71 : decode cX11_digest 71 = .ok (.iadd, 1) := by decide +kernel
theorem dX11_digest_72 : decode cX11_digest 72 = .ok (.iaload, 1) := by decide +kernel
theorem dX11_digest_73 : decode cX11_digest 73 = .ok (.i2l, 1) := by decide +kernel
theorem dX11_digest_74 : decode cX11_digest 74 = .ok (.ladd, 1) := by decide +kernel
theorem dX11_digest_75 : decode cX11_digest 75 = .ok (.lstore_n 1, 1) := by decide +kernel
theorem dX11_digest_76 : decode cX11_digest 76 = .ok (.ldc2_w 261, 3) := by decide +kernel
theorem dX11_digest_79 : decode cX11_digest 79 = .ok (.lload_n 1, 1) := by decide +kernel
theorem dX11_digest_80 : decode cX11_digest 80 = .ok (.lmul, 1) := by decide +kernel
theorem dX11_digest_81 : decode cX11_digest 81 = .ok (.aload_n 0, 1) := by decide +kernel
theorem dX11_digest_82 : decode cX11_digest 82 = .ok (.getfield 7, 3) := by decide +kernel
theorem dX11_digest_85 : decode cX11_digest 85 = .ok (.bipush 21, 2) := by decide +kernel
theorem dX11_digest_87 : decode cX11_digest 87 = .ok (.iload_n 3, 1) := by decide +kernel
theorem dX11_digest_88 : decode cX11_digest 88 = .ok (.iadd, 1) := by decide +kernel
theorem dX11_digest_89 : decode cX11_digest 89 = .ok (.iaload, 1) := by decide +kernel
theorem dX11_digest_90 : decode cX11_digest 90 = .ok (.i2l, 1) := by decide +kernel
theorem dX11_digest_91 : decode cX11_digest 91 = .ok (.ladd, 1) := by decide +kernel
theorem dX11_digest_92 : decode cX11_digest 92 = .ok (.lstore_n 1, 1) := by decide +kernel
theorem dX11_digest_93 : decode cX11_digest 93 = .ok (.iinc 3 1, 3) := by decide +kernel
theorem dX11_digest_96 : decode cX11_digest 96 = .ok (.goto (-63), 3) := by decide +kernel
theorem dX11_digest_99 : decode cX11_digest 99 = .ok (.iconst 0, 1) := by decide +kernel
theorem dX11_digest_100 : decode cX11_digest 100 = .ok (.istore_n 3, 1) := by decide +kernel
theorem dX11_digest_101 : decode cX11_digest 101 = .ok (.iload_n 3, 1) := by decide +kernel
theorem dX11_digest_102 : decode cX11_digest 102 = .ok (.aload_n 0, 1) := by decide +kernel
theorem dX11_digest_103 : decode cX11_digest 103 = .ok (.getfield 7, 3) := by decide +kernel
theorem dX11_digest_106 : decode cX11_digest 106 = .ok (.iconst 1, 1) := by decide +kernel
theorem dX11_digest_107 : decode cX11_digest 107 = .ok (.iaload, 1) := by decide +kernel
theorem dX11_digest_108 : decode cX11_digest 108 = .ok (.if_icmp .ge 43, 3) := by decide +kernel
theorem dX11_digest_111 : decode cX11_digest 111 = .ok (.ldc2_w 261, 3) := by decide +kernel
theorem dX11_digest_114 : decode cX11_digest 114 = .ok (.lload_n 1, 1) := by decide +kernel
theorem dX11_digest_115 : decode cX11_digest 115 = .ok (.lmul, 1) := by decide +kernel
theorem dX11_digest_116 : decode cX11_digest 116 = .ok (.aload_n 0, 1) := by decide +kernel
theorem dX11_digest_117 : decode cX11_digest 117 = .ok (.getfield 7, 3) := by decide +kernel
theorem dX11_digest_120 : decode cX11_digest 120 = .ok (.bipush 29, 2) := by decide +kernel
theorem dX11_digest_122 : decode cX11_digest 122 = .ok (.iload_n 3, 1) := by decide +kernel
theorem dX11_digest_123 : decode cX11_digest 123 = .ok (.iadd, 1) := by decide +kernel
theorem dX11_digest_124 : decode cX11_digest 124 = .ok (.iaload, 1) := by decide +kernel
theorem dX11_digest_125 : decode cX11_digest 125 = .ok (.i2l, 1) := by decide +kernel
theorem dX11_digest_126 : decode cX11_digest 126 = .ok (.ladd, 1) := by decide +kernel
theorem dX11_digest_127 : decode cX11_digest 127 = .ok (.lstore_n 1, 1) := by decide +kernel
theorem dX11_digest_128 : decode cX11_digest 128 = .ok (.ldc2_w 261, 3) := by decide +kernel
theorem dX11_digest_131 : decode cX11_digest 131 = .ok (.lload_n 1, 1) := by decide +kernel
theorem dX11_digest_132 : decode cX11_digest 132 = .ok (.lmul, 1) := by decide +kernel
theorem dX11_digest_133 : decode cX11_digest 133 = .ok (.aload_n 0, 1) := by decide +kernel
theorem dX11_digest_134 : decode cX11_digest 134 = .ok (.getfield 7, 3) := by decide +kernel
theorem dX11_digest_137 : decode cX11_digest 137 = .ok (.bipush 33, 2) := by decide +kernel
theorem dX11_digest_139 : decode cX11_digest 139 = .ok (.iload_n 3, 1) := by decide +kernel
theorem dX11_digest_140 : decode cX11_digest 140 = .ok (.iadd, 1) := by decide +kernel
theorem dX11_digest_141 : decode cX11_digest 141 = .ok (.iaload, 1) := by decide +kernel
theorem dX11_digest_142 : decode cX11_digest 142 = .ok (.i2l, 1) := by decide +kernel
theorem dX11_digest_143 : decode cX11_digest 143 = .ok (.ladd, 1) := by decide +kernel
theorem dX11_digest_144 : decode cX11_digest 144 = .ok (.lstore_n 1, 1) := by decide +kernel
theorem dX11_digest_145 : decode cX11_digest 145 = .ok (.iinc 3 1, 3) := by decide +kernel
theorem dX11_digest_148 : decode cX11_digest 148 = .ok (.goto (-47), 3) := by decide +kernel
theorem dX11_digest_151 : decode cX11_digest 151 = .ok (.iconst 0, 1) := by decide +kernel
theorem dX11_digest_152 : decode cX11_digest 152 = .ok (.istore_n 3, 1) := by decide +kernel
theorem dX11_digest_153 : decode cX11_digest 153 = .ok (.iload_n 3, 1) := by decide +kernel
theorem dX11_digest_154 : decode cX11_digest 154 = .ok (.aload_n 0, 1) := by decide +kernel
theorem dX11_digest_155 : decode cX11_digest 155 = .ok (.getfield 7, 3) := by decide +kernel
theorem dX11_digest_158 : decode cX11_digest 158 = .ok (.iconst 2, 1) := by decide +kernel
theorem dX11_digest_159 : decode cX11_digest 159 = .ok (.iaload, 1) := by decide +kernel
theorem dX11_digest_160 : decode cX11_digest 160 = .ok (.if_icmp .ge 26, 3) := by decide +kernel
theorem dX11_digest_163 : decode cX11_digest 163 = .ok (.ldc2_w 261, 3) := by decide +kernel
theorem dX11_digest_166 : decode cX11_digest 166 = .ok (.lload_n 1, 1) := by decide +kernel
theorem dX11_digest_167 : decode cX11_digest 167 = .ok (.lmul, 1) := by decide +kernel
theorem dX11_digest_168 : decode cX11_digest 168 = .ok (.aload_n 0, 1) := by decide +kernel
theorem dX11_digest_169 : decode cX11_digest 169 = .ok (.getfield 7, 3) := by decide +kernel
theorem dX11_digest_172 : decode cX11_digest 172 = .ok (.bipush 77, 2) := by decide +kernel
theorem dX11_digest_174 : decode cX11_digest 174 = .ok (.iload_n 3, 1) := by decide +kernel
theorem dX11_digest_175 : decode cX11_digest 175 = .ok (.iadd, 1) := by decide +kernel
theorem dX11_digest_176 : decode cX11_digest 176 = .ok (.iaload, 1) := by decide +kernel
theorem dX11_digest_177 : decode cX11_digest 177 = .ok (.i2l, 1) := by decide +kernel
theorem dX11_digest_178 : decode cX11_digest 178 = .ok (.ladd, 1) := by decide +kernel
theorem dX11_digest_179 : decode cX11_digest 179 = .ok (.lstore_n 1, 1) := by decide +kernel
theorem dX11_digest_180 : decode cX11_digest 180 = .ok (.iinc 3 1, 3) := by decide +kernel
theorem dX11_digest_183 : decode cX11_digest 183 = .ok (.goto (-30), 3) := by decide +kernel
theorem dX11_digest_186 : decode cX11_digest 186 = .ok (.iconst 0, 1) := by decide +kernel
theorem dX11_digest_187 : decode cX11_digest 187 = .ok (.istore_n 3, 1) := by decide +kernel
theorem dX11_digest_188 : decode cX11_digest 188 = .ok (.iload_n 3, 1) := by decide +kernel
theorem dX11_digest_189 : decode cX11_digest 189 = .ok (.bipush 10, 2) := by decide +kernel
theorem dX11_digest_191 : decode cX11_digest 191 = .ok (.if_icmp .ge 26, 3) := by decide +kernel
theorem dX11_digest_194 : decode cX11_digest 194 = .ok (.ldc2_w 261, 3) := by decide +kernel
theorem dX11_digest_197 : decode cX11_digest 197 = .ok (.lload_n 1, 1) := by decide +kernel
theorem dX11_digest_198 : decode cX11_digest 198 = .ok (.lmul, 1) := by decide +kernel
theorem dX11_digest_199 : decode cX11_digest 199 = .ok (.aload_n 0, 1) := by decide +kernel
theorem dX11_digest_200 : decode cX11_digest 200 = .ok (.getfield 7, 3) := by decide +kernel
theorem dX11_digest_203 : decode cX11_digest 203 = .ok (.bipush 37, 2) := by decide +kernel
theorem dX11_digest_205 : decode cX11_digest 205 = .ok (.iload_n 3, 1) := by decide +kernel
theorem dX11_digest_206 : decode cX11_digest 206 = .ok (.iadd, 1) := by decide +kernel
theorem dX11_digest_207 : decode cX11_digest 207 = .ok (.iaload, 1) := by decide +kernel
theorem dX11_digest_208 : decode cX11_digest 208 = .ok (.i2l, 1) := by decide +kernel
theorem dX11_digest_209 : decode cX11_digest 209 = .ok (.ladd, 1) := by decide +kernel
theorem dX11_digest_210 : decode cX11_digest 210 = .ok (.lstore_n 1, 1) := by decide +kernel
theorem dX11_digest_211 : decode cX11_digest 211 = .ok (.iinc 3 1, 3) := by decide +kernel
theorem dX11_digest_214 : decode cX11_digest 214 = .ok (.goto (-26), 3) := by decide +kernel
theorem dX11_digest_217 : decode cX11_digest 217 = .ok (.iconst 0, 1) := by decide +kernel
theorem dX11_digest_218 : decode cX11_digest 218 = .ok (.istore_n 3, 1) := by decide +kernel
theorem dX11_digest_219 : decode cX11_digest 219 = .ok (.iload_n 3, 1) := by decide +kernel
theorem dX11_digest_220 : decode cX11_digest 220 = .ok (.iconst 3, 1) := by decide +kernel
theorem dX11_digest_221 : decode cX11_digest 221 = .ok (.aload_n 0, 1) := by decide +kernel
theorem dX11_digest_222 : decode cX11_digest 222 = .ok (.getfield 7, 3) := by decide +kernel
theorem dX11_digest_225 : decode cX11_digest 225 = .ok (.iconst 3, 1) := by decide +kernel
theorem dX11_digest_226 : decode cX11_digest 226 = .ok (.iaload, 1) := by decide +kernel
theorem dX11_digest_227 : decode cX11_digest 227 = .ok (.imul, 1) := by decide +kernel
theorem dX11_digest_228 : decode cX11_digest 228 = .ok (.if_icmp .ge 26, 3) := by decide +kernel
theorem dX11_digest_231 : decode cX11_digest 231 = .ok (.ldc2_w 261, 3) := by decide +kernel
theorem dX11_digest_234 : decode cX11_digest 234 = .ok (.lload_n 1, 1) := by decide +kernel
theorem dX11_digest_235 : decode cX11_digest 235 = .ok (.lmul, 1) := by decide +kernel
theorem dX11_digest_236 : decode cX11_digest 236 = .ok (.aload_n 0, 1) := by decide +kernel
theorem dX11_digest_237 : decode cX11_digest 237 = .ok (.getfield 7, 3) := by decide +kernel
theorem dX11_digest_240 : decode cX11_digest 240 = .ok (.bipush 47, 2) := by decide +kernel
theorem dX11_digest_242 : decode cX11_digest 242 = .ok (.iload_n 3, 1) := by decide +kernel
theorem dX11_digest_243 : decode cX11_digest 243 = .ok (.iadd, 1) := by decide +kernel
theorem dX11_digest_244 : decode cX11_digest 244 = .ok (.iaload, 1) := by decide +kernel
theorem dX11_digest_245 : decode cX11_digest 245 = .ok (.i2l, 1) := by decide +kernel
theorem dX11_digest_246 : decode cX11_digest 246 = .ok (.ladd, 1) := by decide +kernel
theorem dX11_digest_247 : decode cX11_digest 247 = .ok (.lstore_n 1, 1) := by decide +kernel
theorem dX11_digest_248 : decode cX11_digest 248 = .ok (.iinc 3 1, 3) := by decide +kernel
theorem dX11_digest_251 : decode cX11_digest 251 = .ok (.goto (-32), 3) := by decide +kernel
theorem dX11_digest_254 : decode cX11_digest 254 = .ok (.ldc2_w 261, 3) := by decide +kernel
theorem dX11_digest_257 : decode cX11_digest 257 = .ok (.lload_n 1, 1) := by decide +kernel
theorem dX11_digest_258 : decode cX11_digest 258 = .ok (.lmul, 1) := by decide +kernel
theorem dX11_digest_259 : decode cX11_digest 259 = .ok (.aload_n 0, 1) := by decide +kernel
theorem dX11_digest_260 : decode cX11_digest 260 = .ok (.getfield 7, 3) := by decide +kernel
theorem dX11_digest_263 : decode cX11_digest 263 = .ok (.iconst 4, 1) := by decide +kernel
theorem dX11_digest_264 : decode cX11_digest 264 = .ok (.iaload, 1) := by decide +kernel
theorem dX11_digest_265 : decode cX11_digest 265 = .ok (.i2l, 1) := by decide +kernel
theorem dX11_digest_266 : decode cX11_digest 266 = .ok (.ladd, 1) := by decide +kernel
theorem dX11_digest_267 : decode cX11_digest 267 = .ok (.lstore_n 1, 1) := by decide +kernel
theorem dX11_digest_268 : decode cX11_digest 268 = .ok (.ldc2_w 261, 3) := by decide +kernel
theorem dX11_digest_271 : decode cX11_digest 271 = .ok (.lload_n 1, 1) := by decide +kernel
theorem dX11_digest_272 : decode cX11_digest 272 = .ok (.lmul, 1) := by decide +kernel
theorem dX11_digest_273 : decode cX11_digest 273 = .ok (.aload_n 0, 1) := by decide +kernel
theorem dX11_digest_274 : decode cX11_digest 274 = .ok (.getfield 274, 3) := by decide +kernel
theorem dX11_digest_277 : decode cX11_digest 277 = .ok (.ladd, 1) := by decide +kernel
theorem dX11_digest_278 : decode cX11_digest 278 = .ok (.lstore_n 1, 1) := by decide +kernel
theorem dX11_digest_279 : decode cX11_digest 279 = .ok (.ldc2_w 261, 3) := by decide +kernel
theorem dX11_digest_282 : decode cX11_digest 282 = .ok (.lload_n 1, 1) := by decide +kernel
theorem dX11_digest_283 : decode cX11_digest 283 = .ok (.lmul, 1) := by decide +kernel
theorem dX11_digest_284 : decode cX11_digest 284 = .ok (.aload_n 0, 1) := by decide +kernel
theorem dX11_digest_285 : decode cX11_digest 285 = .ok (.getfield 19, 3) := by decide +kernel
theorem dX11_digest_288 : decode cX11_digest 288 = .ok (.ladd, 1) := by decide +kernel
theorem dX11_digest_289 : decode cX11_digest 289 = .ok (.lreturn, 1) := by decide +kernel
theorem dJ6_bitCount_0f7a4_0 : decode cJ6_bitCount_0f7a4 0 = .ok (.iload_n 0, 1) := by decide +kernel
theorem dJ6_bitCount_0f7a4_1 : decode cJ6_bitCount_0f7a4 1 = .ok (.iload_n 0, 1) := by decide +kernel
theorem dJ6_bitCount_0f7a4_2 : decode cJ6_bitCount_0f7a4 2 = .ok (.iconst 1, 1) := by decide +kernel
theorem dJ6_bitCount_0f7a4_3 : decode cJ6_bitCount_0f7a4 3 = .ok (.iushr, 1) := by decide +kernel
theorem dJ6_bitCount_0f7a4_4 : decode cJ6_bitCount_0f7a4 4 = .ok (.ldc_w 265, 3) := by decide +kernel
theorem dJ6_bitCount_0f7a4_7 : decode cJ6_bitCount_0f7a4 7 = .ok (.iand, 1) := by decide +kernel
theorem dJ6_bitCount_0f7a4_8 : decode cJ6_bitCount_0f7a4 8 = .ok (.isub, 1) := by decide +kernel
theorem dJ6_bitCount_0f7a4_9 : decode cJ6_bitCount_0f7a4 9 = .ok (.istore_n 0, 1) := by decide +kernel
theorem dJ6_bitCount_0f7a4_10 : decode cJ6_bitCount_0f7a4 10 = .ok (.iload_n 0, 1) := by decide +kernel
theorem dJ6_bitCount_0f7a4_11 : decode cJ6_bitCount_0f7a4 11 = .ok (.ldc_w 266, 3) := by decide +kernel
theorem dJ6_bitCount_0f7a4_14 : decode cJ6_bitCount_0f7a4 14 = .ok (.iand, 1) := by decide +kernel
theorem dJ6_bitCount_0f7a4_15 : decode cJ6_bitCount_0f7a4 15 = .ok (.iload_n 0, 1) := by decide +kernel
theorem dJ6_bitCount_0f7a4_16 : decode cJ6_bitCount_0f7a4 16 = .ok (.iconst 2, 1) := by decide +kernel
theorem dJ6_bitCount_0f7a4_17 : decode cJ6_bitCount_0f7a4 17 = .ok (.iushr, 1) := by decide +kernel
theorem dJ6_bitCount_0f7a4_18 : decode cJ6_bitCount_0f7a4 18 = .ok (.ldc_w 266, 3) := by decide +kernel
theorem dJ6_bitCount_0f7a4_21 : decode cJ6_bitCount_0f7a4 21 = .ok (.iand, 1) := by decide +kernel
theorem dJ6_bitCount_0f7a4_22 : decode cJ6_bitCount_0f7a4 22 = .ok (.iadd, 1) := by decide +kernel
theorem dJ6_bitCount_0f7a4_23 : decode cJ6_bitCount_0f7a4 23 = .ok (.istore_n 0, 1) := by decide +kernel
theorem dJ6_bitCount_0f7a4_24 : decode cJ6_bitCount_0f7a4 24 = .ok (.iload_n 0, 1) := by decide +kernel
theorem dJ6_bitCount_0f7a4_25 : decode cJ6_bitCount_0f7a4 25 = .ok (.iload_n 0, 1) := by decide +kernel
theorem dJ6_bitCount_0f7a4_26 : decode cJ6_bitCount_0f7a4 26 = .ok (.iconst 4, 1) := by decide +kernel
theorem dJ6_bitCount_0f7a4_27 : decode cJ6_bitCount_0f7a4 27 = .ok (.iushr, 1) := by decide +kernel
theorem dJ6_bitCount_0f7a4_28 : decode cJ6_bitCount_0f7a4 28 = .ok (.iadd, 1) := by decide +kernel
theorem dJ6_bitCount_0f7a4_29 : decode cJ6_bitCount_0f7a4 29 = .ok (.ldc_w 267, 3) := by decide +kernel
theorem dJ6_bitCount_0f7a4_32 : decode cJ6_bitCount_0f7a4 32 = .ok (.iand, 1) := by decide +kernel
theorem dJ6_bitCount_0f7a4_33 : decode cJ6_bitCount_0f7a4 33 = .ok (.istore_n 0, 1) := by decide +kernel
theorem dJ6_bitCount_0f7a4_34 : decode cJ6_bitCount_0f7a4 34 = .ok (.iload_n 0, 1) := by decide +kernel
theorem dJ6_bitCount_0f7a4_35 : decode cJ6_bitCount_0f7a4 35 = .ok (.iload_n 0, 1) := by decide +kernel
theorem dJ6_bitCount_0f7a4_36 : decode cJ6_bitCount_0f7a4 36 = .ok (.bipush 8, 2) := by decide +kernel
theorem dJ6_bitCount_0f7a4_38 : decode cJ6_bitCount_0f7a4 38 = .ok (.iushr, 1) := by decide +kernel
theorem dJ6_bitCount_0f7a4_39 : decode cJ6_bitCount_0f7a4 39 = .ok (.iadd, 1) := by decide +kernel
theorem dJ6_bitCount_0f7a4_40 : decode cJ6_bitCount_0f7a4 40 = .ok (.istore_n 0, 1) := by decide +kernel
theorem dJ6_bitCount_0f7a4_41 : decode cJ6_bitCount_0f7a4 41 = .ok (.iload_n 0, 1) := by decide +kernel
theorem dJ6_bitCount_0f7a4_42 : decode cJ6_bitCount_0f7a4 42 = .ok (.iload_n 0, 1) := by decide +kernel
theorem dJ6_bitCount_0f7a4_43 : decode cJ6_bitCount_0f7a4 43 = .ok (.bipush 16, 2) := by decide +kernel
theorem dJ6_bitCount_0f7a4_45 : decode cJ6_bitCount_0f7a4 45 = .ok (.iushr, 1) := by decide +kernel
theorem dJ6_bitCount_0f7a4_46 : decode cJ6_bitCount_0f7a4 46 = .ok (.iadd, 1) := by decide +kernel
theorem dJ6_bitCount_0f7a4_47 : decode cJ6_bitCount_0f7a4 47 = .ok (.istore_n 0, 1) := by decide +kernel
theorem dJ6_bitCount_0f7a4_48 : decode cJ6_bitCount_0f7a4 48 = .ok (.iload_n 0, 1) := by decide +kernel
theorem dJ6_bitCount_0f7a4_49 : decode cJ6_bitCount_0f7a4 49 = .ok (.bipush 63, 2) := by decide +kernel
theorem dJ6_bitCount_0f7a4_51 : decode cJ6_bitCount_0f7a4 51 = .ok (.iand, 1) := by decide +kernel
theorem dJ6_bitCount_0f7a4_52 : decode cJ6_bitCount_0f7a4 52 = .ok (.ireturn, 1) := by decide +kernel
theorem dJ9_min_7cf53_0 : decode cJ9_min_7cf53 0 = .ok (.iload_n 0, 1) := by decide +kernel
theorem dJ9_min_7cf53_1 : decode cJ9_min_7cf53 1 = .ok (.iload_n 1, 1) := by decide +kernel
theorem dJ9_min_7cf53_2 : decode cJ9_min_7cf53 2 = .ok (.if_icmp .gt 7, 3) := by decide +kernel
theorem dJ9_min_7cf53_5 : decode cJ9_min_7cf53 5 = .ok (.iload_n 0, 1) := by decide +kernel
theorem dJ9_min_7cf53_6 : decode cJ9_min_7cf53 6 = .ok (.goto 4, 3) := by decide +kernel
theorem dJ9_min_7cf53_9 : decode cJ9_min_7cf53 9 = .ok (.iload_n 1, 1) := by decide +kernel
theorem dJ9_min_7cf53_10 : decode cJ9_min_7cf53 10 = .ok (.ireturn, 1) := by decide +kernel
theorem dJ0_length_8abf5_0 : decode cJ0_length_8abf5 0 = .ok (.aload_n 0, 1) := by decide +kernel
theorem dJ0_length_8abf5_1 : decode cJ0_length_8abf5 1 = .ok (.getfield 9, 3) := by decide +kernel
theorem dJ0_length_8abf5_4 : decode cJ0_length_8abf5 4 = .ok (.arraylength, 1) := by decide +kernel
theorem dJ0_length_8abf5_5 : decode cJ0_length_8abf5 5 = .ok (.aload_n 0, 1) := by decide +kernel
theorem dJ0_length_8abf5_6 : decode cJ0_length_8abf5 6 = .ok (.invokevirtual 335, 3) := by decide +kernel
theorem dJ0_length_8abf5_9 : decode cJ0_length_8abf5 9 = .ok (.ishr, 1) := by decide +kernel
theorem dJ0_length_8abf5_10 : decode cJ0_length_8abf5 10 = .ok (.ireturn, 1) := by decide +kernel
theorem dJ0_charAt_5068e_0 : decode cJ0_charAt_5068e 0 = .ok (.aload_n 0, 1) := by decide +kernel
theorem dJ0_charAt_5068e_1 : decode cJ0_charAt_5068e 1 = .ok (.invokevirtual 492, 3) := by decide +kernel
theorem dJ0_charAt_5068e_4 : decode cJ0_charAt_5068e 4 = .ok (.ifCond .eq 12, 3) := by decide +kernel
theorem dJ0_charAt_5068e_7 : decode cJ0_charAt_5068e 7 = .ok (.aload_n 0, 1) := by decide +kernel
theorem dJ0_charAt_5068e_8 : decode cJ0_charAt_5068e 8 = .ok (.getfield 9, 3) := by decide +kernel
theorem dJ0_charAt_5068e_11 : decode cJ0_charAt_5068e 11 = .ok (.iload_n 1, 1) := by decide +kernel
theorem dJ0_charAt_5068e_12 : decode cJ0_charAt_5068e 12 = .ok (.invokestatic 495, 3) := by decide +kernel
theorem dJ0_charAt_5068e_15 : decode cJ0_charAt_5068e 15 = .ok (.ireturn, 1) := by decide +kernel
theorem dJ0_charAt_5068e_16 : decode cJ0_charAt_5068e 16 = .ok (.aload_n 0, 1) := by decide +kernel
theorem dJ0_charAt_5068e_17 : decode cJ0_charAt_5068e 17 = .ok (.getfield 9, 3) := by decide +kernel
theorem dJ0_charAt_5068e_20 : decode cJ0_charAt_5068e 20 = .ok (.iload_n 1, 1) := by decide +kernel
theorem dJ0_charAt_5068e_21 : decode cJ0_charAt_5068e 21 = .ok (.invokestatic 498, 3) := by decide +kernel
theorem dJ0_charAt_5068e_24 : decode cJ0_charAt_5068e 24 = .ok (.ireturn, 1) := by decide +kernel
theorem dJ0_coder_7d493_0 : decode cJ0_coder_7d493 0 = .ok (.getstatic 38, 3) := by decide +kernel
theorem dJ0_coder_7d493_3 : decode cJ0_coder_7d493 3 = .ok (.ifCond .eq 10, 3) := by decide +kernel
theorem dJ0_coder_7d493_6 : decode cJ0_coder_7d493 6 = .ok (.aload_n 0, 1) := by decide +kernel
theorem dJ0_coder_7d493_7 : decode cJ0_coder_7d493 7 = .ok (.getfield 15, 3) := by decide +kernel
theorem dJ0_coder_7d493_10 : decode cJ0_coder_7d493 10 = .ok (.goto 4, 3) := by decide +kernel
theorem dJ0_coder_7d493_13 : decode cJ0_coder_7d493 13 = .ok (.iconst 1, 1) := by decide +kernel
theorem dJ0_coder_7d493_14 : decode cJ0_coder_7d493 14 = .ok (.ireturn, 1) := by decide +kernel
theorem dJ0_isLatin1_aae02_0 : decode cJ0_isLatin1_aae02 0 = .ok (.getstatic 38, 3) := by decide +kernel
theorem dJ0_isLatin1_aae02_3 : decode cJ0_isLatin1_aae02 3 = .ok (.ifCond .eq 14, 3) := by decide +kernel
theorem dJ0_isLatin1_aae02_6 : decode cJ0_isLatin1_aae02 6 = .ok (.aload_n 0, 1) := by decide +kernel
theorem dJ0_isLatin1_aae02_7 : decode cJ0_isLatin1_aae02 7 = .ok (.getfield 15, 3) := by decide +kernel
theorem dJ0_isLatin1_aae02_10 : decode cJ0_isLatin1_aae02 10 = .ok (.ifCond .ne 7, 3) := by decide +kernel
theorem dJ0_isLatin1_aae02_13 : decode cJ0_isLatin1_aae02 13 = .ok (.iconst 1, 1) := by decide +kernel
theorem dJ0_isLatin1_aae02_14 : decode cJ0_isLatin1_aae02 14 = .ok (.goto 4, 3) := by decide +kernel
theorem dJ0_isLatin1_aae02_17 : decode cJ0_isLatin1_aae02 17 = .ok (.iconst 0, 1) := by decide +kernel
theorem dJ0_isLatin1_aae02_18 : decode cJ0_isLatin1_aae02 18 = .ok (.ireturn, 1) := by decide +kernel
theorem dJ0_checkIndex_df160_0 : decode cJ0_checkIndex_df160 0 = .ok (.iload_n 0, 1) := by decide +kernel
theorem dJ0_checkIndex_df160_1 : decode cJ0_checkIndex_df160 1 = .ok (.iload_n 1, 1) := by decide +kernel
theorem dJ0_checkIndex_df160_2 : decode cJ0_checkIndex_df160 2 = .ok (.getstatic 1053, 3) := by decide +kernel
theorem dJ0_checkIndex_df160_5 : decode cJ0_checkIndex_df160 5 = .ok (.invokestatic 1059, 3) := by decide +kernel
theorem dJ0_checkIndex_df160_8 : decode cJ0_checkIndex_df160 8 = .ok (.pop, 1) := by decide +kernel
theorem dJ0_checkIndex_df160_9 : decode cJ0_checkIndex_df160 9 = .ok (.return_, 1) := by decide +kernel
theorem dJ1_charAt_3b067_0 : decode cJ1_charAt_3b067 0 = .ok (.iload_n 1, 1) := by decide +kernel
theorem dJ1_charAt_3b067_1 : decode cJ1_charAt_3b067 1 = .ok (.aload_n 0, 1) := by decide +kernel
theorem dJ1_charAt_3b067_2 : decode cJ1_charAt_3b067 2 = .ok (.arraylength, 1) := by decide +kernel
theorem dJ1_charAt_3b067_3 : decode cJ1_charAt_3b067 3 = .ok (.invokestatic 9, 3) := by decide +kernel
theorem dJ1_charAt_3b067_6 : decode cJ1_charAt_3b067 6 = .ok (.aload_n 0, 1) := by decide +kernel
theorem dJ1_charAt_3b067_7 : decode cJ1_charAt_3b067 7 = .ok (.iload_n 1, 1) := by decide +kernel
theorem dJ1_charAt_3b067_8 : decode cJ1_charAt_3b067 8 = .ok (.baload, 1) := by decide +kernel
theorem dJ1_charAt_3b067_9 : decode cJ1_charAt_3b067 9 = .ok (.sipush 255, 3) := by decide +kernel
theorem dJ1_charAt_3b067_12 : decode cJ1_charAt_3b067 12 = .ok (.iand, 1) := by decide +kernel
theorem dJ1_charAt_3b067_13 : decode cJ1_charAt_3b067 13 = .ok (.i2c, 1) := by decide +kernel
theorem dJ1_charAt_3b067_14 : decode cJ1_charAt_3b067 14 = .ok (.ireturn, 1) := by decide +kernel
theorem dJ2_getChar_3b067_0 : decode cJ2_getChar_3b067 0 = .ok (.getstatic 44, 3) := by decide +kernel
theorem dJ2_getChar_3b067_3 : decode cJ2_getChar_3b067 3 = .ok (.ifCond .ne 25, 3) := by decide +kernel
theorem dJ2_getChar_3b067_6 : decode cJ2_getChar_3b067 6 = .ok (.iload_n 1, 1) := by decide +kernel
theorem dJ2_getChar_3b067_7 : decode cJ2_getChar_3b067 7 = .ok (.ifCond .lt 11, 3) := by decide +kernel
theorem dJ2_getChar_3b067_10 : decode cJ2_getChar_3b067 10 = .ok (.iload_n 1, 1) := by decide +kernel
theorem dJ2_getChar_3b067_11 : decode cJ2_getChar_3b067 11 = .ok (.aload_n 0, 1) := by decide +kernel
theorem dJ2_getChar_3b067_12 : decode cJ2_getChar_3b067 12 = .ok (.invokestatic 48, 3) := by decide +kernel
theorem dJ2_getChar_3b067_15 : decode cJ2_getChar_3b067 15 = .ok (.if_icmp .lt 13, 3) := by decide +kernel
theorem dJ2_getChar_3b067_18 : decode cJ2_getChar_3b067 18 = .ok (.new 52, 3) := by decide +kernel
theorem dJ2_getChar_3b067_21 : decode cJ2_getChar_3b067 21 = .ok (.dup, 1) := by decide +kernel
theorem dJ2_getChar_3b067_22 : decode cJ2_getChar_3b067 22 = .ok (.ldc 54, 2) := by decide +kernel
theorem dJ2_getChar_3b067_24 : decode cJ2_getChar_3b067 24 = .ok (.invokespecial 56, 3) := by decide +kernel
theorem dJ2_getChar_3b067_27 : decode cJ2_getChar_3b067 27 = .ok (.athrow, 1) := by decide +kernel
theorem dJ2_getChar_3b067_28 : decode cJ2_getChar_3b067 28 = .ok (.iload_n 1, 1) := by decide +kernel
theorem dJ2_getChar_3b067_29 : decode cJ2_getChar_3b067 29 = .ok (.iconst 1, 1) := by decide +kernel
theorem dJ2_getChar_3b067_30 : decode cJ2_getChar_3b067 30 = .ok (.ishl, 1) := by decide +kernel
theorem dJ2_getChar_3b067_31 : decode cJ2_getChar_3b067 31 = .ok (.istore_n 1, 1) := by decide +kernel
theorem dJ2_getChar_3b067_32 : decode cJ2_getChar_3b067 32 = .ok (.aload_n 0, 1) := by decide +kernel
theorem dJ2_getChar_3b067_33 : decode cJ2_getChar_3b067 33 = .ok (.iload_n 1, 1) := by decide +kernel
theorem dJ2_getChar_3b067_34 : decode cJ2_getChar_3b067 34 = .ok (.iinc 1 1, 3) := by decide +kernel
theorem dJ2_getChar_3b067_37 : decode cJ2_getChar_3b067 37 = .ok (.baload, 1) := by decide +kernel
theorem dJ2_getChar_3b067_38 : decode cJ2_getChar_3b067 38 = .ok (.sipush 255, 3) := by decide +kernel
theorem dJ2_getChar_3b067_41 : decode cJ2_getChar_3b067 41 = .ok (.iand, 1) := by decide +kernel
theorem dJ2_getChar_3b067_42 : decode cJ2_getChar_3b067 42 = .ok (.getstatic 59, 3) := by decide +kernel
theorem dJ2_getChar_3b067_45 : decode cJ2_getChar_3b067 45 = .ok (.ishl, 1) := by decide +kernel
theorem dJ2_getChar_3b067_46 : decode cJ2_getChar_3b067 46 = .ok (.aload_n 0, 1) := by decide +kernel
theorem dJ2_getChar_3b067_47 : decode cJ2_getChar_3b067 47 = .ok (.iload_n 1, 1) := by decide +kernel
theorem dJ2_getChar_3b067_48 : decode cJ2_getChar_3b067 48 = .ok (.baload, 1) := by decide +kernel
theorem dJ2_getChar_3b067_49 : decode cJ2_getChar_3b067 49 = .ok (.sipush 255, 3) := by decide +kernel
theorem dJ2_getChar_3b067_52 : decode cJ2_getChar_3b067 52 = .ok (.iand, 1) := by decide +kernel
theorem dJ2_getChar_3b067_53 : decode cJ2_getChar_3b067 53 = .ok (.getstatic 63, 3) := by decide +kernel
theorem dJ2_getChar_3b067_56 : decode cJ2_getChar_3b067 56 = .ok (.ishl, 1) := by decide +kernel
theorem dJ2_getChar_3b067_57 : decode cJ2_getChar_3b067 57 = .ok (.ior, 1) := by decide +kernel
theorem dJ2_getChar_3b067_58 : decode cJ2_getChar_3b067 58 = .ok (.i2c, 1) := by decide +kernel
theorem dJ2_getChar_3b067_59 : decode cJ2_getChar_3b067 59 = .ok (.ireturn, 1) := by decide +kernel
theorem dJ2_length_9d52b_0 : decode cJ2_length_9d52b 0 = .ok (.aload_n 0, 1) := by decide +kernel
theorem dJ2_length_9d52b_1 : decode cJ2_length_9d52b 1 = .ok (.arraylength, 1) := by decide +kernel
theorem dJ2_length_9d52b_2 : decode cJ2_length_9d52b 2 = .ok (.iconst 1, 1) := by decide +kernel
theorem dJ2_length_9d52b_3 : decode cJ2_length_9d52b 3 = .ok (.ishr, 1) := by decide +kernel
theorem dJ2_length_9d52b_4 : decode cJ2_length_9d52b 4 = .ok (.ireturn, 1) := by decide +kernel
theorem dJ2_charAt_3b067_0 : decode cJ2_charAt_3b067 0 = .ok (.iload_n 1, 1) := by decide +kernel
theorem dJ2_charAt_3b067_1 : decode cJ2_charAt_3b067 1 = .ok (.aload_n 0, 1) := by decide +kernel
theorem dJ2_charAt_3b067_2 : decode cJ2_charAt_3b067 2 = .ok (.invokestatic 67, 3) := by decide +kernel
theorem dJ2_charAt_3b067_5 : decode cJ2_charAt_3b067 5 = .ok (.aload_n 0, 1) := by decide +kernel
theorem dJ2_charAt_3b067_6 : decode cJ2_charAt_3b067 6 = .ok (.iload_n 1, 1) := by decide +kernel
theorem dJ2_charAt_3b067_7 : decode cJ2_charAt_3b067 7 = .ok (.invokestatic 71, 3) := by decide +kernel
theorem dJ2_charAt_3b067_10 : decode cJ2_charAt_3b067 10 = .ok (.ireturn, 1) := by decide +kernel
theorem dJ2_checkIndex_2214a_0 : decode cJ2_checkIndex_2214a 0 = .ok (.iload_n 0, 1) := by decide +kernel
theorem dJ2_checkIndex_2214a_1 : decode cJ2_checkIndex_2214a 1 = .ok (.aload_n 1, 1) := by decide +kernel
theorem dJ2_checkIndex_2214a_2 : decode cJ2_checkIndex_2214a 2 = .ok (.invokestatic 48, 3) := by decide +kernel
theorem dJ2_checkIndex_2214a_5 : decode cJ2_checkIndex_2214a 5 = .ok (.invokestatic 414, 3) := by decide +kernel
theorem dJ2_checkIndex_2214a_8 : decode cJ2_checkIndex_2214a 8 = .ok (.return_, 1) := by decide +kernel
theorem dJ3_checkIndex_8e157_0 : decode cJ3_checkIndex_8e157 0 = .ok (.iload_n 0, 1) := by decide +kernel
theorem dJ3_checkIndex_8e157_1 : decode cJ3_checkIndex_8e157 1 = .ok (.ifCond .lt 8, 3) := by decide +kernel
theorem dJ3_checkIndex_8e157_4 : decode cJ3_checkIndex_8e157 4 = .ok (.iload_n 0, 1) := by decide +kernel
theorem dJ3_checkIndex_8e157_5 : decode cJ3_checkIndex_8e157 5 = .ok (.iload_n 1, 1) := by decide +kernel
theorem dJ3_checkIndex_8e157_6 : decode cJ3_checkIndex_8e157 6 = .ok (.if_icmp .lt 10, 3) := by decide +kernel
theorem dJ3_checkIndex_8e157_9 : decode cJ3_checkIndex_8e157 9 = .ok (.aload_n 2, 1) := by decide +kernel
theorem dJ3_checkIndex_8e157_10 : decode cJ3_checkIndex_8e157 10 = .ok (.iload_n 0, 1) := by decide +kernel
theorem dJ3_checkIndex_8e157_11 : decode cJ3_checkIndex_8e157 11 = .ok (.iload_n 1, 1) := by decide +kernel
theorem dJ3_checkIndex_8e157_12 : decode cJ3_checkIndex_8e157 12 = .ok (.invokestatic 95, 3) := by decide +kernel
theorem dJ3_checkIndex_8e157_15 : decode cJ3_checkIndex_8e157 15 = .ok (.athrow, 1) := by decide +kernel
theorem dJ3_checkIndex_8e157_16 : decode cJ3_checkIndex_8e157 16 = .ok (.iload_n 0, 1) := by decide +kernel
theorem dJ3_checkIndex_8e157_17 : decode cJ3_checkIndex_8e157 17 = .ok (.ireturn, 1) := by decide +kernel
theorem dL_law_0 : decode cL_law 0 = .ok (.new 7, 3) := by decide +kernel
theorem dL_law_3 : decode cL_law 3 = .ok (.dup, 1) := by decide +kernel
theorem dL_law_4 : decode cL_law 4 = .ok (.invokespecial 9, 3) := by decide +kernel
theorem dL_law_7 : decode cL_law 7 = .ok (.astore_n 1, 1) := by decide +kernel
theorem dL_law_8 : decode cL_law 8 = .ok (.new 10, 3) := by decide +kernel
theorem dL_law_11 : decode cL_law 11 = .ok (.dup, 1) := by decide +kernel
theorem dL_law_12 : decode cL_law 12 = .ok (.invokespecial 12, 3) := by decide +kernel
theorem dL_law_15 : decode cL_law 15 = .ok (.astore_n 2, 1) := by decide +kernel
theorem dL_law_16 : decode cL_law 16 = .ok (.iconst 0, 1) := by decide +kernel
theorem dL_law_17 : decode cL_law 17 = .ok (.istore_n 3, 1) := by decide +kernel
theorem dL_law_18 : decode cL_law 18 = .ok (.iload_n 3, 1) := by decide +kernel
theorem dL_law_19 : decode cL_law 19 = .ok (.aload_n 0, 1) := by decide +kernel
theorem dL_law_20 : decode cL_law 20 = .ok (.arraylength, 1) := by decide +kernel
theorem dL_law_21 : decode cL_law 21 = .ok (.iconst 5, 1) := by decide +kernel
theorem dL_law_22 : decode cL_law 22 = .ok (.isub, 1) := by decide +kernel
theorem dL_law_23 : decode cL_law 23 = .ok (.if_icmp .gt 1233, 3) := by decide +kernel
theorem dL_law_26 : decode cL_law 26 = .ok (.aload_n 0, 1) := by decide +kernel
theorem dL_law_27 : decode cL_law 27 = .ok (.iload_n 3, 1) := by decide +kernel
theorem dL_law_28 : decode cL_law 28 = .ok (.iaload, 1) := by decide +kernel
theorem dL_law_29 : decode cL_law 29 = .ok (.bipush 31, 2) := by decide +kernel
theorem dL_law_31 : decode cL_law 31 = .ok (.iand, 1) := by decide +kernel
theorem dL_law_32 : decode cL_law 32 = .ok (.tableswitch 1218 0 31 #[144, 187, 220, 243, 276, 319, 352, 395, 458, 471, 484, 537, 590, 643, 686, 729, 772, 815, 868, 901, 925, 938, 997, 1010, 1033, 1056, 1089, 1112, 1135, 1158, 1181, 1204], 144) := by decide +kernel
theorem dL_law_176 : decode cL_law 176 = .ok (.aload_n 1, 1) := by decide +kernel
theorem dL_law_177 : decode cL_law 177 = .ok (.aload_n 0, 1) := by decide +kernel
theorem dL_law_178 : decode cL_law 178 = .ok (.iload_n 3, 1) := by decide +kernel
theorem dL_law_179 : decode cL_law 179 = .ok (.iconst 1, 1) := by decide +kernel
theorem dL_law_180 : decode cL_law 180 = .ok (.iadd, 1) := by decide +kernel
theorem dL_law_181 : decode cL_law 181 = .ok (.iaload, 1) := by decide +kernel
theorem dL_law_182 : decode cL_law 182 = .ok (.aload_n 0, 1) := by decide +kernel
theorem dL_law_183 : decode cL_law 183 = .ok (.iload_n 3, 1) := by decide +kernel
theorem dL_law_184 : decode cL_law 184 = .ok (.iconst 2, 1) := by decide +kernel
theorem dL_law_185 : decode cL_law 185 = .ok (.iadd, 1) := by decide +kernel
theorem dL_law_186 : decode cL_law 186 = .ok (.iaload, 1) := by decide +kernel
theorem dL_law_187 : decode cL_law 187 = .ok (.aload_n 0, 1) := by decide +kernel
theorem dL_law_188 : decode cL_law 188 = .ok (.iload_n 3, 1) := by decide +kernel
theorem dL_law_189 : decode cL_law 189 = .ok (.iconst 3, 1) := by decide +kernel
theorem dL_law_190 : decode cL_law 190 = .ok (.iadd, 1) := by decide +kernel
theorem dL_law_191 : decode cL_law 191 = .ok (.iaload, 1) := by decide +kernel
theorem dL_law_192 : decode cL_law 192 = .ok (.invokevirtual 13, 3) := by decide +kernel
theorem dL_law_195 : decode cL_law 195 = .ok (.aload_n 2, 1) := by decide +kernel
theorem dL_law_196 : decode cL_law 196 = .ok (.aload_n 0, 1) := by decide +kernel
theorem dL_law_197 : decode cL_law 197 = .ok (.iload_n 3, 1) := by decide +kernel
theorem dL_law_198 : decode cL_law 198 = .ok (.iconst 1, 1) := by decide +kernel
theorem dL_law_199 : decode cL_law 199 = .ok (.iadd, 1) := by decide +kernel
theorem dL_law_200 : decode cL_law 200 = .ok (.iaload, 1) := by decide +kernel
theorem dL_law_201 : decode cL_law 201 = .ok (.aload_n 0, 1) := by decide +kernel
theorem dL_law_202 : decode cL_law 202 = .ok (.iload_n 3, 1) := by decide +kernel
theorem dL_law_203 : decode cL_law 203 = .ok (.iconst 2, 1) := by decide +kernel
theorem dL_law_204 : decode cL_law 204 = .ok (.iadd, 1) := by decide +kernel
theorem dL_law_205 : decode cL_law 205 = .ok (.iaload, 1) := by decide +kernel
theorem dL_law_206 : decode cL_law 206 = .ok (.aload_n 0, 1) := by decide +kernel
theorem dL_law_207 : decode cL_law 207 = .ok (.iload_n 3, 1) := by decide +kernel
theorem dL_law_208 : decode cL_law 208 = .ok (.iconst 3, 1) := by decide +kernel
theorem dL_law_209 : decode cL_law 209 = .ok (.iadd, 1) := by decide +kernel
theorem dL_law_210 : decode cL_law 210 = .ok (.iaload, 1) := by decide +kernel
theorem dL_law_211 : decode cL_law 211 = .ok (.invokevirtual 17, 3) := by decide +kernel
theorem dL_law_214 : decode cL_law 214 = .ok (.if_icmp .eq 1036, 3) := by decide +kernel
theorem dL_law_217 : decode cL_law 217 = .ok (.iconst 0, 1) := by decide +kernel
theorem dL_law_218 : decode cL_law 218 = .ok (.ireturn, 1) := by decide +kernel
theorem dL_law_219 : decode cL_law 219 = .ok (.aload_n 1, 1) := by decide +kernel
theorem dL_law_220 : decode cL_law 220 = .ok (.aload_n 0, 1) := by decide +kernel
theorem dL_law_221 : decode cL_law 221 = .ok (.iload_n 3, 1) := by decide +kernel
theorem dL_law_222 : decode cL_law 222 = .ok (.iconst 1, 1) := by decide +kernel
theorem dL_law_223 : decode cL_law 223 = .ok (.iadd, 1) := by decide +kernel
theorem dL_law_224 : decode cL_law 224 = .ok (.iaload, 1) := by decide +kernel
theorem dL_law_225 : decode cL_law 225 = .ok (.aload_n 0, 1) := by decide +kernel
theorem dL_law_226 : decode cL_law 226 = .ok (.iload_n 3, 1) := by decide +kernel
theorem dL_law_227 : decode cL_law 227 = .ok (.iconst 2, 1) := by decide +kernel
theorem dL_law_228 : decode cL_law 228 = .ok (.iadd, 1) := by decide +kernel
theorem dL_law_229 : decode cL_law 229 = .ok (.iaload, 1) := by decide +kernel
theorem dL_law_230 : decode cL_law 230 = .ok (.invokevirtual 18, 3) := by decide +kernel
theorem dL_law_233 : decode cL_law 233 = .ok (.aload_n 2, 1) := by decide +kernel
theorem dL_law_234 : decode cL_law 234 = .ok (.aload_n 0, 1) := by decide +kernel
theorem dL_law_235 : decode cL_law 235 = .ok (.iload_n 3, 1) := by decide +kernel
theorem dL_law_236 : decode cL_law 236 = .ok (.iconst 1, 1) := by decide +kernel
theorem dL_law_237 : decode cL_law 237 = .ok (.iadd, 1) := by decide +kernel
theorem dL_law_238 : decode cL_law 238 = .ok (.iaload, 1) := by decide +kernel
theorem dL_law_239 : decode cL_law 239 = .ok (.aload_n 0, 1) := by decide +kernel
theorem dL_law_240 : decode cL_law 240 = .ok (.iload_n 3, 1) := by decide +kernel
theorem dL_law_241 : decode cL_law 241 = .ok (.iconst 2, 1) := by decide +kernel
theorem dL_law_242 : decode cL_law 242 = .ok (.iadd, 1) := by decide +kernel
theorem dL_law_243 : decode cL_law 243 = .ok (.iaload, 1) := by decide +kernel
theorem dL_law_244 : decode cL_law 244 = .ok (.invokevirtual 22, 3) := by decide +kernel
theorem dL_law_247 : decode cL_law 247 = .ok (.if_icmp .eq 1003, 3) := by decide +kernel
theorem dL_law_250 : decode cL_law 250 = .ok (.iconst 0, 1) := by decide +kernel
theorem dL_law_251 : decode cL_law 251 = .ok (.ireturn, 1) := by decide +kernel
theorem dL_law_252 : decode cL_law 252 = .ok (.aload_n 1, 1) := by decide +kernel
theorem dL_law_253 : decode cL_law 253 = .ok (.aload_n 0, 1) := by decide +kernel
theorem dL_law_254 : decode cL_law 254 = .ok (.iload_n 3, 1) := by decide +kernel
theorem dL_law_255 : decode cL_law 255 = .ok (.iconst 1, 1) := by decide +kernel
theorem dL_law_256 : decode cL_law 256 = .ok (.iadd, 1) := by decide +kernel
theorem dL_law_257 : decode cL_law 257 = .ok (.iaload, 1) := by decide +kernel
theorem dL_law_258 : decode cL_law 258 = .ok (.invokevirtual 23, 3) := by decide +kernel
theorem dL_law_261 : decode cL_law 261 = .ok (.aload_n 2, 1) := by decide +kernel
theorem dL_law_262 : decode cL_law 262 = .ok (.aload_n 0, 1) := by decide +kernel
theorem dL_law_263 : decode cL_law 263 = .ok (.iload_n 3, 1) := by decide +kernel
theorem dL_law_264 : decode cL_law 264 = .ok (.iconst 1, 1) := by decide +kernel
theorem dL_law_265 : decode cL_law 265 = .ok (.iadd, 1) := by decide +kernel
theorem dL_law_266 : decode cL_law 266 = .ok (.iaload, 1) := by decide +kernel
theorem dL_law_267 : decode cL_law 267 = .ok (.invokevirtual 27, 3) := by decide +kernel
theorem dL_law_270 : decode cL_law 270 = .ok (.if_icmp .eq 980, 3) := by decide +kernel
theorem dL_law_273 : decode cL_law 273 = .ok (.iconst 0, 1) := by decide +kernel
theorem dL_law_274 : decode cL_law 274 = .ok (.ireturn, 1) := by decide +kernel
theorem dL_law_275 : decode cL_law 275 = .ok (.aload_n 1, 1) := by decide +kernel
theorem dL_law_276 : decode cL_law 276 = .ok (.aload_n 0, 1) := by decide +kernel
theorem dL_law_277 : decode cL_law 277 = .ok (.iload_n 3, 1) := by decide +kernel
theorem dL_law_278 : decode cL_law 278 = .ok (.iconst 1, 1) := by decide +kernel
theorem dL_law_279 : decode cL_law 279 = .ok (.iadd, 1) := by decide +kernel
theorem dL_law_280 : decode cL_law 280 = .ok (.iaload, 1) := by decide +kernel
theorem dL_law_281 : decode cL_law 281 = .ok (.aload_n 0, 1) := by decide +kernel
theorem dL_law_282 : decode cL_law 282 = .ok (.iload_n 3, 1) := by decide +kernel
theorem dL_law_283 : decode cL_law 283 = .ok (.iconst 2, 1) := by decide +kernel
theorem dL_law_284 : decode cL_law 284 = .ok (.iadd, 1) := by decide +kernel
theorem dL_law_285 : decode cL_law 285 = .ok (.iaload, 1) := by decide +kernel
theorem dL_law_286 : decode cL_law 286 = .ok (.invokevirtual 28, 3) := by decide +kernel
theorem dL_law_289 : decode cL_law 289 = .ok (.aload_n 2, 1) := by decide +kernel
theorem dL_law_290 : decode cL_law 290 = .ok (.aload_n 0, 1) := by decide +kernel
theorem dL_law_291 : decode cL_law 291 = .ok (.iload_n 3, 1) := by decide +kernel
theorem dL_law_292 : decode cL_law 292 = .ok (.iconst 1, 1) := by decide +kernel
theorem dL_law_293 : decode cL_law 293 = .ok (.iadd, 1) := by decide +kernel
theorem dL_law_294 : decode cL_law 294 = .ok (.iaload, 1) := by decide +kernel
theorem dL_law_295 : decode cL_law 295 = .ok (.aload_n 0, 1) := by decide +kernel
theorem dL_law_296 : decode cL_law 296 = .ok (.iload_n 3, 1) := by decide +kernel
theorem dL_law_297 : decode cL_law 297 = .ok (.iconst 2, 1) := by decide +kernel
theorem dL_law_298 : decode cL_law 298 = .ok (.iadd, 1) := by decide +kernel
theorem dL_law_299 : decode cL_law 299 = .ok (.iaload, 1) := by decide +kernel
theorem dL_law_300 : decode cL_law 300 = .ok (.invokevirtual 31, 3) := by decide +kernel
theorem dL_law_303 : decode cL_law 303 = .ok (.if_icmp .eq 947, 3) := by decide +kernel
theorem dL_law_306 : decode cL_law 306 = .ok (.iconst 0, 1) := by decide +kernel
theorem dL_law_307 : decode cL_law 307 = .ok (.ireturn, 1) := by decide +kernel
theorem dL_law_308 : decode cL_law 308 = .ok (.aload_n 1, 1) := by decide +kernel
theorem dL_law_309 : decode cL_law 309 = .ok (.aload_n 0, 1) := by decide +kernel
theorem dL_law_310 : decode cL_law 310 = .ok (.iload_n 3, 1) := by decide +kernel
theorem dL_law_311 : decode cL_law 311 = .ok (.iconst 1, 1) := by decide +kernel
theorem dL_law_312 : decode cL_law 312 = .ok (.iadd, 1) := by decide +kernel
theorem dL_law_313 : decode cL_law 313 = .ok (.iaload, 1) := by decide +kernel
theorem dL_law_314 : decode cL_law 314 = .ok (.aload_n 0, 1) := by decide +kernel
theorem dL_law_315 : decode cL_law 315 = .ok (.iload_n 3, 1) := by decide +kernel
theorem dL_law_316 : decode cL_law 316 = .ok (.iconst 2, 1) := by decide +kernel
theorem dL_law_317 : decode cL_law 317 = .ok (.iadd, 1) := by decide +kernel
theorem dL_law_318 : decode cL_law 318 = .ok (.iaload, 1) := by decide +kernel
theorem dL_law_319 : decode cL_law 319 = .ok (.aload_n 0, 1) := by decide +kernel
theorem dL_law_320 : decode cL_law 320 = .ok (.iload_n 3, 1) := by decide +kernel
theorem dL_law_321 : decode cL_law 321 = .ok (.iconst 3, 1) := by decide +kernel
theorem dL_law_322 : decode cL_law 322 = .ok (.iadd, 1) := by decide +kernel
theorem dL_law_323 : decode cL_law 323 = .ok (.iaload, 1) := by decide +kernel
theorem dL_law_324 : decode cL_law 324 = .ok (.invokevirtual 32, 3) := by decide +kernel
theorem dL_law_327 : decode cL_law 327 = .ok (.aload_n 2, 1) := by decide +kernel
theorem dL_law_328 : decode cL_law 328 = .ok (.aload_n 0, 1) := by decide +kernel
theorem dL_law_329 : decode cL_law 329 = .ok (.iload_n 3, 1) := by decide +kernel
theorem dL_law_330 : decode cL_law 330 = .ok (.iconst 1, 1) := by decide +kernel
theorem dL_law_331 : decode cL_law 331 = .ok (.iadd, 1) := by decide +kernel
theorem dL_law_332 : decode cL_law 332 = .ok (.iaload, 1) := by decide +kernel
theorem dL_law_333 : decode cL_law 333 = .ok (.aload_n 0, 1) := by decide +kernel
theorem dL_law_334 : decode cL_law 334 = .ok (.iload_n 3, 1) := by decide +kernel
theorem dL_law_335 : decode cL_law 335 = .ok (.iconst 2, 1) := by decide +kernel
theorem dL_law_336 : decode cL_law 336 = .ok (.iadd, 1) := by decide +kernel
theorem dL_law_337 : decode cL_law 337 = .ok (.iaload, 1) := by decide +kernel
theorem dL_law_338 : decode cL_law 338 = .ok (.aload_n 0, 1) := by decide +kernel
theorem dL_law_339 : decode cL_law 339 = .ok (.iload_n 3, 1) := by decide +kernel
theorem dL_law_340 : decode cL_law 340 = .ok (.iconst 3, 1) := by decide +kernel
theorem dL_law_341 : decode cL_law 341 = .ok (.iadd, 1) := by decide +kernel
theorem dL_law_342 : decode cL_law 342 = .ok (.iaload, 1) := by decide +kernel
theorem dL_law_343 : decode cL_law 343 = .ok (.invokevirtual 35, 3) := by decide +kernel
theorem dL_law_346 : decode cL_law 346 = .ok (.if_icmp .eq 904, 3) := by decide +kernel
theorem dL_law_349 : decode cL_law 349 = .ok (.iconst 0, 1) := by decide +kernel
theorem dL_law_350 : decode cL_law 350 = .ok (.ireturn, 1) := by decide +kernel
theorem dL_law_351 : decode cL_law 351 = .ok (.aload_n 1, 1) := by decide +kernel
theorem dL_law_352 : decode cL_law 352 = .ok (.aload_n 0, 1) := by decide +kernel
theorem dL_law_353 : decode cL_law 353 = .ok (.iload_n 3, 1) := by decide +kernel
theorem dL_law_354 : decode cL_law 354 = .ok (.iconst 1, 1) := by decide +kernel
theorem dL_law_355 : decode cL_law 355 = .ok (.iadd, 1) := by decide +kernel
theorem dL_law_356 : decode cL_law 356 = .ok (.iaload, 1) := by decide +kernel
theorem dL_law_357 : decode cL_law 357 = .ok (.aload_n 0, 1) := by decide +kernel
theorem dL_law_358 : decode cL_law 358 = .ok (.iload_n 3, 1) := by decide +kernel
theorem dL_law_359 : decode cL_law 359 = .ok (.iconst 2, 1) := by decide +kernel
end
section
theorem dL_law_360 : decode cL_law 360 = .ok (.iadd, 1) := by decide +kernel
theorem dL_law_361 : decode cL_law 361 = .ok (.iaload, 1) := by decide +kernel
theorem dL_law_362 : decode cL_law 362 = .ok (.invokevirtual 36, 3) := by decide +kernel
theorem dL_law_365 : decode cL_law 365 = .ok (.aload_n 2, 1) := by decide +kernel
theorem dL_law_366 : decode cL_law 366 = .ok (.aload_n 0, 1) := by decide +kernel
theorem dL_law_367 : decode cL_law 367 = .ok (.iload_n 3, 1) := by decide +kernel
theorem dL_law_368 : decode cL_law 368 = .ok (.iconst 1, 1) := by decide +kernel
theorem dL_law_369 : decode cL_law 369 = .ok (.iadd, 1) := by decide +kernel
theorem dL_law_370 : decode cL_law 370 = .ok (.iaload, 1) := by decide +kernel
theorem dL_law_371 : decode cL_law 371 = .ok (.aload_n 0, 1) := by decide +kernel
theorem dL_law_372 : decode cL_law 372 = .ok (.iload_n 3, 1) := by decide +kernel
theorem dL_law_373 : decode cL_law 373 = .ok (.iconst 2, 1) := by decide +kernel
theorem dL_law_374 : decode cL_law 374 = .ok (.iadd, 1) := by decide +kernel
theorem dL_law_375 : decode cL_law 375 = .ok (.iaload, 1) := by decide +kernel
theorem dL_law_376 : decode cL_law 376 = .ok (.invokevirtual 39, 3) := by decide +kernel
theorem dL_law_379 : decode cL_law 379 = .ok (.if_icmp .eq 871, 3) := by decide +kernel
theorem dL_law_382 : decode cL_law 382 = .ok (.iconst 0, 1) := by decide +kernel
theorem dL_law_383 : decode cL_law 383 = .ok (.ireturn, 1) := by decide +kernel
theorem dL_law_384 : decode cL_law 384 = .ok (.aload_n 1, 1) := by decide +kernel
theorem dL_law_385 : decode cL_law 385 = .ok (.aload_n 0, 1) := by decide +kernel
theorem dL_law_386 : decode cL_law 386 = .ok (.iload_n 3, 1) := by decide +kernel
theorem dL_law_387 : decode cL_law 387 = .ok (.iconst 1, 1) := by decide +kernel
theorem dL_law_388 : decode cL_law 388 = .ok (.iadd, 1) := by decide +kernel
theorem dL_law_389 : decode cL_law 389 = .ok (.iaload, 1) := by decide +kernel
theorem dL_law_390 : decode cL_law 390 = .ok (.aload_n 0, 1) := by decide +kernel
theorem dL_law_391 : decode cL_law 391 = .ok (.iload_n 3, 1) := by decide +kernel
theorem dL_law_392 : decode cL_law 392 = .ok (.iconst 2, 1) := by decide +kernel
theorem dL_law_393 : decode cL_law 393 = .ok (.iadd, 1) := by decide +kernel
theorem dL_law_394 : decode cL_law 394 = .ok (.iaload, 1) := by decide +kernel
theorem dL_law_395 : decode cL_law 395 = .ok (.aload_n 0, 1) := by decide +kernel
theorem dL_law_396 : decode cL_law 396 = .ok (.iload_n 3, 1) := by decide +kernel
theorem dL_law_397 : decode cL_law 397 = .ok (.iconst 3, 1) := by decide +kernel
theorem dL_law_398 : decode cL_law 398 = .ok (.iadd, 1) := by decide +kernel
theorem dL_law_399 : decode cL_law 399 = .ok (.iaload, 1) := by decide +kernel
theorem dL_law_400 : decode cL_law 400 = .ok (.invokevirtual 40, 3) := by decide +kernel
theorem dL_law_403 : decode cL_law 403 = .ok (.aload_n 2, 1) := by decide +kernel
theorem dL_law_404 : decode cL_law 404 = .ok (.aload_n 0, 1) := by decide +kernel
theorem dL_law_405 : decode cL_law 405 = .ok (.iload_n 3, 1) := by decide +kernel
theorem dL_law_406 : decode cL_law 406 = .ok (.iconst 1, 1) := by decide +kernel
theorem dL_law_407 : decode cL_law 407 = .ok (.iadd, 1) := by decide +kernel
theorem dL_law_408 : decode cL_law 408 = .ok (.iaload, 1) := by decide +kernel
theorem dL_law_409 : decode cL_law 409 = .ok (.aload_n 0, 1) := by decide +kernel
theorem dL_law_410 : decode cL_law 410 = .ok (.iload_n 3, 1) := by decide +kernel
theorem dL_law_411 : decode cL_law 411 = .ok (.iconst 2, 1) := by decide +kernel
theorem dL_law_412 : decode cL_law 412 = .ok (.iadd, 1) := by decide +kernel
theorem dL_law_413 : decode cL_law 413 = .ok (.iaload, 1) := by decide +kernel
theorem dL_law_414 : decode cL_law 414 = .ok (.aload_n 0, 1) := by decide +kernel
theorem dL_law_415 : decode cL_law 415 = .ok (.iload_n 3, 1) := by decide +kernel
theorem dL_law_416 : decode cL_law 416 = .ok (.iconst 3, 1) := by decide +kernel
theorem dL_law_417 : decode cL_law 417 = .ok (.iadd, 1) := by decide +kernel
theorem dL_law_418 : decode cL_law 418 = .ok (.iaload, 1) := by decide +kernel
theorem dL_law_419 : decode cL_law 419 = .ok (.invokevirtual 43, 3) := by decide +kernel
theorem dL_law_422 : decode cL_law 422 = .ok (.if_icmp .eq 828, 3) := by decide +kernel
theorem dL_law_425 : decode cL_law 425 = .ok (.iconst 0, 1) := by decide +kernel
theorem dL_law_426 : decode cL_law 426 = .ok (.ireturn, 1) := by decide +kernel
theorem dL_law_427 : decode cL_law 427 = .ok (.aload_n 1, 1) := by decide +kernel
theorem dL_law_428 : decode cL_law 428 = .ok (.aload_n 0, 1) := by decide +kernel
theorem dL_law_429 : decode cL_law 429 = .ok (.iload_n 3, 1) := by decide +kernel
theorem dL_law_430 : decode cL_law 430 = .ok (.iconst 1, 1) := by decide +kernel
theorem dL_law_431 : decode cL_law 431 = .ok (.iadd, 1) := by decide +kernel
theorem dL_law_432 : decode cL_law 432 = .ok (.iaload, 1) := by decide +kernel
theorem dL_law_433 : decode cL_law 433 = .ok (.i2l, 1) := by decide +kernel
theorem dL_law_434 : decode cL_law 434 = .ok (.bipush 32, 2) := by decide +kernel
theorem dL_law_436 : decode cL_law 436 = .ok (.lshl, 1) := by decide +kernel
theorem dL_law_437 : decode cL_law 437 = .ok (.aload_n 0, 1) := by decide +kernel
theorem dL_law_438 : decode cL_law 438 = .ok (.iload_n 3, 1) := by decide +kernel
theorem dL_law_439 : decode cL_law 439 = .ok (.iconst 2, 1) := by decide +kernel
theorem dL_law_440 : decode cL_law 440 = .ok (.iadd, 1) := by decide +kernel
theorem dL_law_441 : decode cL_law 441 = .ok (.iaload, 1) := by decide +kernel
theorem dL_law_442 : decode cL_law 442 = .ok (.i2l, 1) := by decide +kernel
theorem dL_law_443 : decode cL_law 443 = .ok (.ldc2_w 44, 3) := by decide +kernel
theorem dL_law_446 : decode cL_law 446 = .ok (.land, 1) := by decide +kernel
theorem dL_law_447 : decode cL_law 447 = .ok (.lor, 1) := by decide +kernel
theorem dL_law_448 : decode cL_law 448 = .ok (.aload_n 0, 1) := by decide +kernel
theorem dL_law_449 : decode cL_law 449 = .ok (.iload_n 3, 1) := by decide +kernel
theorem dL_law_450 : decode cL_law 450 = .ok (.iconst 3, 1) := by decide +kernel
theorem dL_law_451 : decode cL_law 451 = .ok (.iadd, 1) := by decide +kernel
theorem dL_law_452 : decode cL_law 452 = .ok (.iaload, 1) := by decide +kernel
theorem dL_law_453 : decode cL_law 453 = .ok (.invokevirtual 46, 3) := by decide +kernel
theorem dL_law_456 : decode cL_law 456 = .ok (.aload_n 2, 1) := by decide +kernel
theorem dL_law_457 : decode cL_law 457 = .ok (.aload_n 0, 1) := by decide +kernel
theorem dL_law_458 : decode cL_law 458 = .ok (.iload_n 3, 1) := by decide +kernel
theorem dL_law_459 : decode cL_law 459 = .ok (.iconst 1, 1) := by decide +kernel
theorem dL_law_460 : decode cL_law 460 = .ok (.iadd, 1) := by decide +kernel
theorem dL_law_461 : decode cL_law 461 = .ok (.iaload, 1) := by decide +kernel
theorem dL_law_462 : decode cL_law 462 = .ok (.i2l, 1) := by decide +kernel
theorem dL_law_463 : decode cL_law 463 = .ok (.bipush 32, 2) := by decide +kernel
theorem dL_law_465 : decode cL_law 465 = .ok (.lshl, 1) := by decide +kernel
theorem dL_law_466 : decode cL_law 466 = .ok (.aload_n 0, 1) := by decide +kernel
theorem dL_law_467 : decode cL_law 467 = .ok (.iload_n 3, 1) := by decide +kernel
theorem dL_law_468 : decode cL_law 468 = .ok (.iconst 2, 1) := by decide +kernel
theorem dL_law_469 : decode cL_law 469 = .ok (.iadd, 1) := by decide +kernel
theorem dL_law_470 : decode cL_law 470 = .ok (.iaload, 1) := by decide +kernel
theorem dL_law_471 : decode cL_law 471 = .ok (.i2l, 1) := by decide +kernel
theorem dL_law_472 : decode cL_law 472 = .ok (.ldc2_w 44, 3) := by decide +kernel
theorem dL_law_475 : decode cL_law 475 = .ok (.land, 1) := by decide +kernel
theorem dL_law_476 : decode cL_law 476 = .ok (.lor, 1) := by decide +kernel
theorem dL_law_477 : decode cL_law 477 = .ok (.aload_n 0, 1) := by decide +kernel
theorem dL_law_478 : decode cL_law 478 = .ok (.iload_n 3, 1) := by decide +kernel
theorem dL_law_479 : decode cL_law 479 = .ok (.iconst 3, 1) := by decide +kernel
theorem dL_law_480 : decode cL_law 480 = .ok (.iadd, 1) := by decide +kernel
theorem dL_law_481 : decode cL_law 481 = .ok (.iaload, 1) := by decide +kernel
theorem dL_law_482 : decode cL_law 482 = .ok (.invokevirtual 50, 3) := by decide +kernel
theorem dL_law_485 : decode cL_law 485 = .ok (.if_icmp .eq 765, 3) := by decide +kernel
theorem dL_law_488 : decode cL_law 488 = .ok (.iconst 0, 1) := by decide +kernel
theorem dL_law_489 : decode cL_law 489 = .ok (.ireturn, 1) := by decide +kernel
theorem dL_law_490 : decode cL_law 490 = .ok (.aload_n 1, 1) := by decide +kernel
theorem dL_law_491 : decode cL_law 491 = .ok (.invokevirtual 51, 3) := by decide +kernel
theorem dL_law_494 : decode cL_law 494 = .ok (.aload_n 2, 1) := by decide +kernel
theorem dL_law_495 : decode cL_law 495 = .ok (.invokevirtual 55, 3) := by decide +kernel
theorem dL_law_498 : decode cL_law 498 = .ok (.if_icmp .eq 752, 3) := by decide +kernel
theorem dL_law_501 : decode cL_law 501 = .ok (.iconst 0, 1) := by decide +kernel
theorem dL_law_502 : decode cL_law 502 = .ok (.ireturn, 1) := by decide +kernel
theorem dL_law_503 : decode cL_law 503 = .ok (.aload_n 1, 1) := by decide +kernel
theorem dL_law_504 : decode cL_law 504 = .ok (.invokevirtual 56, 3) := by decide +kernel
theorem dL_law_507 : decode cL_law 507 = .ok (.aload_n 2, 1) := by decide +kernel
theorem dL_law_508 : decode cL_law 508 = .ok (.invokevirtual 59, 3) := by decide +kernel
theorem dL_law_511 : decode cL_law 511 = .ok (.if_icmp .eq 739, 3) := by decide +kernel
theorem dL_law_514 : decode cL_law 514 = .ok (.iconst 0, 1) := by decide +kernel
theorem dL_law_515 : decode cL_law 515 = .ok (.ireturn, 1) := by decide +kernel
theorem dL_law_516 : decode cL_law 516 = .ok (.aload_n 1, 1) := by decide +kernel
theorem dL_law_517 : decode cL_law 517 = .ok (.aload_n 0, 1) := by decide +kernel
theorem dL_law_518 : decode cL_law 518 = .ok (.iload_n 3, 1) := by decide +kernel
theorem dL_law_519 : decode cL_law 519 = .ok (.iconst 1, 1) := by decide +kernel
theorem dL_law_520 : decode cL_law 520 = .ok (.iadd, 1) := by decide +kernel
theorem dL_law_521 : decode cL_law 521 = .ok (.iaload, 1) := by decide +kernel
theorem dL_law_522 : decode cL_law 522 = .ok (.aload_n 0, 1) := by decide +kernel
theorem dL_law_523 : decode cL_law 523 = .ok (.iload_n 3, 1) := by decide +kernel
theorem dL_law_524 : decode cL_law 524 = .ok (.iconst 2, 1) := by decide +kernel
theorem dL_law_525 : decode cL_law 525 = .ok (.iadd, 1) := by decide +kernel
theorem dL_law_526 : decode cL_law 526 = .ok (.iaload, 1) := by decide +kernel
theorem dL_law_527 : decode cL_law 527 = .ok (.aload_n 0, 1) := by decide +kernel
theorem dL_law_528 : decode cL_law 528 = .ok (.iload_n 3, 1) := by decide +kernel
theorem dL_law_529 : decode cL_law 529 = .ok (.iconst 3, 1) := by decide +kernel
theorem dL_law_530 : decode cL_law 530 = .ok (.iadd, 1) := by decide +kernel
theorem dL_law_531 : decode cL_law 531 = .ok (.iaload, 1) := by decide +kernel
theorem dL_law_532 : decode cL_law 532 = .ok (.aload_n 0, 1) := by decide +kernel
theorem dL_law_533 : decode cL_law 533 = .ok (.iload_n 3, 1) := by decide +kernel
theorem dL_law_534 : decode cL_law 534 = .ok (.iconst 4, 1) := by decide +kernel
theorem dL_law_535 : decode cL_law 535 = .ok (.iadd, 1) := by decide +kernel
theorem dL_law_536 : decode cL_law 536 = .ok (.iaload, 1) := by decide +kernel
theorem dL_law_537 : decode cL_law 537 = .ok (.invokevirtual 60, 3) := by decide +kernel
theorem dL_law_540 : decode cL_law 540 = .ok (.aload_n 2, 1) := by decide +kernel
theorem dL_law_541 : decode cL_law 541 = .ok (.aload_n 0, 1) := by decide +kernel
theorem dL_law_542 : decode cL_law 542 = .ok (.iload_n 3, 1) := by decide +kernel
theorem dL_law_543 : decode cL_law 543 = .ok (.iconst 1, 1) := by decide +kernel
theorem dL_law_544 : decode cL_law 544 = .ok (.iadd, 1) := by decide +kernel
theorem dL_law_545 : decode cL_law 545 = .ok (.iaload, 1) := by decide +kernel
theorem dL_law_546 : decode cL_law 546 = .ok (.aload_n 0, 1) := by decide +kernel
theorem dL_law_547 : decode cL_law 547 = .ok (.iload_n 3, 1) := by decide +kernel
theorem dL_law_548 : decode cL_law 548 = .ok (.iconst 2, 1) := by decide +kernel
theorem dL_law_549 : decode cL_law 549 = .ok (.iadd, 1) := by decide +kernel
theorem dL_law_550 : decode cL_law 550 = .ok (.iaload, 1) := by decide +kernel
theorem dL_law_551 : decode cL_law 551 = .ok (.aload_n 0, 1) := by decide +kernel
theorem dL_law_552 : decode cL_law 552 = .ok (.iload_n 3, 1) := by decide +kernel
theorem dL_law_553 : decode cL_law 553 = .ok (.iconst 3, 1) := by decide +kernel
theorem dL_law_554 : decode cL_law 554 = .ok (.iadd, 1) := by decide +kernel
theorem dL_law_555 : decode cL_law 555 = .ok (.iaload, 1) := by decide +kernel
theorem dL_law_556 : decode cL_law 556 = .ok (.aload_n 0, 1) := by decide +kernel
theorem dL_law_557 : decode cL_law 557 = .ok (.iload_n 3, 1) := by decide +kernel
theorem dL_law_558 : decode cL_law 558 = .ok (.iconst 4, 1) := by decide +kernel
theorem dL_law_559 : decode cL_law 559 = .ok (.iadd, 1) := by decide +kernel
theorem dL_law_560 : decode cL_law 560 = .ok (.iaload, 1) := by decide +kernel
theorem dL_law_561 : decode cL_law 561 = .ok (.invokevirtual 64, 3) := by decide +kernel
theorem dL_law_564 : decode cL_law 564 = .ok (.if_icmp .eq 686, 3) := by decide +kernel
theorem dL_law_567 : decode cL_law 567 = .ok (.iconst 0, 1) := by decide +kernel
theorem dL_law_568 : decode cL_law 568 = .ok (.ireturn, 1) := by decide +kernel
theorem dL_law_569 : decode cL_law 569 = .ok (.aload_n 1, 1) := by decide +kernel
theorem dL_law_570 : decode cL_law 570 = .ok (.aload_n 0, 1) := by decide +kernel
theorem dL_law_571 : decode cL_law 571 = .ok (.iload_n 3, 1) := by decide +kernel
theorem dL_law_572 : decode cL_law 572 = .ok (.iconst 1, 1) := by decide +kernel
theorem dL_law_573 : decode cL_law 573 = .ok (.iadd, 1) := by decide +kernel
theorem dL_law_574 : decode cL_law 574 = .ok (.iaload, 1) := by decide +kernel
theorem dL_law_575 : decode cL_law 575 = .ok (.aload_n 0, 1) := by decide +kernel
theorem dL_law_576 : decode cL_law 576 = .ok (.iload_n 3, 1) := by decide +kernel
theorem dL_law_577 : decode cL_law 577 = .ok (.iconst 2, 1) := by decide +kernel
theorem dL_law_578 : decode cL_law 578 = .ok (.iadd, 1) := by decide +kernel
theorem dL_law_579 : decode cL_law 579 = .ok (.iaload, 1) := by decide +kernel
theorem dL_law_580 : decode cL_law 580 = .ok (.aload_n 0, 1) := by decide +kernel
theorem dL_law_581 : decode cL_law 581 = .ok (.iload_n 3, 1) := by decide +kernel
theorem dL_law_582 : decode cL_law 582 = .ok (.iconst 3, 1) := by decide +kernel
theorem dL_law_583 : decode cL_law 583 = .ok (.iadd, 1) := by decide +kernel
theorem dL_law_584 : decode cL_law 584 = .ok (.iaload, 1) := by decide +kernel
theorem dL_law_585 : decode cL_law 585 = .ok (.aload_n 0, 1) := by decide +kernel
theorem dL_law_586 : decode cL_law 586 = .ok (.iload_n 3, 1) := by decide +kernel
theorem dL_law_587 : decode cL_law 587 = .ok (.iconst 4, 1) := by decide +kernel
theorem dL_law_588 : decode cL_law 588 = .ok (.iadd, 1) := by decide +kernel
theorem dL_law_589 : decode cL_law 589 = .ok (.iaload, 1) := by decide +kernel
theorem dL_law_590 : decode cL_law 590 = .ok (.invokevirtual 65, 3) := by decide +kernel
theorem dL_law_593 : decode cL_law 593 = .ok (.aload_n 2, 1) := by decide +kernel
theorem dL_law_594 : decode cL_law 594 = .ok (.aload_n 0, 1) := by decide +kernel
theorem dL_law_595 : decode cL_law 595 = .ok (.iload_n 3, 1) := by decide +kernel
theorem dL_law_596 : decode cL_law 596 = .ok (.iconst 1, 1) := by decide +kernel
theorem dL_law_597 : decode cL_law 597 = .ok (.iadd, 1) := by decide +kernel
theorem dL_law_598 : decode cL_law 598 = .ok (.iaload, 1) := by decide +kernel
theorem dL_law_599 : decode cL_law 599 = .ok (.aload_n 0, 1) := by decide +kernel
theorem dL_law_600 : decode cL_law 600 = .ok (.iload_n 3, 1) := by decide +kernel
theorem dL_law_601 : decode cL_law 601 = .ok (.iconst 2, 1) := by decide +kernel
theorem dL_law_602 : decode cL_law 602 = .ok (.iadd, 1) := by decide +kernel
theorem dL_law_603 : decode cL_law 603 = .ok (.iaload, 1) := by decide +kernel
theorem dL_law_604 : decode cL_law 604 = .ok (.aload_n 0, 1) := by decide +kernel
theorem dL_law_605 : decode cL_law 605 = .ok (.iload_n 3, 1) := by decide +kernel
theorem dL_law_606 : decode cL_law 606 = .ok (.iconst 3, 1) := by decide +kernel
theorem dL_law_607 : decode cL_law 607 = .ok (.iadd, 1) := by decide +kernel
theorem dL_law_608 : decode cL_law 608 = .ok (.iaload, 1) := by decide +kernel
theorem dL_law_609 : decode cL_law 609 = .ok (.aload_n 0, 1) := by decide +kernel
theorem dL_law_610 : decode cL_law 610 = .ok (.iload_n 3, 1) := by decide +kernel
theorem dL_law_611 : decode cL_law 611 = .ok (.iconst 4, 1) := by decide +kernel
theorem dL_law_612 : decode cL_law 612 = .ok (.iadd, 1) := by decide +kernel
theorem dL_law_613 : decode cL_law 613 = .ok (.iaload, 1) := by decide +kernel
theorem dL_law_614 : decode cL_law 614 = .ok (.invokevirtual 68, 3) := by decide +kernel
theorem dL_law_617 : decode cL_law 617 = .ok (.if_icmp .eq 633, 3) := by decide +kernel
theorem dL_law_620 : decode cL_law 620 = .ok (.iconst 0, 1) := by decide +kernel
theorem dL_law_621 : decode cL_law 621 = .ok (.ireturn, 1) := by decide +kernel
theorem dL_law_622 : decode cL_law 622 = .ok (.aload_n 1, 1) := by decide +kernel
theorem dL_law_623 : decode cL_law 623 = .ok (.aload_n 0, 1) := by decide +kernel
theorem dL_law_624 : decode cL_law 624 = .ok (.iload_n 3, 1) := by decide +kernel
theorem dL_law_625 : decode cL_law 625 = .ok (.iconst 1, 1) := by decide +kernel
theorem dL_law_626 : decode cL_law 626 = .ok (.iadd, 1) := by decide +kernel
theorem dL_law_627 : decode cL_law 627 = .ok (.iaload, 1) := by decide +kernel
theorem dL_law_628 : decode cL_law 628 = .ok (.aload_n 0, 1) := by decide +kernel
theorem dL_law_629 : decode cL_law 629 = .ok (.iload_n 3, 1) := by decide +kernel
theorem dL_law_630 : decode cL_law 630 = .ok (.iconst 2, 1) := by decide +kernel
theorem dL_law_631 : decode cL_law 631 = .ok (.iadd, 1) := by decide +kernel
theorem dL_law_632 : decode cL_law 632 = .ok (.iaload, 1) := by decide +kernel
theorem dL_law_633 : decode cL_law 633 = .ok (.aload_n 0, 1) := by decide +kernel
theorem dL_law_634 : decode cL_law 634 = .ok (.iload_n 3, 1) := by decide +kernel
theorem dL_law_635 : decode cL_law 635 = .ok (.iconst 3, 1) := by decide +kernel
theorem dL_law_636 : decode cL_law 636 = .ok (.iadd, 1) := by decide +kernel
theorem dL_law_637 : decode cL_law 637 = .ok (.iaload, 1) := by decide +kernel
theorem dL_law_638 : decode cL_law 638 = .ok (.aload_n 0, 1) := by decide +kernel
theorem dL_law_639 : decode cL_law 639 = .ok (.iload_n 3, 1) := by decide +kernel
theorem dL_law_640 : decode cL_law 640 = .ok (.iconst 4, 1) := by decide +kernel
theorem dL_law_641 : decode cL_law 641 = .ok (.iadd, 1) := by decide +kernel
theorem dL_law_642 : decode cL_law 642 = .ok (.iaload, 1) := by decide +kernel
theorem dL_law_643 : decode cL_law 643 = .ok (.invokevirtual 69, 3) := by decide +kernel
theorem dL_law_646 : decode cL_law 646 = .ok (.aload_n 2, 1) := by decide +kernel
theorem dL_law_647 : decode cL_law 647 = .ok (.aload_n 0, 1) := by decide +kernel
theorem dL_law_648 : decode cL_law 648 = .ok (.iload_n 3, 1) := by decide +kernel
theorem dL_law_649 : decode cL_law 649 = .ok (.iconst 1, 1) := by decide +kernel
theorem dL_law_650 : decode cL_law 650 = .ok (.iadd, 1) := by decide +kernel
theorem dL_law_651 : decode cL_law 651 = .ok (.iaload, 1) := by decide +kernel
theorem dL_law_652 : decode cL_law 652 = .ok (.aload_n 0, 1) := by decide +kernel
theorem dL_law_653 : decode cL_law 653 = .ok (.iload_n 3, 1) := by decide +kernel
theorem dL_law_654 : decode cL_law 654 = .ok (.iconst 2, 1) := by decide +kernel
theorem dL_law_655 : decode cL_law 655 = .ok (.iadd, 1) := by decide +kernel
theorem dL_law_656 : decode cL_law 656 = .ok (.iaload, 1) := by decide +kernel
theorem dL_law_657 : decode cL_law 657 = .ok (.aload_n 0, 1) := by decide +kernel
theorem dL_law_658 : decode cL_law 658 = .ok (.iload_n 3, 1) := by decide +kernel
theorem dL_law_659 : decode cL_law 659 = .ok (.iconst 3, 1) := by decide +kernel
theorem dL_law_660 : decode cL_law 660 = .ok (.iadd, 1) := by decide +kernel
theorem dL_law_661 : decode cL_law 661 = .ok (.iaload, 1) := by decide +kernel
theorem dL_law_662 : decode cL_law 662 = .ok (.aload_n 0, 1) := by decide +kernel
theorem dL_law_663 : decode cL_law 663 = .ok (.iload_n 3, 1) := by decide +kernel
theorem dL_law_664 : decode cL_law 664 = .ok (.iconst 4, 1) := by decide +kernel
theorem dL_law_665 : decode cL_law 665 = .ok (.iadd, 1) := by decide +kernel
theorem dL_law_666 : decode cL_law 666 = .ok (.iaload, 1) := by decide +kernel
theorem dL_law_667 : decode cL_law 667 = .ok (.invokevirtual 72, 3) := by decide +kernel
theorem dL_law_670 : decode cL_law 670 = .ok (.if_icmp .eq 580, 3) := by decide +kernel
theorem dL_law_673 : decode cL_law 673 = .ok (.iconst 0, 1) := by decide +kernel
theorem dL_law_674 : decode cL_law 674 = .ok (.ireturn, 1) := by decide +kernel
theorem dL_law_675 : decode cL_law 675 = .ok (.aload_n 1, 1) := by decide +kernel
theorem dL_law_676 : decode cL_law 676 = .ok (.aload_n 0, 1) := by decide +kernel
theorem dL_law_677 : decode cL_law 677 = .ok (.iload_n 3, 1) := by decide +kernel
theorem dL_law_678 : decode cL_law 678 = .ok (.iconst 1, 1) := by decide +kernel
theorem dL_law_679 : decode cL_law 679 = .ok (.iadd, 1) := by decide +kernel
theorem dL_law_680 : decode cL_law 680 = .ok (.iaload, 1) := by decide +kernel
theorem dL_law_681 : decode cL_law 681 = .ok (.aload_n 0, 1) := by decide +kernel
theorem dL_law_682 : decode cL_law 682 = .ok (.iload_n 3, 1) := by decide +kernel
theorem dL_law_683 : decode cL_law 683 = .ok (.iconst 2, 1) := by decide +kernel
theorem dL_law_684 : decode cL_law 684 = .ok (.iadd, 1) := by decide +kernel
theorem dL_law_685 : decode cL_law 685 = .ok (.iaload, 1) := by decide +kernel
theorem dL_law_686 : decode cL_law 686 = .ok (.aload_n 0, 1) := by decide +kernel
theorem dL_law_687 : decode cL_law 687 = .ok (.iload_n 3, 1) := by decide +kernel
theorem dL_law_688 : decode cL_law 688 = .ok (.iconst 3, 1) := by decide +kernel
theorem dL_law_689 : decode cL_law 689 = .ok (.iadd, 1) := by decide +kernel
theorem dL_law_690 : decode cL_law 690 = .ok (.iaload, 1) := by decide +kernel
theorem dL_law_691 : decode cL_law 691 = .ok (.invokevirtual 73, 3) := by decide +kernel
theorem dL_law_694 : decode cL_law 694 = .ok (.aload_n 2, 1) := by decide +kernel
theorem dL_law_695 : decode cL_law 695 = .ok (.aload_n 0, 1) := by decide +kernel
theorem dL_law_696 : decode cL_law 696 = .ok (.iload_n 3, 1) := by decide +kernel
theorem dL_law_697 : decode cL_law 697 = .ok (.iconst 1, 1) := by decide +kernel
theorem dL_law_698 : decode cL_law 698 = .ok (.iadd, 1) := by decide +kernel
theorem dL_law_699 : decode cL_law 699 = .ok (.iaload, 1) := by decide +kernel
theorem dL_law_700 : decode cL_law 700 = .ok (.aload_n 0, 1) := by decide +kernel
theorem dL_law_701 : decode cL_law 701 = .ok (.iload_n 3, 1) := by decide +kernel
theorem dL_law_702 : decode cL_law 702 = .ok (.iconst 2, 1) := by decide +kernel
theorem dL_law_703 : decode cL_law 703 = .ok (.iadd, 1) := by decide +kernel
theorem dL_law_704 : decode cL_law 704 = .ok (.iaload, 1) := by decide +kernel
theorem dL_law_705 : decode cL_law 705 = .ok (.aload_n 0, 1) := by decide +kernel
theorem dL_law_706 : decode cL_law 706 = .ok (.iload_n 3, 1) := by decide +kernel
theorem dL_law_707 : decode cL_law 707 = .ok (.iconst 3, 1) := by decide +kernel
theorem dL_law_708 : decode cL_law 708 = .ok (.iadd, 1) := by decide +kernel
theorem dL_law_709 : decode cL_law 709 = .ok (.iaload, 1) := by decide +kernel
theorem dL_law_710 : decode cL_law 710 = .ok (.invokevirtual 76, 3) := by decide +kernel
theorem dL_law_713 : decode cL_law 713 = .ok (.if_icmp .eq 537, 3) := by decide +kernel
theorem dL_law_716 : decode cL_law 716 = .ok (.iconst 0, 1) := by decide +kernel
theorem dL_law_717 : decode cL_law 717 = .ok (.ireturn, 1) := by decide +kernel
theorem dL_law_718 : decode cL_law 718 = .ok (.aload_n 1, 1) := by decide +kernel
theorem dL_law_719 : decode cL_law 719 = .ok (.aload_n 0, 1) := by decide +kernel
theorem dL_law_720 : decode cL_law 720 = .ok (.iload_n 3, 1) := by decide +kernel
theorem dL_law_721 : decode cL_law 721 = .ok (.iconst 1, 1) := by decide +kernel
theorem dL_law_722 : decode cL_law 722 = .ok (.iadd, 1) := by decide +kernel
theorem dL_law_723 : decode cL_law 723 = .ok (.iaload, 1) := by decide +kernel
theorem dL_law_724 : decode cL_law 724 = .ok (.aload_n 0, 1) := by decide +kernel
theorem dL_law_725 : decode cL_law 725 = .ok (.iload_n 3, 1) := by decide +kernel
theorem dL_law_726 : decode cL_law 726 = .ok (.iconst 2, 1) := by decide +kernel
theorem dL_law_727 : decode cL_law 727 = .ok (.iadd, 1) := by decide +kernel
theorem dL_law_728 : decode cL_law 728 = .ok (.iaload, 1) := by decide +kernel
theorem dL_law_729 : decode cL_law 729 = .ok (.aload_n 0, 1) := by decide +kernel
theorem dL_law_730 : decode cL_law 730 = .ok (.iload_n 3, 1) := by decide +kernel
theorem dL_law_731 : decode cL_law 731 = .ok (.iconst 3, 1) := by decide +kernel
theorem dL_law_732 : decode cL_law 732 = .ok (.iadd, 1) := by decide +kernel
theorem dL_law_733 : decode cL_law 733 = .ok (.iaload, 1) := by decide +kernel
theorem dL_law_734 : decode cL_law 734 = .ok (.invokevirtual 77, 3) := by decide +kernel
theorem dL_law_737 : decode cL_law 737 = .ok (.aload_n 2, 1) := by decide +kernel
theorem dL_law_738 : decode cL_law 738 = .ok (.aload_n 0, 1) := by decide +kernel
theorem dL_law_739 : decode cL_law 739 = .ok (.iload_n 3, 1) := by decide +kernel
theorem dL_law_740 : decode cL_law 740 = .ok (.iconst 1, 1) := by decide +kernel
theorem dL_law_741 : decode cL_law 741 = .ok (.iadd, 1) := by decide +kernel
theorem dL_law_742 : decode cL_law 742 = .ok (.iaload, 1) := by decide +kernel
theorem dL_law_743 : decode cL_law 743 = .ok (.aload_n 0, 1) := by decide +kernel
theorem dL_law_744 : decode cL_law 744 = .ok (.iload_n 3, 1) := by decide +kernel
theorem dL_law_745 : decode cL_law 745 = .ok (.iconst 2, 1) := by decide +kernel
theorem dL_law_746 : decode cL_law 746 = .ok (.iadd, 1) := by decide +kernel
theorem dL_law_747 : decode cL_law 747 = .ok (.iaload, 1) := by decide +kernel
theorem dL_law_748 : decode cL_law 748 = .ok (.aload_n 0, 1) := by decide +kernel
theorem dL_law_749 : decode cL_law 749 = .ok (.iload_n 3, 1) := by decide +kernel
theorem dL_law_750 : decode cL_law 750 = .ok (.iconst 3, 1) := by decide +kernel
theorem dL_law_751 : decode cL_law 751 = .ok (.iadd, 1) := by decide +kernel
theorem dL_law_752 : decode cL_law 752 = .ok (.iaload, 1) := by decide +kernel
theorem dL_law_753 : decode cL_law 753 = .ok (.invokevirtual 80, 3) := by decide +kernel
theorem dL_law_756 : decode cL_law 756 = .ok (.if_icmp .eq 494, 3) := by decide +kernel
theorem dL_law_759 : decode cL_law 759 = .ok (.iconst 0, 1) := by decide +kernel
theorem dL_law_760 : decode cL_law 760 = .ok (.ireturn, 1) := by decide +kernel
theorem dL_law_761 : decode cL_law 761 = .ok (.aload_n 1, 1) := by decide +kernel
theorem dL_law_762 : decode cL_law 762 = .ok (.aload_n 0, 1) := by decide +kernel
theorem dL_law_763 : decode cL_law 763 = .ok (.iload_n 3, 1) := by decide +kernel
theorem dL_law_764 : decode cL_law 764 = .ok (.iconst 1, 1) := by decide +kernel
theorem dL_law_765 : decode cL_law 765 = .ok (.iadd, 1) := by decide +kernel
theorem dL_law_766 : decode cL_law 766 = .ok (.iaload, 1) := by decide +kernel
theorem dL_law_767 : decode cL_law 767 = .ok (.aload_n 0, 1) := by decide +kernel
theorem dL_law_768 : decode cL_law 768 = .ok (.iload_n 3, 1) := by decide +kernel
theorem dL_law_769 : decode cL_law 769 = .ok (.iconst 2, 1) := by decide +kernel
theorem dL_law_770 : decode cL_law 770 = .ok (.iadd, 1) := by decide +kernel
theorem dL_law_771 : decode cL_law 771 = .ok (.iaload, 1) := by decide +kernel
theorem dL_law_772 : decode cL_law 772 = .ok (.aload_n 0, 1) := by decide +kernel
theorem dL_law_773 : decode cL_law 773 = .ok (.iload_n 3, 1) := by decide +kernel
theorem dL_law_774 : decode cL_law 774 = .ok (.iconst 3, 1) := by decide +kernel
theorem dL_law_775 : decode cL_law 775 = .ok (.iadd, 1) := by decide +kernel
theorem dL_law_776 : decode cL_law 776 = .ok (.iaload, 1) := by decide +kernel
theorem dL_law_777 : decode cL_law 777 = .ok (.invokevirtual 81, 3) := by decide +kernel
theorem dL_law_780 : decode cL_law 780 = .ok (.aload_n 2, 1) := by decide +kernel
theorem dL_law_781 : decode cL_law 781 = .ok (.aload_n 0, 1) := by decide +kernel
theorem dL_law_782 : decode cL_law 782 = .ok (.iload_n 3, 1) := by decide +kernel
theorem dL_law_783 : decode cL_law 783 = .ok (.iconst 1, 1) := by decide +kernel
theorem dL_law_784 : decode cL_law 784 = .ok (.iadd, 1) := by decide +kernel
theorem dL_law_785 : decode cL_law 785 = .ok (.iaload, 1) := by decide +kernel
theorem dL_law_786 : decode cL_law 786 = .ok (.aload_n 0, 1) := by decide +kernel
theorem dL_law_787 : decode cL_law 787 = .ok (.iload_n 3, 1) := by decide +kernel
theorem dL_law_788 : decode cL_law 788 = .ok (.iconst 2, 1) := by decide +kernel
theorem dL_law_789 : decode cL_law 789 = .ok (.iadd, 1) := by decide +kernel
theorem dL_law_790 : decode cL_law 790 = .ok (.iaload, 1) := by decide +kernel
theorem dL_law_791 : decode cL_law 791 = .ok (.aload_n 0, 1) := by decide +kernel
theorem dL_law_792 : decode cL_law 792 = .ok (.iload_n 3, 1) := by decide +kernel
theorem dL_law_793 : decode cL_law 793 = .ok (.iconst 3, 1) := by decide +kernel
theorem dL_law_794 : decode cL_law 794 = .ok (.iadd, 1) := by decide +kernel
theorem dL_law_795 : decode cL_law 795 = .ok (.iaload, 1) := by decide +kernel
theorem dL_law_796 : decode cL_law 796 = .ok (.invokevirtual 84, 3) := by decide +kernel
theorem dL_law_799 : decode cL_law 799 = .ok (.if_icmp .eq 451, 3) := by decide +kernel
theorem dL_law_802 : decode cL_law 802 = .ok (.iconst 0, 1) := by decide +kernel
theorem dL_law_803 : decode cL_law 803 = .ok (.ireturn, 1) := by decide +kernel
theorem dL_law_804 : decode cL_law 804 = .ok (.aload_n 1, 1) := by decide +kernel
theorem dL_law_805 : decode cL_law 805 = .ok (.aload_n 0, 1) := by decide +kernel
theorem dL_law_806 : decode cL_law 806 = .ok (.iload_n 3, 1) := by decide +kernel
theorem dL_law_807 : decode cL_law 807 = .ok (.iconst 1, 1) := by decide +kernel
theorem dL_law_808 : decode cL_law 808 = .ok (.iadd, 1) := by decide +kernel
theorem dL_law_809 : decode cL_law 809 = .ok (.iaload, 1) := by decide +kernel
theorem dL_law_810 : decode cL_law 810 = .ok (.aload_n 0, 1) := by decide +kernel
theorem dL_law_811 : decode cL_law 811 = .ok (.iload_n 3, 1) := by decide +kernel
theorem dL_law_812 : decode cL_law 812 = .ok (.iconst 2, 1) := by decide +kernel
theorem dL_law_813 : decode cL_law 813 = .ok (.iadd, 1) := by decide +kernel
theorem dL_law_814 : decode cL_law 814 = .ok (.iaload, 1) := by decide +kernel
theorem dL_law_815 : decode cL_law 815 = .ok (.aload_n 0, 1) := by decide +kernel
theorem dL_law_816 : decode cL_law 816 = .ok (.iload_n 3, 1) := by decide +kernel
theorem dL_law_817 : decode cL_law 817 = .ok (.iconst 3, 1) := by decide +kernel
theorem dL_law_818 : decode cL_law 818 = .ok (.iadd, 1) := by decide +kernel
theorem dL_law_819 : decode cL_law 819 = .ok (.iaload, 1) := by decide +kernel
theorem dL_law_820 : decode cL_law 820 = .ok (.invokevirtual 85, 3) := by decide +kernel
theorem dL_law_823 : decode cL_law 823 = .ok (.aload_n 2, 1) := by decide +kernel
theorem dL_law_824 : decode cL_law 824 = .ok (.aload_n 0, 1) := by decide +kernel
theorem dL_law_825 : decode cL_law 825 = .ok (.iload_n 3, 1) := by decide +kernel
theorem dL_law_826 : decode cL_law 826 = .ok (.iconst 1, 1) := by decide +kernel
theorem dL_law_827 : decode cL_law 827 = .ok (.iadd, 1) := by decide +kernel
theorem dL_law_828 : decode cL_law 828 = .ok (.iaload, 1) := by decide +kernel
theorem dL_law_829 : decode cL_law 829 = .ok (.aload_n 0, 1) := by decide +kernel
theorem dL_law_830 : decode cL_law 830 = .ok (.iload_n 3, 1) := by decide +kernel
theorem dL_law_831 : decode cL_law 831 = .ok (.iconst 2, 1) := by decide +kernel
theorem dL_law_832 : decode cL_law 832 = .ok (.iadd, 1) := by decide +kernel
theorem dL_law_833 : decode cL_law 833 = .ok (.iaload, 1) := by decide +kernel
theorem dL_law_834 : decode cL_law 834 = .ok (.aload_n 0, 1) := by decide +kernel
theorem dL_law_835 : decode cL_law 835 = .ok (.iload_n 3, 1) := by decide +kernel
theorem dL_law_836 : decode cL_law 836 = .ok (.iconst 3, 1) := by decide +kernel
theorem dL_law_837 : decode cL_law 837 = .ok (.iadd, 1) := by decide +kernel
theorem dL_law_838 : decode cL_law 838 = .ok (.iaload, 1) := by decide +kernel
theorem dL_law_839 : decode cL_law 839 = .ok (.invokevirtual 88, 3) := by decide +kernel
theorem dL_law_842 : decode cL_law 842 = .ok (.if_icmp .eq 408, 3) := by decide +kernel
theorem dL_law_845 : decode cL_law 845 = .ok (.iconst 0, 1) := by decide +kernel
theorem dL_law_846 : decode cL_law 846 = .ok (.ireturn, 1) := by decide +kernel
theorem dL_law_847 : decode cL_law 847 = .ok (.aload_n 1, 1) := by decide +kernel
theorem dL_law_848 : decode cL_law 848 = .ok (.aload_n 0, 1) := by decide +kernel
theorem dL_law_849 : decode cL_law 849 = .ok (.iload_n 3, 1) := by decide +kernel
theorem dL_law_850 : decode cL_law 850 = .ok (.iconst 1, 1) := by decide +kernel
theorem dL_law_851 : decode cL_law 851 = .ok (.iadd, 1) := by decide +kernel
theorem dL_law_852 : decode cL_law 852 = .ok (.iaload, 1) := by decide +kernel
theorem dL_law_853 : decode cL_law 853 = .ok (.aload_n 0, 1) := by decide +kernel
theorem dL_law_854 : decode cL_law 854 = .ok (.iload_n 3, 1) := by decide +kernel
theorem dL_law_855 : decode cL_law 855 = .ok (.iconst 2, 1) := by decide +kernel
theorem dL_law_856 : decode cL_law 856 = .ok (.iadd, 1) := by decide +kernel
theorem dL_law_857 : decode cL_law 857 = .ok (.iaload, 1) := by decide +kernel
theorem dL_law_858 : decode cL_law 858 = .ok (.aload_n 0, 1) := by decide +kernel
theorem dL_law_859 : decode cL_law 859 = .ok (.iload_n 3, 1) := by decide +kernel
theorem dL_law_860 : decode cL_law 860 = .ok (.iconst 3, 1) := by decide +kernel
theorem dL_law_861 : decode cL_law 861 = .ok (.iadd, 1) := by decide +kernel
theorem dL_law_862 : decode cL_law 862 = .ok (.iaload, 1) := by decide +kernel
theorem dL_law_863 : decode cL_law 863 = .ok (.aload_n 0, 1) := by decide +kernel
theorem dL_law_864 : decode cL_law 864 = .ok (.iload_n 3, 1) := by decide +kernel
theorem dL_law_865 : decode cL_law 865 = .ok (.iconst 4, 1) := by decide +kernel
theorem dL_law_866 : decode cL_law 866 = .ok (.iadd, 1) := by decide +kernel
theorem dL_law_867 : decode cL_law 867 = .ok (.iaload, 1) := by decide +kernel
theorem dL_law_868 : decode cL_law 868 = .ok (.invokevirtual 89, 3) := by decide +kernel
theorem dL_law_871 : decode cL_law 871 = .ok (.aload_n 2, 1) := by decide +kernel
theorem dL_law_872 : decode cL_law 872 = .ok (.aload_n 0, 1) := by decide +kernel
theorem dL_law_873 : decode cL_law 873 = .ok (.iload_n 3, 1) := by decide +kernel
theorem dL_law_874 : decode cL_law 874 = .ok (.iconst 1, 1) := by decide +kernel
theorem dL_law_875 : decode cL_law 875 = .ok (.iadd, 1) := by decide +kernel
theorem dL_law_876 : decode cL_law 876 = .ok (.iaload, 1) := by decide +kernel
theorem dL_law_877 : decode cL_law 877 = .ok (.aload_n 0, 1) := by decide +kernel
theorem dL_law_878 : decode cL_law 878 = .ok (.iload_n 3, 1) := by decide +kernel
theorem dL_law_879 : decode cL_law 879 = .ok (.iconst 2, 1) := by decide +kernel
theorem dL_law_880 : decode cL_law 880 = .ok (.iadd, 1) := by decide +kernel
theorem dL_law_881 : decode cL_law 881 = .ok (.iaload, 1) := by decide +kernel
theorem dL_law_882 : decode cL_law 882 = .ok (.aload_n 0, 1) := by decide +kernel
theorem dL_law_883 : decode cL_law 883 = .ok (.iload_n 3, 1) := by decide +kernel
theorem dL_law_884 : decode cL_law 884 = .ok (.iconst 3, 1) := by decide +kernel
theorem dL_law_885 : decode cL_law 885 = .ok (.iadd, 1) := by decide +kernel
theorem dL_law_886 : decode cL_law 886 = .ok (.iaload, 1) := by decide +kernel
theorem dL_law_887 : decode cL_law 887 = .ok (.aload_n 0, 1) := by decide +kernel
theorem dL_law_888 : decode cL_law 888 = .ok (.iload_n 3, 1) := by decide +kernel
theorem dL_law_889 : decode cL_law 889 = .ok (.iconst 4, 1) := by decide +kernel
theorem dL_law_890 : decode cL_law 890 = .ok (.iadd, 1) := by decide +kernel
theorem dL_law_891 : decode cL_law 891 = .ok (.iaload, 1) := by decide +kernel
theorem dL_law_892 : decode cL_law 892 = .ok (.invokevirtual 92, 3) := by decide +kernel
theorem dL_law_895 : decode cL_law 895 = .ok (.if_icmp .eq 355, 3) := by decide +kernel
theorem dL_law_898 : decode cL_law 898 = .ok (.iconst 0, 1) := by decide +kernel
theorem dL_law_899 : decode cL_law 899 = .ok (.ireturn, 1) := by decide +kernel
theorem dL_law_900 : decode cL_law 900 = .ok (.aload_n 1, 1) := by decide +kernel
theorem dL_law_901 : decode cL_law 901 = .ok (.aload_n 0, 1) := by decide +kernel
theorem dL_law_902 : decode cL_law 902 = .ok (.iload_n 3, 1) := by decide +kernel
theorem dL_law_903 : decode cL_law 903 = .ok (.iconst 1, 1) := by decide +kernel
theorem dL_law_904 : decode cL_law 904 = .ok (.iadd, 1) := by decide +kernel
theorem dL_law_905 : decode cL_law 905 = .ok (.iaload, 1) := by decide +kernel
theorem dL_law_906 : decode cL_law 906 = .ok (.aload_n 0, 1) := by decide +kernel
theorem dL_law_907 : decode cL_law 907 = .ok (.iload_n 3, 1) := by decide +kernel
theorem dL_law_908 : decode cL_law 908 = .ok (.iconst 2, 1) := by decide +kernel
theorem dL_law_909 : decode cL_law 909 = .ok (.iadd, 1) := by decide +kernel
theorem dL_law_910 : decode cL_law 910 = .ok (.iaload, 1) := by decide +kernel
theorem dL_law_911 : decode cL_law 911 = .ok (.invokevirtual 93, 3) := by decide +kernel
theorem dL_law_914 : decode cL_law 914 = .ok (.aload_n 2, 1) := by decide +kernel
theorem dL_law_915 : decode cL_law 915 = .ok (.aload_n 0, 1) := by decide +kernel
theorem dL_law_916 : decode cL_law 916 = .ok (.iload_n 3, 1) := by decide +kernel
theorem dL_law_917 : decode cL_law 917 = .ok (.iconst 1, 1) := by decide +kernel
theorem dL_law_918 : decode cL_law 918 = .ok (.iadd, 1) := by decide +kernel
theorem dL_law_919 : decode cL_law 919 = .ok (.iaload, 1) := by decide +kernel
theorem dL_law_920 : decode cL_law 920 = .ok (.aload_n 0, 1) := by decide +kernel
theorem dL_law_921 : decode cL_law 921 = .ok (.iload_n 3, 1) := by decide +kernel
theorem dL_law_922 : decode cL_law 922 = .ok (.iconst 2, 1) := by decide +kernel
theorem dL_law_923 : decode cL_law 923 = .ok (.iadd, 1) := by decide +kernel
theorem dL_law_924 : decode cL_law 924 = .ok (.iaload, 1) := by decide +kernel
theorem dL_law_925 : decode cL_law 925 = .ok (.invokevirtual 96, 3) := by decide +kernel
theorem dL_law_928 : decode cL_law 928 = .ok (.if_icmp .eq 322, 3) := by decide +kernel
theorem dL_law_931 : decode cL_law 931 = .ok (.iconst 0, 1) := by decide +kernel
theorem dL_law_932 : decode cL_law 932 = .ok (.ireturn, 1) := by decide +kernel
theorem dL_law_933 : decode cL_law 933 = .ok (.aload_n 1, 1) := by decide +kernel
theorem dL_law_934 : decode cL_law 934 = .ok (.aload_n 0, 1) := by decide +kernel
theorem dL_law_935 : decode cL_law 935 = .ok (.iload_n 3, 1) := by decide +kernel
theorem dL_law_936 : decode cL_law 936 = .ok (.iconst 1, 1) := by decide +kernel
theorem dL_law_937 : decode cL_law 937 = .ok (.iadd, 1) := by decide +kernel
theorem dL_law_938 : decode cL_law 938 = .ok (.iaload, 1) := by decide +kernel
theorem dL_law_939 : decode cL_law 939 = .ok (.invokevirtual 97, 3) := by decide +kernel
theorem dL_law_942 : decode cL_law 942 = .ok (.aload_n 2, 1) := by decide +kernel
theorem dL_law_943 : decode cL_law 943 = .ok (.aload_n 0, 1) := by decide +kernel
theorem dL_law_944 : decode cL_law 944 = .ok (.iload_n 3, 1) := by decide +kernel
theorem dL_law_945 : decode cL_law 945 = .ok (.iconst 1, 1) := by decide +kernel
theorem dL_law_946 : decode cL_law 946 = .ok (.iadd, 1) := by decide +kernel
theorem dL_law_947 : decode cL_law 947 = .ok (.iaload, 1) := by decide +kernel
theorem dL_law_948 : decode cL_law 948 = .ok (.invokevirtual 101, 3) := by decide +kernel
theorem dL_law_951 : decode cL_law 951 = .ok (.lcmp, 1) := by decide +kernel
theorem dL_law_952 : decode cL_law 952 = .ok (.ifCond .eq 298, 3) := by decide +kernel
theorem dL_law_955 : decode cL_law 955 = .ok (.iconst 0, 1) := by decide +kernel
theorem dL_law_956 : decode cL_law 956 = .ok (.ireturn, 1) := by decide +kernel
theorem dL_law_957 : decode cL_law 957 = .ok (.aload_n 1, 1) := by decide +kernel
theorem dL_law_958 : decode cL_law 958 = .ok (.invokevirtual 102, 3) := by decide +kernel
theorem dL_law_961 : decode cL_law 961 = .ok (.aload_n 2, 1) := by decide +kernel
theorem dL_law_962 : decode cL_law 962 = .ok (.invokevirtual 105, 3) := by decide +kernel
theorem dL_law_965 : decode cL_law 965 = .ok (.if_icmp .eq 285, 3) := by decide +kernel
theorem dL_law_968 : decode cL_law 968 = .ok (.iconst 0, 1) := by decide +kernel
theorem dL_law_969 : decode cL_law 969 = .ok (.ireturn, 1) := by decide +kernel
theorem dL_law_970 : decode cL_law 970 = .ok (.aload_n 1, 1) := by decide +kernel
theorem dL_law_971 : decode cL_law 971 = .ok (.aload_n 0, 1) := by decide +kernel
theorem dL_law_972 : decode cL_law 972 = .ok (.iload_n 3, 1) := by decide +kernel
theorem dL_law_973 : decode cL_law 973 = .ok (.iconst 1, 1) := by decide +kernel
theorem dL_law_974 : decode cL_law 974 = .ok (.iadd, 1) := by decide +kernel
theorem dL_law_975 : decode cL_law 975 = .ok (.iaload, 1) := by decide +kernel
theorem dL_law_976 : decode cL_law 976 = .ok (.aload_n 0, 1) := by decide +kernel
theorem dL_law_977 : decode cL_law 977 = .ok (.iload_n 3, 1) := by decide +kernel
theorem dL_law_978 : decode cL_law 978 = .ok (.iconst 2, 1) := by decide +kernel
theorem dL_law_979 : decode cL_law 979 = .ok (.iadd, 1) := by decide +kernel
theorem dL_law_980 : decode cL_law 980 = .ok (.iaload, 1) := by decide +kernel
theorem dL_law_981 : decode cL_law 981 = .ok (.aload_n 0, 1) := by decide +kernel
theorem dL_law_982 : decode cL_law 982 = .ok (.iload_n 3, 1) := by decide +kernel
theorem dL_law_983 : decode cL_law 983 = .ok (.iconst 3, 1) := by decide +kernel
theorem dL_law_984 : decode cL_law 984 = .ok (.iadd, 1) := by decide +kernel
theorem dL_law_985 : decode cL_law 985 = .ok (.iaload, 1) := by decide +kernel
theorem dL_law_986 : decode cL_law 986 = .ok (.ifCond .eq 7, 3) := by decide +kernel
theorem dL_law_989 : decode cL_law 989 = .ok (.iconst 1, 1) := by decide +kernel
theorem dL_law_990 : decode cL_law 990 = .ok (.goto 4, 3) := by decide +kernel
theorem dL_law_993 : decode cL_law 993 = .ok (.iconst 0, 1) := by decide +kernel
theorem dL_law_994 : decode cL_law 994 = .ok (.invokevirtual 106, 3) := by decide +kernel
theorem dL_law_997 : decode cL_law 997 = .ok (.aload_n 2, 1) := by decide +kernel
theorem dL_law_998 : decode cL_law 998 = .ok (.aload_n 0, 1) := by decide +kernel
theorem dL_law_999 : decode cL_law 999 = .ok (.iload_n 3, 1) := by decide +kernel
theorem dL_law_1000 : decode cL_law 1000 = .ok (.iconst 1, 1) := by decide +kernel
theorem dL_law_1001 : decode cL_law 1001 = .ok (.iadd, 1) := by decide +kernel
theorem dL_law_1002 : decode cL_law 1002 = .ok (.iaload, 1) := by decide +kernel
theorem dL_law_1003 : decode cL_law 1003 = .ok (.aload_n 0, 1) := by decide +kernel
theorem dL_law_1004 : decode cL_law 1004 = .ok (.iload_n 3, 1) := by decide +kernel
theorem dL_law_1005 : decode cL_law 1005 = .ok (.iconst 2, 1) := by decide +kernel
theorem dL_law_1006 : decode cL_law 1006 = .ok (.iadd, 1) := by decide +kernel
theorem dL_law_1007 : decode cL_law 1007 = .ok (.iaload, 1) := by decide +kernel
theorem dL_law_1008 : decode cL_law 1008 = .ok (.aload_n 0, 1) := by decide +kernel
theorem dL_law_1009 : decode cL_law 1009 = .ok (.iload_n 3, 1) := by decide +kernel
theorem dL_law_1010 : decode cL_law 1010 = .ok (.iconst 3, 1) := by decide +kernel
theorem dL_law_1011 : decode cL_law 1011 = .ok (.iadd, 1) := by decide +kernel
theorem dL_law_1012 : decode cL_law 1012 = .ok (.iaload, 1) := by decide +kernel
theorem dL_law_1013 : decode cL_law 1013 = .ok (.ifCond .eq 7, 3) := by decide +kernel
theorem dL_law_1016 : decode cL_law 1016 = .ok (.iconst 1, 1) := by decide +kernel
theorem dL_law_1017 : decode cL_law 1017 = .ok (.goto 4, 3) := by decide +kernel
theorem dL_law_1020 : decode cL_law 1020 = .ok (.iconst 0, 1) := by decide +kernel
theorem dL_law_1021 : decode cL_law 1021 = .ok (.invokevirtual 110, 3) := by decide +kernel
theorem dL_law_1024 : decode cL_law 1024 = .ok (.if_icmp .eq 226, 3) := by decide +kernel
theorem dL_law_1027 : decode cL_law 1027 = .ok (.iconst 0, 1) := by decide +kernel
theorem dL_law_1028 : decode cL_law 1028 = .ok (.ireturn, 1) := by decide +kernel
theorem dL_law_1029 : decode cL_law 1029 = .ok (.aload_n 1, 1) := by decide +kernel
theorem dL_law_1030 : decode cL_law 1030 = .ok (.invokevirtual 111, 3) := by decide +kernel
theorem dL_law_1033 : decode cL_law 1033 = .ok (.aload_n 2, 1) := by decide +kernel
theorem dL_law_1034 : decode cL_law 1034 = .ok (.invokevirtual 114, 3) := by decide +kernel
theorem dL_law_1037 : decode cL_law 1037 = .ok (.if_icmp .eq 213, 3) := by decide +kernel
theorem dL_law_1040 : decode cL_law 1040 = .ok (.iconst 0, 1) := by decide +kernel
theorem dL_law_1041 : decode cL_law 1041 = .ok (.ireturn, 1) := by decide +kernel
theorem dL_law_1042 : decode cL_law 1042 = .ok (.aload_n 1, 1) := by decide +kernel
theorem dL_law_1043 : decode cL_law 1043 = .ok (.aload_n 0, 1) := by decide +kernel
theorem dL_law_1044 : decode cL_law 1044 = .ok (.iload_n 3, 1) := by decide +kernel
theorem dL_law_1045 : decode cL_law 1045 = .ok (.iconst 1, 1) := by decide +kernel
theorem dL_law_1046 : decode cL_law 1046 = .ok (.iadd, 1) := by decide +kernel
theorem dL_law_1047 : decode cL_law 1047 = .ok (.iaload, 1) := by decide +kernel
theorem dL_law_1048 : decode cL_law 1048 = .ok (.invokevirtual 115, 3) := by decide +kernel
theorem dL_law_1051 : decode cL_law 1051 = .ok (.aload_n 2, 1) := by decide +kernel
theorem dL_law_1052 : decode cL_law 1052 = .ok (.aload_n 0, 1) := by decide +kernel
theorem dL_law_1053 : decode cL_law 1053 = .ok (.iload_n 3, 1) := by decide +kernel
theorem dL_law_1054 : decode cL_law 1054 = .ok (.iconst 1, 1) := by decide +kernel
theorem dL_law_1055 : decode cL_law 1055 = .ok (.iadd, 1) := by decide +kernel
theorem dL_law_1056 : decode cL_law 1056 = .ok (.iaload, 1) := by decide +kernel
theorem dL_law_1057 : decode cL_law 1057 = .ok (.invokevirtual 118, 3) := by decide +kernel
theorem dL_law_1060 : decode cL_law 1060 = .ok (.if_icmp .eq 190, 3) := by decide +kernel
theorem dL_law_1063 : decode cL_law 1063 = .ok (.iconst 0, 1) := by decide +kernel
theorem dL_law_1064 : decode cL_law 1064 = .ok (.ireturn, 1) := by decide +kernel
theorem dL_law_1065 : decode cL_law 1065 = .ok (.aload_n 1, 1) := by decide +kernel
theorem dL_law_1066 : decode cL_law 1066 = .ok (.aload_n 0, 1) := by decide +kernel
theorem dL_law_1067 : decode cL_law 1067 = .ok (.iload_n 3, 1) := by decide +kernel
theorem dL_law_1068 : decode cL_law 1068 = .ok (.iconst 1, 1) := by decide +kernel
theorem dL_law_1069 : decode cL_law 1069 = .ok (.iadd, 1) := by decide +kernel
theorem dL_law_1070 : decode cL_law 1070 = .ok (.iaload, 1) := by decide +kernel
theorem dL_law_1071 : decode cL_law 1071 = .ok (.invokevirtual 119, 3) := by decide +kernel
theorem dL_law_1074 : decode cL_law 1074 = .ok (.aload_n 2, 1) := by decide +kernel
theorem dL_law_1075 : decode cL_law 1075 = .ok (.aload_n 0, 1) := by decide +kernel
theorem dL_law_1076 : decode cL_law 1076 = .ok (.iload_n 3, 1) := by decide +kernel
theorem dL_law_1077 : decode cL_law 1077 = .ok (.iconst 1, 1) := by decide +kernel
theorem dL_law_1078 : decode cL_law 1078 = .ok (.iadd, 1) := by decide +kernel
theorem dL_law_1079 : decode cL_law 1079 = .ok (.iaload, 1) := by decide +kernel
theorem dL_law_1080 : decode cL_law 1080 = .ok (.invokevirtual 122, 3) := by decide +kernel
theorem dL_law_1083 : decode cL_law 1083 = .ok (.if_icmp .eq 167, 3) := by decide +kernel
theorem dL_law_1086 : decode cL_law 1086 = .ok (.iconst 0, 1) := by decide +kernel
theorem dL_law_1087 : decode cL_law 1087 = .ok (.ireturn, 1) := by decide +kernel
theorem dL_law_1088 : decode cL_law 1088 = .ok (.aload_n 1, 1) := by decide +kernel
theorem dL_law_1089 : decode cL_law 1089 = .ok (.aload_n 0, 1) := by decide +kernel
theorem dL_law_1090 : decode cL_law 1090 = .ok (.iload_n 3, 1) := by decide +kernel
theorem dL_law_1091 : decode cL_law 1091 = .ok (.iconst 1, 1) := by decide +kernel
theorem dL_law_1092 : decode cL_law 1092 = .ok (.iadd, 1) := by decide +kernel
theorem dL_law_1093 : decode cL_law 1093 = .ok (.iaload, 1) := by decide +kernel
theorem dL_law_1094 : decode cL_law 1094 = .ok (.aload_n 0, 1) := by decide +kernel
theorem dL_law_1095 : decode cL_law 1095 = .ok (.iload_n 3, 1) := by decide +kernel
theorem dL_law_1096 : decode cL_law 1096 = .ok (.iconst 2, 1) := by decide +kernel
theorem dL_law_1097 : decode cL_law 1097 = .ok (.iadd, 1) := by decide +kernel
theorem dL_law_1098 : decode cL_law 1098 = .ok (.iaload, 1) := by decide +kernel
theorem dL_law_1099 : decode cL_law 1099 = .ok (.invokevirtual 123, 3) := by decide +kernel
theorem dL_law_1102 : decode cL_law 1102 = .ok (.aload_n 2, 1) := by decide +kernel
theorem dL_law_1103 : decode cL_law 1103 = .ok (.aload_n 0, 1) := by decide +kernel
theorem dL_law_1104 : decode cL_law 1104 = .ok (.iload_n 3, 1) := by decide +kernel
theorem dL_law_1105 : decode cL_law 1105 = .ok (.iconst 1, 1) := by decide +kernel
theorem dL_law_1106 : decode cL_law 1106 = .ok (.iadd, 1) := by decide +kernel
theorem dL_law_1107 : decode cL_law 1107 = .ok (.iaload, 1) := by decide +kernel
theorem dL_law_1108 : decode cL_law 1108 = .ok (.aload_n 0, 1) := by decide +kernel
theorem dL_law_1109 : decode cL_law 1109 = .ok (.iload_n 3, 1) := by decide +kernel
theorem dL_law_1110 : decode cL_law 1110 = .ok (.iconst 2, 1) := by decide +kernel
theorem dL_law_1111 : decode cL_law 1111 = .ok (.iadd, 1) := by decide +kernel
theorem dL_law_1112 : decode cL_law 1112 = .ok (.iaload, 1) := by decide +kernel
theorem dL_law_1113 : decode cL_law 1113 = .ok (.invokevirtual 126, 3) := by decide +kernel
theorem dL_law_1116 : decode cL_law 1116 = .ok (.if_icmp .eq 134, 3) := by decide +kernel
theorem dL_law_1119 : decode cL_law 1119 = .ok (.iconst 0, 1) := by decide +kernel
theorem dL_law_1120 : decode cL_law 1120 = .ok (.ireturn, 1) := by decide +kernel
theorem dL_law_1121 : decode cL_law 1121 = .ok (.aload_n 1, 1) := by decide +kernel
theorem dL_law_1122 : decode cL_law 1122 = .ok (.aload_n 0, 1) := by decide +kernel
theorem dL_law_1123 : decode cL_law 1123 = .ok (.iload_n 3, 1) := by decide +kernel
theorem dL_law_1124 : decode cL_law 1124 = .ok (.iconst 1, 1) := by decide +kernel
theorem dL_law_1125 : decode cL_law 1125 = .ok (.iadd, 1) := by decide +kernel
theorem dL_law_1126 : decode cL_law 1126 = .ok (.iaload, 1) := by decide +kernel
theorem dL_law_1127 : decode cL_law 1127 = .ok (.invokevirtual 127, 3) := by decide +kernel
theorem dL_law_1130 : decode cL_law 1130 = .ok (.aload_n 2, 1) := by decide +kernel
theorem dL_law_1131 : decode cL_law 1131 = .ok (.aload_n 0, 1) := by decide +kernel
theorem dL_law_1132 : decode cL_law 1132 = .ok (.iload_n 3, 1) := by decide +kernel
theorem dL_law_1133 : decode cL_law 1133 = .ok (.iconst 1, 1) := by decide +kernel
theorem dL_law_1134 : decode cL_law 1134 = .ok (.iadd, 1) := by decide +kernel
theorem dL_law_1135 : decode cL_law 1135 = .ok (.iaload, 1) := by decide +kernel
theorem dL_law_1136 : decode cL_law 1136 = .ok (.invokevirtual 130, 3) := by decide +kernel
theorem dL_law_1139 : decode cL_law 1139 = .ok (.if_icmp .eq 111, 3) := by decide +kernel
theorem dL_law_1142 : decode cL_law 1142 = .ok (.iconst 0, 1) := by decide +kernel
theorem dL_law_1143 : decode cL_law 1143 = .ok (.ireturn, 1) := by decide +kernel
theorem dL_law_1144 : decode cL_law 1144 = .ok (.aload_n 1, 1) := by decide +kernel
theorem dL_law_1145 : decode cL_law 1145 = .ok (.aload_n 0, 1) := by decide +kernel
theorem dL_law_1146 : decode cL_law 1146 = .ok (.iload_n 3, 1) := by decide +kernel
theorem dL_law_1147 : decode cL_law 1147 = .ok (.iconst 1, 1) := by decide +kernel
theorem dL_law_1148 : decode cL_law 1148 = .ok (.iadd, 1) := by decide +kernel
theorem dL_law_1149 : decode cL_law 1149 = .ok (.iaload, 1) := by decide +kernel
theorem dL_law_1150 : decode cL_law 1150 = .ok (.invokevirtual 131, 3) := by decide +kernel
theorem dL_law_1153 : decode cL_law 1153 = .ok (.aload_n 2, 1) := by decide +kernel
theorem dL_law_1154 : decode cL_law 1154 = .ok (.aload_n 0, 1) := by decide +kernel
theorem dL_law_1155 : decode cL_law 1155 = .ok (.iload_n 3, 1) := by decide +kernel
theorem dL_law_1156 : decode cL_law 1156 = .ok (.iconst 1, 1) := by decide +kernel
theorem dL_law_1157 : decode cL_law 1157 = .ok (.iadd, 1) := by decide +kernel
theorem dL_law_1158 : decode cL_law 1158 = .ok (.iaload, 1) := by decide +kernel
theorem dL_law_1159 : decode cL_law 1159 = .ok (.invokevirtual 134, 3) := by decide +kernel
theorem dL_law_1162 : decode cL_law 1162 = .ok (.if_icmp .eq 88, 3) := by decide +kernel
theorem dL_law_1165 : decode cL_law 1165 = .ok (.iconst 0, 1) := by decide +kernel
theorem dL_law_1166 : decode cL_law 1166 = .ok (.ireturn, 1) := by decide +kernel
theorem dL_law_1167 : decode cL_law 1167 = .ok (.aload_n 1, 1) := by decide +kernel
theorem dL_law_1168 : decode cL_law 1168 = .ok (.aload_n 0, 1) := by decide +kernel
theorem dL_law_1169 : decode cL_law 1169 = .ok (.iload_n 3, 1) := by decide +kernel
theorem dL_law_1170 : decode cL_law 1170 = .ok (.iconst 1, 1) := by decide +kernel
theorem dL_law_1171 : decode cL_law 1171 = .ok (.iadd, 1) := by decide +kernel
theorem dL_law_1172 : decode cL_law 1172 = .ok (.iaload, 1) := by decide +kernel
theorem dL_law_1173 : decode cL_law 1173 = .ok (.invokevirtual 135, 3) := by decide +kernel
theorem dL_law_1176 : decode cL_law 1176 = .ok (.aload_n 2, 1) := by decide +kernel
theorem dL_law_1177 : decode cL_law 1177 = .ok (.aload_n 0, 1) := by decide +kernel
theorem dL_law_1178 : decode cL_law 1178 = .ok (.iload_n 3, 1) := by decide +kernel
theorem dL_law_1179 : decode cL_law 1179 = .ok (.iconst 1, 1) := by decide +kernel
theorem dL_law_1180 : decode cL_law 1180 = .ok (.iadd, 1) := by decide +kernel
theorem dL_law_1181 : decode cL_law 1181 = .ok (.iaload, 1) := by decide +kernel
theorem dL_law_1182 : decode cL_law 1182 = .ok (.invokevirtual 138, 3) := by decide +kernel
theorem dL_law_1185 : decode cL_law 1185 = .ok (.if_icmp .eq 65, 3) := by decide +kernel
theorem dL_law_1188 : decode cL_law 1188 = .ok (.iconst 0, 1) := by decide +kernel
theorem dL_law_1189 : decode cL_law 1189 = .ok (.ireturn, 1) := by decide +kernel
theorem dL_law_1190 : decode cL_law 1190 = .ok (.aload_n 1, 1) := by decide +kernel
theorem dL_law_1191 : decode cL_law 1191 = .ok (.aload_n 0, 1) := by decide +kernel
theorem dL_law_1192 : decode cL_law 1192 = .ok (.iload_n 3, 1) := by decide +kernel
theorem dL_law_1193 : decode cL_law 1193 = .ok (.iconst 1, 1) := by decide +kernel
theorem dL_law_1194 : decode cL_law 1194 = .ok (.iadd, 1) := by decide +kernel
theorem dL_law_1195 : decode cL_law 1195 = .ok (.iaload, 1) := by decide +kernel
theorem dL_law_1196 : decode cL_law 1196 = .ok (.invokevirtual 139, 3) := by decide +kernel
theorem dL_law_1199 : decode cL_law 1199 = .ok (.aload_n 2, 1) := by decide +kernel
theorem dL_law_1200 : decode cL_law 1200 = .ok (.aload_n 0, 1) := by decide +kernel
theorem dL_law_1201 : decode cL_law 1201 = .ok (.iload_n 3, 1) := by decide +kernel
theorem dL_law_1202 : decode cL_law 1202 = .ok (.iconst 1, 1) := by decide +kernel
theorem dL_law_1203 : decode cL_law 1203 = .ok (.iadd, 1) := by decide +kernel
theorem dL_law_1204 : decode cL_law 1204 = .ok (.iaload, 1) := by decide +kernel
theorem dL_law_1205 : decode cL_law 1205 = .ok (.invokevirtual 142, 3) := by decide +kernel
theorem dL_law_1208 : decode cL_law 1208 = .ok (.if_icmp .eq 42, 3) := by decide +kernel
theorem dL_law_1211 : decode cL_law 1211 = .ok (.iconst 0, 1) := by decide +kernel
theorem dL_law_1212 : decode cL_law 1212 = .ok (.ireturn, 1) := by decide +kernel
theorem dL_law_1213 : decode cL_law 1213 = .ok (.aload_n 1, 1) := by decide +kernel
theorem dL_law_1214 : decode cL_law 1214 = .ok (.aload_n 0, 1) := by decide +kernel
theorem dL_law_1215 : decode cL_law 1215 = .ok (.iload_n 3, 1) := by decide +kernel
theorem dL_law_1216 : decode cL_law 1216 = .ok (.iconst 1, 1) := by decide +kernel
theorem dL_law_1217 : decode cL_law 1217 = .ok (.iadd, 1) := by decide +kernel
theorem dL_law_1218 : decode cL_law 1218 = .ok (.iaload, 1) := by decide +kernel
theorem dL_law_1219 : decode cL_law 1219 = .ok (.invokevirtual 143, 3) := by decide +kernel
theorem dL_law_1222 : decode cL_law 1222 = .ok (.aload_n 2, 1) := by decide +kernel
theorem dL_law_1223 : decode cL_law 1223 = .ok (.aload_n 0, 1) := by decide +kernel
theorem dL_law_1224 : decode cL_law 1224 = .ok (.iload_n 3, 1) := by decide +kernel
theorem dL_law_1225 : decode cL_law 1225 = .ok (.iconst 1, 1) := by decide +kernel
theorem dL_law_1226 : decode cL_law 1226 = .ok (.iadd, 1) := by decide +kernel
theorem dL_law_1227 : decode cL_law 1227 = .ok (.iaload, 1) := by decide +kernel
theorem dL_law_1228 : decode cL_law 1228 = .ok (.invokevirtual 146, 3) := by decide +kernel
theorem dL_law_1231 : decode cL_law 1231 = .ok (.if_icmp .eq 19, 3) := by decide +kernel
theorem dL_law_1234 : decode cL_law 1234 = .ok (.iconst 0, 1) := by decide +kernel
theorem dL_law_1235 : decode cL_law 1235 = .ok (.ireturn, 1) := by decide +kernel
theorem dL_law_1236 : decode cL_law 1236 = .ok (.aload_n 1, 1) := by decide +kernel
theorem dL_law_1237 : decode cL_law 1237 = .ok (.invokevirtual 147, 3) := by decide +kernel
theorem dL_law_1240 : decode cL_law 1240 = .ok (.aload_n 2, 1) := by decide +kernel
theorem dL_law_1241 : decode cL_law 1241 = .ok (.invokevirtual 151, 3) := by decide +kernel
theorem dL_law_1244 : decode cL_law 1244 = .ok (.lcmp, 1) := by decide +kernel
theorem dL_law_1245 : decode cL_law 1245 = .ok (.ifCond .eq 5, 3) := by decide +kernel
theorem dL_law_1248 : decode cL_law 1248 = .ok (.iconst 0, 1) := by decide +kernel
theorem dL_law_1249 : decode cL_law 1249 = .ok (.ireturn, 1) := by decide +kernel
theorem dL_law_1250 : decode cL_law 1250 = .ok (.iinc 3 5, 3) := by decide +kernel
theorem dL_law_1253 : decode cL_law 1253 = .ok (.goto (-1235), 3) := by decide +kernel
theorem dL_law_1256 : decode cL_law 1256 = .ok (.iconst 1, 1) := by decide +kernel
theorem dL_law_1257 : decode cL_law 1257 = .ok (.ireturn, 1) := by decide +kernel
end
section
/-! THE PURE HEAP: cells by numbers, references are numbers; 'ad' says where a cell lies -/
abbrev PH : Type := Nat → va_E
def rv (ad : Nat → Nat) (v : Value) : Value := match v with
  | .ref a => .ref (ad a)
  | u => u
def rA (ad : Nat → Nat) (a : vp_A) : vp_A := (a.1, match a.2 with
  | .inr (.inr (.inr (.inr g))) => .inr (.inr (.inr (.inr (fun j => (g j).map ad))))
  | x => x)
def rE (ad aC : Nat → Nat) (e : va_E) : va_E := match e with
  | .inl a => .inl (aC a.1, rA ad a.2)
  | .inr o => .inr (o.1, o.2.map (rv ad))
def NC : Nat := 87
def wsO (ad aC : Nat → Nat) (hp : PH) : va_W := (List.range NC).map (fun k => (ad k, rE ad aC (hp k)))
theorem wsO_get (ad aC : Nat → Nat) (hp : PH) {k : Nat} (hk : k < NC) : (wsO ad aC hp)[k]? = some (ad k, rE ad aC (hp k)) := by
  simp [wsO, hk]
theorem wsO_some {ad aC : Nat → Nat} {hp : PH} {k : Nat} {q : Nat × va_E} (h : (wsO ad aC hp)[k]? = some q) : k < NC ∧ q = (ad k, rE ad aC (hp k)) := by
  have hk : k < NC := by
    have := (List.getElem?_eq_some_iff.mp h).1
    simpa [wsO] using this
  rw [wsO_get ad aC hp hk] at h
  exact ⟨hk, (Option.some.inj h).symm⟩
theorem wsO_set (ad aC : Nat → Nat) (hp : PH) {k : Nat} (hk : k < NC) (x : va_E) : (wsO ad aC hp).set k (ad k, rE ad aC x) = wsO ad aC (va_up hp k x) := by
  apply List.ext_getElem?
  intro j
  by_cases hj : j < NC
  · rw [wsO_get ad aC _ hj]
    by_cases h : j = k
    · subst h
      rw [List.getElem?_set_self (by simpa [wsO] using hk), va_up_self]
    · rw [List.getElem?_set_ne (Ne.symm h), wsO_get ad aC _ hj, va_up_ne _ _ h]
  · rw [List.getElem?_eq_none (by simpa [wsO] using Nat.le_of_not_lt hj), List.getElem?_eq_none (by simpa [wsO] using Nat.le_of_not_lt hj)]
/-- what a walk is about: the launch, the classes' numbers, the array classes, where cells lie, the table of months, the script -/
abbrev GK : Type := Launch × va_G × (Nat → Nat) × (Nat → Nat) × (Nat × Nat × Nat × (Nat → Int32)) × ((Nat → Nat) × (Nat → Nat))
abbrev gl (K : GK) : Launch := K.1
abbrev gD (K : GK) : va_G := K.2.1
abbrev gC (K : GK) : Nat → Nat := K.2.2.1
abbrev ga (K : GK) : Nat → Nat := K.2.2.2.1
abbrev gm (K : GK) : Nat := K.2.2.2.2.1.1
abbrev gb (K : GK) : Nat := K.2.2.2.2.1.2.1
abbrev gL (K : GK) : Nat := K.2.2.2.2.1.2.2.1
abbrev gx (K : GK) : Nat → Int32 := K.2.2.2.2.1.2.2.2
abbrev gsK (K : GK) : Nat → Nat := K.2.2.2.2.2.1
abbrev gsV (K : GK) : Nat → Nat := K.2.2.2.2.2.2
/-- a method: its class, code, locals, answer, name -/
abbrev MK : Type := String × ByteArray × Nat × Option FieldType × MethodName
abbrev mO (M : MK) : String := M.1
abbrev mC (M : MK) : ByteArray := M.2.1
abbrev mL (M : MK) : Nat := M.2.2.1
abbrev mR (M : MK) : Option FieldType := M.2.2.2.1
abbrev mY (M : MK) : MethodName := M.2.2.2.2
def AA (K : GK) : Nat → Prop := fun q => ∃ k, k < NC ∧ q = ga K k
def tyK (K : GK) : List (ClassId × FieldType) := [(gC K 0, .int), (gC K 1, .boolean), (gC K 2, .long), (gC K 3, .object "AgesTens$State")]
def Wd (K : GK) (hp : PH) (H : Heap) : Prop := va_P (gD K) vwCl (wsO (ga K) (gC K) hp) H
def mpL : List Int32 := [0, 31, 60, 91, 121, 152, 182, 213, 244, 274, 305, 335, 366]
def mpF (j : Nat) : Int32 := mpL.getD j 0
def skN : Nat := 4
def skL : List Nat := [6, 4, 4, 5]
def skB : List (List Int32) := [[112, 101, 114, 115, 111, 110], [103, 97, 116, 101], [119, 105, 116, 104], [97, 112, 97, 114, 116]]
def FX (K : GK) (U : State) (H : Heap) : Prop :=
  va_K (gD K) vwCl (tyK K) U ∧ (∀ i j, i < NC → j < NC → ga K i = ga K j → i = j) ∧ va_Z "AgesTens$Calendar" "MONTH_PLACES" "[I" (.ref (gm K)) (AA K) U H ∧ va_T .int (gm K) 13 (fun j => .int (mpF j)) (AA K) U H ∧ vk_S skN skL skB (gsK K) (gsV K) (AA K) U H ∧
  va_T .int (gb K) (gL K) (fun j => .int (gx K j)) (AA K) U H
theorem FX.go {K : GK} {s U : State} {H : Heap} {locs : List Loc} (h : FX K s s.heap) (hS : va_S (AA K) s.heap H locs) (hW : s.vm.Alike U.vm) : FX K U H := by
  obtain ⟨h1, h2, h3, h4, h5, h6⟩ := h
  exact ⟨h1.moved hW, h2, (h3.moved hW).kept hS.2.1, (h4.moved hW).kept hS.2.1, (h5.moved hW).kept hS.2.1, (h6.moved hW).kept hS.2.1⟩
theorem FX.D {K : GK} {U : State} {H : Heap} (h : FX K U H) (hp : PH) : va_D (AA K) (wsO (ga K) (gC K) hp) := by
  refine ⟨fun i j x y hi hj e => ?_, fun k q hk => ?_⟩
  · obtain ⟨a1, rfl⟩ := wsO_some hi
    obtain ⟨a2, rfl⟩ := wsO_some hj
    exact h.2.1 i j a1 a2 e
  · obtain ⟨a1, rfl⟩ := wsO_some hk
    exact ⟨k, a1, rfl⟩
def TB : List Cond := lw_tbl.filter goodWord
theorem tb_of {w : Cond} (i : Nat) (h : lw_tbl[i]? = some w) (hg : goodWord w = true) : w ∈ TB := List.mem_filter.mpr ⟨List.mem_of_getElem? h, hg⟩
def CX (K : GK) (M : MK) (p : Program) (s : State) (m : MethodId) (args : Array Value) (c : Code) : Prop :=
  p.tables.exec = Jvm.exec ∧ c.code = mC M ∧ c.maxLocals = mL M ∧ s.vm.findClass (mO M) = some m.cls ∧ (∀ w ∈ TB, w.before args s = true) ∧ FX K s s.heap
def rtI (cc : ByteArray) (pc : Nat) (v : Option Value) : Prop := match v with
  | none => decode cc pc = .ok (.return_, 1)
  | some (.int _) => decode cc pc = .ok (.ireturn, 1)
  | some (.long _) => decode cc pc = .ok (.lreturn, 1)
  | _ => False
def rtN (r : Option FieldType) (v : Option Value) : Prop := match r, v with
  | none, none => True
  | some .int, some (.int _) => True
  | some .boolean, some (.int x) => narrow .boolean (.int x) = .int x
  | some .long, some (.long _) => True
  | _, _ => False
def PW (K : GK) (R : Room) (cs ss : Nat) (M : MK) (pc : Nat) (l : List (Nat × Value)) (st : List Value) (hp : PH) (v : Option Value) (hp' : PH) : Prop :=
  ∀ (p : Program) (e : Env) (s : State) (m : MethodId) (args : Array Value) (below : List Frame) (meth : Method) (c : Code), CX K M p s m args c → ∀ (Z : State → Prop),
    (∀ (pc' : Nat) (ls' : Array Slot) (H' : Heap) (locs' : List Loc), rtI (mC M) pc' v → rtN (mR M) v → Wd K hp' H' → va_S (AA K) s.heap H' locs' → W p (gl K) e R s m args below meth c H' locs' cs ss Z (F0 m pc' ls' v.toList)) →
    ∀ (H : Heap) (locs : List Loc) (ls : Array Slot), Wd K hp H → va_S (AA K) s.heap H locs → lv_has ls (mL M) l → W p (gl K) e R s m args below meth c H locs cs ss Z (F0 m pc ls st)
def rmD (d : Nat) : Room := { frames := d, cells := 0, slots := 0, locals := 41 * d }
def wsM (M : MK) : List Cond := Cond.code (mY M) (mC M) (mL M) (mR M) :: TB
def PM (K : GK) (d : Nat) (M : MK) (As : List Value) (hp : PH) (v : Option Value) (hp' : PH) : Prop :=
  Met (gl K) (mY M) (wsM M) (rmD d) (va_Pc As (fun U => Wd K hp U.heap ∧ FX K U U.heap)) (fun _ st oc t => oc = .returned v ∧ Wd K hp' t.heap ∧ va_F (AA K) st t) 0 0 (AA K)
theorem PM.enter {K : GK} {d : Nat} {M : MK} {As : List Value} {l0 : List (Nat × Value)} {hp hp' : PH} {v : Option Value} (hy : plainName (mY M).cls = true) (ho : (mY M).cls = mO M) (hn : (lg_sl As).length ≤ mL M) (hl : lv_args 0 As = l0) (k : PW K (rmD d) 0 0 M 0 l0 [] hp v hp') : PM K d M As hp v hp' := by
  refine Met.ofW (cc := mC M) (maxL := mL M) (ret := mR M) hy rfl ?_
  intro p e s m args below meth c s₁ B hml hv
  obtain ⟨rfl, hW, hF⟩ := hv
  have hts := atoms_spec (ws := wsM M) B.pre
  have hown : s.vm.findClass (mO M) = some m.cls := ho ▸ findClass_of_methodNamed B.named
  have hx := B.exec
  have hb := B.bytes
  have hr := B.returns
  have hlocks := B.notSynchronized
  have hls := lv_entry As hn
  rw [lg_entry_eq]
  rw [hl] at hls
  refine k p e s m As.toArray below meth c ⟨hx, hb, hml, hown, fun w hw => hts w (List.mem_cons_of_mem _ hw), hF⟩ _ ?_ s.heap [] _ hW va_S.rf hls
  intro pc' ls' H' locs' hi hnr hW' hS'
  generalize mR M = rr at hr hnr
  have hq : ∀ t : State, t.heap = H' → s.WarmedH t.vm → (fun (_ : Array Value) st oc t => oc = Outcome.returned v ∧ Wd K hp' t.heap ∧ va_F (AA K) st t) As.toArray s (.returned v) t := fun t ht _ => ⟨rfl, by rw [ht]; exact hW', hS'.F ht⟩
  cases v with
  | none =>
    cases rr with
    | none => exact W.vret hx hb hr hq hS'.2.2 hi
    | some t => cases t <;> exact hnr.elim
  | some w =>
    cases w with
    | int x =>
      cases rr with
      | none => exact hnr.elim
      | some t =>
        cases t with
        | int => exact W.iret hx hb hr hq hS'.2.2 hi
        | boolean => exact W.zret hx hb hr hnr hq hS'.2.2 hi
        | _ => exact hnr.elim
    | long x =>
      cases rr with
      | none => exact hnr.elim
      | some t =>
        cases t with
        | long => exact W.lret hx hb hr hq hS'.2.2 hi
        | _ => exact hnr.elim
    | _ => exact hi.elim
/-! the heap's words: what a read answers, what a write leaves; none where the machine would throw -/
def gV (hp : PH) (k ci j : Nat) : Option Value := match hp k with
  | .inl _ => none
  | .inr o => if k < NC ∧ o.1 = ci then o.2[j]? else none
def gI (hp : PH) (k ci j : Nat) : Option Int32 := match gV hp k ci j with
  | some (.int x) => some x
  | _ => none
def gJ (hp : PH) (k ci j : Nat) : Option Int64 := match gV hp k ci j with
  | some (.long x) => some x
  | _ => none
def gR (hp : PH) (k ci j : Nat) : Option Nat := match gV hp k ci j with
  | some (.ref x) => some x
  | _ => none
def pV (hp : PH) (k ci j : Nat) (v : Value) : Option PH := match hp k with
  | .inl _ => none
  | .inr o => if k < NC ∧ o.1 = ci ∧ j < o.2.length then some (va_up hp k (.inr (ci, o.2.set j v))) else none
def pI (hp : PH) (k ci j : Nat) (x : Int32) : Option PH := pV hp k ci j (.int x)
def pJ (hp : PH) (k ci j : Nat) (x : Int64) : Option PH := pV hp k ci j (.long x)
def pZ (hp : PH) (k ci j : Nat) (x : Int32) : Option PH := if x = 0 ∨ x = 1 then pV hp k ci j (.int x) else none
/-- arrays of ints (kind 0) and booleans (kind 1) -/
def aA (hp : PH) (k t : Nat) : Option (Nat × (Nat → Int32)) := match hp k with
  | .inl (t', n, .inl f) => if k < NC ∧ t' = t then some (n, f) else none
  | _ => none
def aI (hp : PH) (k t : Nat) (i : Int32) : Option Int32 := match aA hp k t with
  | some a => if ¬ i < 0 ∧ i.toNatClampNeg < a.1 then some (a.2 i.toNatClampNeg) else none
  | none => none
def uI (hp : PH) (k : Nat) (i x : Int32) : Option PH := match aA hp k 0 with
  | some a => if ¬ i < 0 ∧ i.toNatClampNeg < a.1 then some (va_up hp k (.inl (0, a.1, .inl (upd a.2 i.toNatClampNeg x)))) else none
  | none => none
def nZ (x : Int32) : Int32 := vp_nar .boolean x
def uZ (hp : PH) (k : Nat) (i x : Int32) : Option PH := match aA hp k 1 with
  | some a => if ¬ i < 0 ∧ i.toNatClampNeg < a.1 then some (va_up hp k (.inl (1, a.1, .inl (upd a.2 i.toNatClampNeg (nZ x))))) else none
  | none => none
def aB (hp : PH) (k : Nat) : Option (Nat × (Nat → Int64)) := match hp k with
  | .inl (t', n, .inr (.inl f)) => if k < NC ∧ t' = 2 then some (n, f) else none
  | _ => none
def aJ (hp : PH) (k : Nat) (i : Int32) : Option Int64 := match aB hp k with
  | some a => if ¬ i < 0 ∧ i.toNatClampNeg < a.1 then some (a.2 i.toNatClampNeg) else none
  | none => none
def uJ (hp : PH) (k : Nat) (i : Int32) (x : Int64) : Option PH := match aB hp k with
  | some a => if ¬ i < 0 ∧ i.toNatClampNeg < a.1 then some (va_up hp k (.inl (2, a.1, .inr (.inl (vp_updL a.2 i.toNatClampNeg x))))) else none
  | none => none
def aQ (hp : PH) (k : Nat) (i : Int32) : Option Nat := match hp k with
  | .inl (t', n, .inr (.inr (.inr (.inr f)))) => if k < NC ∧ t' = 3 ∧ ¬ i < 0 ∧ i.toNatClampNeg < n then f i.toNatClampNeg else none
  | _ => none
def aL (hp : PH) (k : Nat) : Option Int32 := match hp k with
  | .inl (t', n, _) => if k < NC ∧ t' < 4 then some (nI n) else none
  | _ => none
/-- System.arraycopy between arrays of ints, or of booleans -/
def cA (hp : PH) (k0 : Nat) (sp : Int32) (k1 : Nat) (dp n : Int32) (t : Nat) : Option PH := match aA hp k0 t, aA hp k1 t with
  | some a, some b => if (¬ sp < 0 ∧ ¬ dp < 0 ∧ ¬ n < 0) ∧ sp.toNatClampNeg + n.toNatClampNeg ≤ a.1 ∧ dp.toNatClampNeg + n.toNatClampNeg ≤ b.1 ∧ (t = 0 ∨ (t = 1 ∧ ∀ i, i < n.toNatClampNeg → (a.2 (sp.toNatClampNeg + i) = 0 ∨ a.2 (sp.toNatClampNeg + i) = 1))) then some (va_up hp k1 (.inl (t, b.1, .inl (va_cpy a.2 b.2 sp.toNatClampNeg dp.toNatClampNeg n.toNatClampNeg)))) else none
  | _, _ => none
/-- the table of months -/
def aM (i : Int32) : Option Int32 := if ¬ i < 0 ∧ i.toNatClampNeg < 13 then some (mpF i.toNatClampNeg) else none
def iR (x y : Int32) : Int32 := x - x / y * y
def iL (x y : Int32) : Int32 := x <<< (y &&& 31)
def iS (x y : Int32) : Int32 := x >>> (y &&& 31)
def iU (x y : Int32) : Int32 := (x.toUInt32 >>> (y.toUInt32 &&& Int32.toUInt32 31)).toInt32
def jL (x : Int64) (y : Int32) : Int64 := x <<< (y.toInt64 &&& 63)
def jR (x : Int64) (y : Int32) : Int64 := x >>> (y.toInt64 &&& 63)
def dvI (x y : Int32) : Option Int32 := if y = 0 then none else some (x / y)
def rmI (x y : Int32) : Option Int32 := if y = 0 then none else some (iR x y)
theorem gV_spec {hp : PH} {k ci j : Nat} {v : Value} (h : gV hp k ci j = some v) : k < NC ∧ ∃ fs, hp k = .inr (ci, fs) ∧ fs[j]? = some v := by
  unfold gV at h
  cases hh : hp k with
  | inl a => rw [hh] at h; cases h
  | inr o =>
    rw [hh] at h
    dsimp only at h
    by_cases hc : k < NC ∧ o.1 = ci
    · rw [if_pos hc] at h
      obtain ⟨h1, rfl⟩ := hc
      exact ⟨h1, o.2, rfl, h⟩
    · rw [if_neg hc] at h; cases h
theorem gI_spec {hp : PH} {k ci j : Nat} {x : Int32} (h : gI hp k ci j = some x) : gV hp k ci j = some (.int x) := by
  unfold gI at h
  split at h
  · rename_i y hy; cases h; exact hy
  · cases h
theorem gJ_spec {hp : PH} {k ci j : Nat} {x : Int64} (h : gJ hp k ci j = some x) : gV hp k ci j = some (.long x) := by
  unfold gJ at h
  split at h
  · rename_i y hy; cases h; exact hy
  · cases h
theorem gR_spec {hp : PH} {k ci j : Nat} {x : Nat} (h : gR hp k ci j = some x) : gV hp k ci j = some (.ref x) := by
  unfold gR at h
  split at h
  · rename_i y hy; cases h; exact hy
  · cases h
theorem pV_spec {hp hp1 : PH} {k ci j : Nat} {v : Value} (h : pV hp k ci j v = some hp1) : k < NC ∧ ∃ fs, hp k = .inr (ci, fs) ∧ j < fs.length ∧ hp1 = va_up hp k (.inr (ci, fs.set j v)) := by
  unfold pV at h
  cases hh : hp k with
  | inl a => rw [hh] at h; cases h
  | inr o =>
    rw [hh] at h
    dsimp only at h
    by_cases hc : k < NC ∧ o.1 = ci ∧ j < o.2.length
    · rw [if_pos hc] at h
      obtain ⟨h1, rfl, h3⟩ := hc
      exact ⟨h1, o.2, rfl, h3, (Option.some.inj h).symm⟩
    · rw [if_neg hc] at h; cases h
theorem aA_spec {hp : PH} {k t : Nat} {a : Nat × (Nat → Int32)} (h : aA hp k t = some a) : k < NC ∧ hp k = .inl (t, a.1, .inl a.2) := by
  unfold aA at h
  split at h
  · rename_i t' n f hh
    by_cases hc : k < NC ∧ t' = t
    · rw [if_pos hc] at h
      obtain ⟨h1, rfl⟩ := hc
      cases h
      exact ⟨h1, hh⟩
    · rw [if_neg hc] at h; cases h
  · cases h
theorem aB_spec {hp : PH} {k : Nat} {a : Nat × (Nat → Int64)} (h : aB hp k = some a) : k < NC ∧ hp k = .inl (2, a.1, .inr (.inl a.2)) := by
  unfold aB at h
  split at h
  · rename_i t' n f hh
    by_cases hc : k < NC ∧ t' = 2
    · rw [if_pos hc] at h
      obtain ⟨h1, rfl⟩ := hc
      cases h
      exact ⟨h1, hh⟩
    · rw [if_neg hc] at h; cases h
  · cases h
theorem in_of {i : Int32} {n : Nat} (h : ¬ i < 0 ∧ i.toNatClampNeg < n) : vp_in i n := fun q => q.elim h.1 (fun z => Nat.not_le.mpr h.2 z)
theorem aI_spec {hp : PH} {k t : Nat} {i x : Int32} (h : aI hp k t i = some x) : ∃ a : Nat × (Nat → Int32), aA hp k t = some a ∧ vp_in i a.1 ∧ x = a.2 i.toNatClampNeg := by
  unfold aI at h
  cases hh : aA hp k t with
  | none => rw [hh] at h; cases h
  | some a =>
    rw [hh] at h
    dsimp only at h
    by_cases hc : ¬ i < 0 ∧ i.toNatClampNeg < a.1
    · rw [if_pos hc] at h
      exact ⟨a, rfl, in_of hc, (Option.some.inj h).symm⟩
    · rw [if_neg hc] at h; cases h
theorem aJ_spec {hp : PH} {k : Nat} {i : Int32} {x : Int64} (h : aJ hp k i = some x) : ∃ a : Nat × (Nat → Int64), aB hp k = some a ∧ vp_in i a.1 ∧ x = a.2 i.toNatClampNeg := by
  unfold aJ at h
  cases hh : aB hp k with
  | none => rw [hh] at h; cases h
  | some a =>
    rw [hh] at h
    dsimp only at h
    by_cases hc : ¬ i < 0 ∧ i.toNatClampNeg < a.1
    · rw [if_pos hc] at h
      exact ⟨a, rfl, in_of hc, (Option.some.inj h).symm⟩
    · rw [if_neg hc] at h; cases h
theorem uI_spec {hp hp1 : PH} {k : Nat} {i x : Int32} (h : uI hp k i x = some hp1) : ∃ a : Nat × (Nat → Int32), aA hp k 0 = some a ∧ vp_in i a.1 ∧ hp1 = va_up hp k (.inl (0, a.1, .inl (upd a.2 i.toNatClampNeg x))) := by
  unfold uI at h
  cases hh : aA hp k 0 with
  | none => rw [hh] at h; cases h
  | some a =>
    rw [hh] at h
    dsimp only at h
    by_cases hc : ¬ i < 0 ∧ i.toNatClampNeg < a.1
    · rw [if_pos hc] at h
      exact ⟨a, rfl, in_of hc, (Option.some.inj h).symm⟩
    · rw [if_neg hc] at h; cases h
theorem uZ_spec {hp hp1 : PH} {k : Nat} {i x : Int32} (h : uZ hp k i x = some hp1) : ∃ a : Nat × (Nat → Int32), aA hp k 1 = some a ∧ vp_in i a.1 ∧ hp1 = va_up hp k (.inl (1, a.1, .inl (upd a.2 i.toNatClampNeg (nZ x)))) := by
  unfold uZ at h
  cases hh : aA hp k 1 with
  | none => rw [hh] at h; cases h
  | some a =>
    rw [hh] at h
    dsimp only at h
    by_cases hc : ¬ i < 0 ∧ i.toNatClampNeg < a.1
    · rw [if_pos hc] at h
      exact ⟨a, rfl, in_of hc, (Option.some.inj h).symm⟩
    · rw [if_neg hc] at h; cases h
theorem uJ_spec {hp hp1 : PH} {k : Nat} {i : Int32} {x : Int64} (h : uJ hp k i x = some hp1) : ∃ a : Nat × (Nat → Int64), aB hp k = some a ∧ vp_in i a.1 ∧ hp1 = va_up hp k (.inl (2, a.1, .inr (.inl (vp_updL a.2 i.toNatClampNeg x)))) := by
  unfold uJ at h
  cases hh : aB hp k with
  | none => rw [hh] at h; cases h
  | some a =>
    rw [hh] at h
    dsimp only at h
    by_cases hc : ¬ i < 0 ∧ i.toNatClampNeg < a.1
    · rw [if_pos hc] at h
      exact ⟨a, rfl, in_of hc, (Option.some.inj h).symm⟩
    · rw [if_neg hc] at h; cases h
theorem bind_some {α β : Type} {a : Option α} {f : α → Option β} {r : β} (h : a.bind f = some r) : ∃ x, a = some x ∧ f x = some r := by
  cases a with
  | none => cases h
  | some x => exact ⟨x, rfl, h⟩
section PWR
variable {K : GK} {R : Room} {cs ss : Nat} {M : MK} {pc : Nat} {l : List (Nat × Value)} {st : List Value} {hp hp' : PH} {v : Option Value}
theorem PW.sub {l' : List (Nat × Value)} (ks : List Nat) (hl : lv_pick l ks = l') (kk : PW K R cs ss M pc l' st hp v hp') : PW K R cs ss M pc l st hp v hp' := by
  intro p e s m args below meth c C Z hr H locs ls hP hS hv
  exact kk p e s m args below meth c C Z hr H locs ls hP hS (lv_sub hv ks hl)
theorem PW.ret (hi : rtI (mC M) pc v) (hn : rtN (mR M) v) (hs : st = v.toList) : PW K R cs ss M pc l st hp v hp := by
  intro p e s m args below meth c C Z hr H locs ls hP hS hv
  subst hs
  exact hr pc ls H locs hi hn hP hS
theorem PW.iconst {n : Int} {x : Int32} (hd : decode (mC M) pc = .ok (.iconst n, 1)) (hx : Int32.ofInt n = x) (kk : PW K R cs ss M (pc + 1) l (.int x :: st) hp v hp') : PW K R cs ss M pc l st hp v hp' := by
  intro p e s m args below meth c C Z hr H locs ls hP hS hv
  exact lv_iconst C.1 C.2.1 hd hx (kk p e s m args below meth c C Z hr H locs ls hP hS hv)
theorem PW.bipush {n : Int} {x : Int32} (hd : decode (mC M) pc = .ok (.bipush n, 2)) (hx : (Int8.ofInt n).toInt32 = x) (kk : PW K R cs ss M (pc + 2) l (.int x :: st) hp v hp') : PW K R cs ss M pc l st hp v hp' := by
  intro p e s m args below meth c C Z hr H locs ls hP hS hv
  exact lv_bipush C.1 C.2.1 hd hx (kk p e s m args below meth c C Z hr H locs ls hP hS hv)
theorem PW.sipush {n : Int} {x : Int32} (hd : decode (mC M) pc = .ok (.sipush n, 3)) (hx : (Int16.ofInt n).toInt32 = x) (kk : PW K R cs ss M (pc + 3) l (.int x :: st) hp v hp') : PW K R cs ss M pc l st hp v hp' := by
  intro p e s m args below meth c C Z hr H locs ls hP hS hv
  exact lv_sipush C.1 C.2.1 hd hx (kk p e s m args below meth c C Z hr H locs ls hP hS hv)
theorem PW.lconst {n : Fin 2} {x : Int64} (hd : decode (mC M) pc = .ok (.lconst n, 1)) (hx : Int64.ofNat (n : Nat) = x) (kk : PW K R cs ss M (pc + 1) l (.long x :: st) hp v hp') : PW K R cs ss M pc l st hp v hp' := by
  intro p e s m args below meth c C Z hr H locs ls hP hS hv
  exact lv_lconst C.1 C.2.1 hd hx (kk p e s m args below meth c C Z hr H locs ls hP hS hv)
theorem PW.ldc {i : Nat} {x : Int32} (hd : decode (mC M) pc = .ok (.ldc i, 2)) (hw : Cond.constant (mO M) i x ∈ TB) (kk : PW K R cs ss M (pc + 2) l (.int x :: st) hp v hp') : PW K R cs ss M pc l st hp v hp' := by
  intro p e s m args below meth c C Z hr H locs ls hP hS hv
  exact lv_ldc C.1 C.2.1 C.2.2.2.1 (C.2.2.2.2.1 _ hw) hd (kk p e s m args below meth c C Z hr H locs ls hP hS hv)
theorem PW.ldc2 {i : Nat} {x : Int64} (hd : decode (mC M) pc = .ok (.ldc2_w i, 3)) (hw : Cond.constantLong (mO M) i x ∈ TB) (kk : PW K R cs ss M (pc + 3) l (.long x :: st) hp v hp') : PW K R cs ss M pc l st hp v hp' := by
  intro p e s m args below meth c C Z hr H locs ls hP hS hv
  exact lv_ldc2 C.1 C.2.1 C.2.2.2.1 (C.2.2.2.2.1 _ hw) hd (kk p e s m args below meth c C Z hr H locs ls hP hS hv)
theorem PW.iload_n (j : Nat) {q : Fin 4} {i : Nat} {x : Int32} (hd : decode (mC M) pc = .ok (.iload_n q, 1)) (hi : (q : Nat) = i) (hl : l[j]? = some (i, .int x)) (kk : PW K R cs ss M (pc + 1) l (.int x :: st) hp v hp') : PW K R cs ss M pc l st hp v hp' := by
  intro p e s m args below meth c C Z hr H locs ls hP hS hv
  exact lv_iload_n C.1 C.2.1 hd hi (lv_at hv j hl) (kk p e s m args below meth c C Z hr H locs ls hP hS hv)
theorem PW.iload (j : Nat) {i : Nat} {x : Int32} (hd : decode (mC M) pc = .ok (.iload i, 2)) (hl : l[j]? = some (i, .int x)) (kk : PW K R cs ss M (pc + 2) l (.int x :: st) hp v hp') : PW K R cs ss M pc l st hp v hp' := by
  intro p e s m args below meth c C Z hr H locs ls hP hS hv
  exact lv_iload C.1 C.2.1 hd (lv_at hv j hl) (kk p e s m args below meth c C Z hr H locs ls hP hS hv)
theorem PW.istore_n {q : Fin 4} {i : Nat} {x : Int32} {l' : List (Nat × Value)} (hd : decode (mC M) pc = .ok (.istore_n q, 1)) (hi : (q : Nat) = i) (hn : i < mL M) (hl : (i, Value.int x) :: l.filter (fun q => !(q.1 == i) && !(q.1 + 1 == i && q.2.category == 2)) = l') (kk : PW K R cs ss M (pc + 1) l' st hp v hp') : PW K R cs ss M pc l (.int x :: st) hp v hp' := by
  intro p e s m args below meth c C Z hr H locs ls hP hS hv
  exact lv_istore_n C.1 C.2.1 hd hi hv hn hl (fun ls hv => kk p e s m args below meth c C Z hr H locs ls hP hS hv)
theorem PW.istore {i : Nat} {x : Int32} {l' : List (Nat × Value)} (hd : decode (mC M) pc = .ok (.istore i, 2)) (hn : i < mL M) (hl : (i, Value.int x) :: l.filter (fun q => !(q.1 == i) && !(q.1 + 1 == i && q.2.category == 2)) = l') (kk : PW K R cs ss M (pc + 2) l' st hp v hp') : PW K R cs ss M pc l (.int x :: st) hp v hp' := by
  intro p e s m args below meth c C Z hr H locs ls hP hS hv
  exact lv_istore C.1 C.2.1 hd hv hn hl (fun ls hv => kk p e s m args below meth c C Z hr H locs ls hP hS hv)
theorem PW.lload_n (j : Nat) {q : Fin 4} {i : Nat} {x : Int64} (hd : decode (mC M) pc = .ok (.lload_n q, 1)) (hi : (q : Nat) = i) (hl : l[j]? = some (i, .long x)) (kk : PW K R cs ss M (pc + 1) l (.long x :: st) hp v hp') : PW K R cs ss M pc l st hp v hp' := by
  intro p e s m args below meth c C Z hr H locs ls hP hS hv
  exact lv_lload_n C.1 C.2.1 hd hi (lv_at hv j hl) (kk p e s m args below meth c C Z hr H locs ls hP hS hv)
theorem PW.lload (j : Nat) {i : Nat} {x : Int64} (hd : decode (mC M) pc = .ok (.lload i, 2)) (hl : l[j]? = some (i, .long x)) (kk : PW K R cs ss M (pc + 2) l (.long x :: st) hp v hp') : PW K R cs ss M pc l st hp v hp' := by
  intro p e s m args below meth c C Z hr H locs ls hP hS hv
  exact lv_lload C.1 C.2.1 hd (lv_at hv j hl) (kk p e s m args below meth c C Z hr H locs ls hP hS hv)
theorem PW.lstore_n {q : Fin 4} {i : Nat} {x : Int64} {l' : List (Nat × Value)} (hd : decode (mC M) pc = .ok (.lstore_n q, 1)) (hi : (q : Nat) = i) (hn : i + 1 < mL M) (hl : (i, Value.long x) :: l.filter (fun q => !(q.1 == i) && (!(q.1 == i + 1) && !(q.1 + 1 == i && q.2.category == 2))) = l') (kk : PW K R cs ss M (pc + 1) l' st hp v hp') : PW K R cs ss M pc l (.long x :: st) hp v hp' := by
  intro p e s m args below meth c C Z hr H locs ls hP hS hv
  exact lv_lstore_n C.1 C.2.1 hd hi hv hn hl (fun ls hv => kk p e s m args below meth c C Z hr H locs ls hP hS hv)
theorem PW.lstore {i : Nat} {x : Int64} {l' : List (Nat × Value)} (hd : decode (mC M) pc = .ok (.lstore i, 2)) (hn : i + 1 < mL M) (hl : (i, Value.long x) :: l.filter (fun q => !(q.1 == i) && (!(q.1 == i + 1) && !(q.1 + 1 == i && q.2.category == 2))) = l') (kk : PW K R cs ss M (pc + 2) l' st hp v hp') : PW K R cs ss M pc l (.long x :: st) hp v hp' := by
  intro p e s m args below meth c C Z hr H locs ls hP hS hv
  exact lv_lstore C.1 C.2.1 hd hv hn hl (fun ls hv => kk p e s m args below meth c C Z hr H locs ls hP hS hv)
theorem PW.aload_n (j : Nat) {q : Fin 4} {i : Nat} {x : Nat} (hd : decode (mC M) pc = .ok (.aload_n q, 1)) (hi : (q : Nat) = i) (hl : l[j]? = some (i, .ref x)) (kk : PW K R cs ss M (pc + 1) l (.ref x :: st) hp v hp') : PW K R cs ss M pc l st hp v hp' := by
  intro p e s m args below meth c C Z hr H locs ls hP hS hv
  exact lv_aload_n C.1 C.2.1 hd hi (lv_at hv j hl) (kk p e s m args below meth c C Z hr H locs ls hP hS hv)
theorem PW.aload (j : Nat) {i : Nat} {x : Nat} (hd : decode (mC M) pc = .ok (.aload i, 2)) (hl : l[j]? = some (i, .ref x)) (kk : PW K R cs ss M (pc + 2) l (.ref x :: st) hp v hp') : PW K R cs ss M pc l st hp v hp' := by
  intro p e s m args below meth c C Z hr H locs ls hP hS hv
  exact lv_aload C.1 C.2.1 hd (lv_at hv j hl) (kk p e s m args below meth c C Z hr H locs ls hP hS hv)
theorem PW.astore_n {q : Fin 4} {i : Nat} {x : Nat} {l' : List (Nat × Value)} (hd : decode (mC M) pc = .ok (.astore_n q, 1)) (hi : (q : Nat) = i) (hn : i < mL M) (hl : (i, Value.ref x) :: l.filter (fun q => !(q.1 == i) && !(q.1 + 1 == i && q.2.category == 2)) = l') (kk : PW K R cs ss M (pc + 1) l' st hp v hp') : PW K R cs ss M pc l (.ref x :: st) hp v hp' := by
  intro p e s m args below meth c C Z hr H locs ls hP hS hv
  exact lv_astore_n C.1 C.2.1 hd hi hv hn hl (fun ls hv => kk p e s m args below meth c C Z hr H locs ls hP hS hv)
theorem PW.astore {i : Nat} {x : Nat} {l' : List (Nat × Value)} (hd : decode (mC M) pc = .ok (.astore i, 2)) (hn : i < mL M) (hl : (i, Value.ref x) :: l.filter (fun q => !(q.1 == i) && !(q.1 + 1 == i && q.2.category == 2)) = l') (kk : PW K R cs ss M (pc + 2) l' st hp v hp') : PW K R cs ss M pc l (.ref x :: st) hp v hp' := by
  intro p e s m args below meth c C Z hr H locs ls hP hS hv
  exact lv_astore C.1 C.2.1 hd hv hn hl (fun ls hv => kk p e s m args below meth c C Z hr H locs ls hP hS hv)
theorem PW.iinc (j : Nat) {i : Nat} {n : Int} {x y : Int32} {l' : List (Nat × Value)} (hd : decode (mC M) pc = .ok (.iinc i n, 3)) (hj : l[j]? = some (i, .int x)) (hx : x + Int32.ofInt n = y) (hn : i < mL M) (hl : (i, Value.int y) :: l.filter (fun q => !(q.1 == i) && !(q.1 + 1 == i && q.2.category == 2)) = l') (kk : PW K R cs ss M (pc + 3) l' st hp v hp') : PW K R cs ss M pc l st hp v hp' := by
  intro p e s m args below meth c C Z hr H locs ls hP hS hv
  exact lv_iinc (k := j) C.1 C.2.1 hd hv hj hx hn hl (fun ls hv => kk p e s m args below meth c C Z hr H locs ls hP hS hv)
theorem PW.iadd {x y : Int32} (hd : decode (mC M) pc = .ok (.iadd, 1)) (kk : PW K R cs ss M (pc + 1) l (.int (x + y) :: st) hp v hp') : PW K R cs ss M pc l (.int y :: .int x :: st) hp v hp' := by
  intro p e s m args below meth c C Z hr H locs ls hP hS hv
  exact lv_iadd C.1 C.2.1 hd (kk p e s m args below meth c C Z hr H locs ls hP hS hv)
theorem PW.isub {x y : Int32} (hd : decode (mC M) pc = .ok (.isub, 1)) (kk : PW K R cs ss M (pc + 1) l (.int (x - y) :: st) hp v hp') : PW K R cs ss M pc l (.int y :: .int x :: st) hp v hp' := by
  intro p e s m args below meth c C Z hr H locs ls hP hS hv
  exact lv_isub C.1 C.2.1 hd (kk p e s m args below meth c C Z hr H locs ls hP hS hv)
theorem PW.imul {x y : Int32} (hd : decode (mC M) pc = .ok (.imul, 1)) (kk : PW K R cs ss M (pc + 1) l (.int (x * y) :: st) hp v hp') : PW K R cs ss M pc l (.int y :: .int x :: st) hp v hp' := by
  intro p e s m args below meth c C Z hr H locs ls hP hS hv
  exact lv_imul C.1 C.2.1 hd (kk p e s m args below meth c C Z hr H locs ls hP hS hv)
theorem PW.iand {x y : Int32} (hd : decode (mC M) pc = .ok (.iand, 1)) (kk : PW K R cs ss M (pc + 1) l (.int (x &&& y) :: st) hp v hp') : PW K R cs ss M pc l (.int y :: .int x :: st) hp v hp' := by
  intro p e s m args below meth c C Z hr H locs ls hP hS hv
  exact lv_iand C.1 C.2.1 hd (kk p e s m args below meth c C Z hr H locs ls hP hS hv)
theorem PW.ior {x y : Int32} (hd : decode (mC M) pc = .ok (.ior, 1)) (kk : PW K R cs ss M (pc + 1) l (.int (x ||| y) :: st) hp v hp') : PW K R cs ss M pc l (.int y :: .int x :: st) hp v hp' := by
  intro p e s m args below meth c C Z hr H locs ls hP hS hv
  exact lv_ior C.1 C.2.1 hd (kk p e s m args below meth c C Z hr H locs ls hP hS hv)
theorem PW.ixor {x y : Int32} (hd : decode (mC M) pc = .ok (.ixor, 1)) (kk : PW K R cs ss M (pc + 1) l (.int (x ^^^ y) :: st) hp v hp') : PW K R cs ss M pc l (.int y :: .int x :: st) hp v hp' := by
  intro p e s m args below meth c C Z hr H locs ls hP hS hv
  exact lv_ixor C.1 C.2.1 hd (kk p e s m args below meth c C Z hr H locs ls hP hS hv)
theorem PW.ishl {x y : Int32} (hd : decode (mC M) pc = .ok (.ishl, 1)) (kk : PW K R cs ss M (pc + 1) l (.int (iL x y) :: st) hp v hp') : PW K R cs ss M pc l (.int y :: .int x :: st) hp v hp' := by
  intro p e s m args below meth c C Z hr H locs ls hP hS hv
  exact lv_ishl C.1 C.2.1 hd (kk p e s m args below meth c C Z hr H locs ls hP hS hv)
theorem PW.ishr {x y : Int32} (hd : decode (mC M) pc = .ok (.ishr, 1)) (kk : PW K R cs ss M (pc + 1) l (.int (iS x y) :: st) hp v hp') : PW K R cs ss M pc l (.int y :: .int x :: st) hp v hp' := by
  intro p e s m args below meth c C Z hr H locs ls hP hS hv
  exact lv_ishr C.1 C.2.1 hd (kk p e s m args below meth c C Z hr H locs ls hP hS hv)
theorem PW.iushr {x y : Int32} (hd : decode (mC M) pc = .ok (.iushr, 1)) (kk : PW K R cs ss M (pc + 1) l (.int (iU x y) :: st) hp v hp') : PW K R cs ss M pc l (.int y :: .int x :: st) hp v hp' := by
  intro p e s m args below meth c C Z hr H locs ls hP hS hv
  exact lv_iushr C.1 C.2.1 hd rfl (kk p e s m args below meth c C Z hr H locs ls hP hS hv)
theorem PW.idiv {x y : Int32} (hd : decode (mC M) pc = .ok (.idiv, 1)) (hy : ¬ y = 0) (kk : PW K R cs ss M (pc + 1) l (.int (x / y) :: st) hp v hp') : PW K R cs ss M pc l (.int y :: .int x :: st) hp v hp' := by
  intro p e s m args below meth c C Z hr H locs ls hP hS hv
  exact lv_idiv C.1 C.2.1 hd hy (kk p e s m args below meth c C Z hr H locs ls hP hS hv)
theorem PW.irem {x y : Int32} (hd : decode (mC M) pc = .ok (.irem, 1)) (hy : ¬ y = 0) (kk : PW K R cs ss M (pc + 1) l (.int (iR x y) :: st) hp v hp') : PW K R cs ss M pc l (.int y :: .int x :: st) hp v hp' := by
  intro p e s m args below meth c C Z hr H locs ls hP hS hv
  exact lv_irem C.1 C.2.1 hd hy (kk p e s m args below meth c C Z hr H locs ls hP hS hv)
theorem PW.ineg {x : Int32} (hd : decode (mC M) pc = .ok (.ineg, 1)) (kk : PW K R cs ss M (pc + 1) l (.int (0 - x) :: st) hp v hp') : PW K R cs ss M pc l (.int x :: st) hp v hp' := by
  intro p e s m args below meth c C Z hr H locs ls hP hS hv
  exact lv_ineg C.1 C.2.1 hd (kk p e s m args below meth c C Z hr H locs ls hP hS hv)
theorem PW.ladd {x y : Int64} (hd : decode (mC M) pc = .ok (.ladd, 1)) (kk : PW K R cs ss M (pc + 1) l (.long (x + y) :: st) hp v hp') : PW K R cs ss M pc l (.long y :: .long x :: st) hp v hp' := by
  intro p e s m args below meth c C Z hr H locs ls hP hS hv
  exact lv_ladd C.1 C.2.1 hd (kk p e s m args below meth c C Z hr H locs ls hP hS hv)
theorem PW.lsub {x y : Int64} (hd : decode (mC M) pc = .ok (.lsub, 1)) (kk : PW K R cs ss M (pc + 1) l (.long (x - y) :: st) hp v hp') : PW K R cs ss M pc l (.long y :: .long x :: st) hp v hp' := by
  intro p e s m args below meth c C Z hr H locs ls hP hS hv
  exact lv_lsub C.1 C.2.1 hd (kk p e s m args below meth c C Z hr H locs ls hP hS hv)
theorem PW.lmul {x y : Int64} (hd : decode (mC M) pc = .ok (.lmul, 1)) (kk : PW K R cs ss M (pc + 1) l (.long (x * y) :: st) hp v hp') : PW K R cs ss M pc l (.long y :: .long x :: st) hp v hp' := by
  intro p e s m args below meth c C Z hr H locs ls hP hS hv
  exact lv_lmul C.1 C.2.1 hd (kk p e s m args below meth c C Z hr H locs ls hP hS hv)
theorem PW.land {x y : Int64} (hd : decode (mC M) pc = .ok (.land, 1)) (kk : PW K R cs ss M (pc + 1) l (.long (x &&& y) :: st) hp v hp') : PW K R cs ss M pc l (.long y :: .long x :: st) hp v hp' := by
  intro p e s m args below meth c C Z hr H locs ls hP hS hv
  exact lv_land C.1 C.2.1 hd (kk p e s m args below meth c C Z hr H locs ls hP hS hv)
theorem PW.lor {x y : Int64} (hd : decode (mC M) pc = .ok (.lor, 1)) (kk : PW K R cs ss M (pc + 1) l (.long (x ||| y) :: st) hp v hp') : PW K R cs ss M pc l (.long y :: .long x :: st) hp v hp' := by
  intro p e s m args below meth c C Z hr H locs ls hP hS hv
  exact lv_lor C.1 C.2.1 hd (kk p e s m args below meth c C Z hr H locs ls hP hS hv)
theorem PW.lshl {x : Int64} {y : Int32} (hd : decode (mC M) pc = .ok (.lshl, 1)) (kk : PW K R cs ss M (pc + 1) l (.long (jL x y) :: st) hp v hp') : PW K R cs ss M pc l (.int y :: .long x :: st) hp v hp' := by
  intro p e s m args below meth c C Z hr H locs ls hP hS hv
  exact lv_lshl C.1 C.2.1 hd rfl (kk p e s m args below meth c C Z hr H locs ls hP hS hv)
theorem PW.lshr {x : Int64} {y : Int32} (hd : decode (mC M) pc = .ok (.lshr, 1)) (kk : PW K R cs ss M (pc + 1) l (.long (jR x y) :: st) hp v hp') : PW K R cs ss M pc l (.int y :: .long x :: st) hp v hp' := by
  intro p e s m args below meth c C Z hr H locs ls hP hS hv
  exact lv_lshr C.1 C.2.1 hd rfl (kk p e s m args below meth c C Z hr H locs ls hP hS hv)
theorem PW.lcmp {x y : Int64} (hd : decode (mC M) pc = .ok (.lcmp, 1)) (kk : PW K R cs ss M (pc + 1) l (.int (lg_cmp x y) :: st) hp v hp') : PW K R cs ss M pc l (.long y :: .long x :: st) hp v hp' := by
  intro p e s m args below meth c C Z hr H locs ls hP hS hv
  exact W.lcmp C.1 C.2.1 hd (kk p e s m args below meth c C Z hr H locs ls hP hS hv)
theorem PW.i2l {x : Int32} (hd : decode (mC M) pc = .ok (.i2l, 1)) (kk : PW K R cs ss M (pc + 1) l (.long x.toInt64 :: st) hp v hp') : PW K R cs ss M pc l (.int x :: st) hp v hp' := by
  intro p e s m args below meth c C Z hr H locs ls hP hS hv
  exact lv_i2l C.1 C.2.1 hd rfl (kk p e s m args below meth c C Z hr H locs ls hP hS hv)
theorem PW.l2i {x : Int64} (hd : decode (mC M) pc = .ok (.l2i, 1)) (kk : PW K R cs ss M (pc + 1) l (.int x.toInt32 :: st) hp v hp') : PW K R cs ss M pc l (.long x :: st) hp v hp' := by
  intro p e s m args below meth c C Z hr H locs ls hP hS hv
  exact lv_l2i C.1 C.2.1 hd rfl (kk p e s m args below meth c C Z hr H locs ls hP hS hv)
theorem PW.i2c {x : Int32} (hd : decode (mC M) pc = .ok (.i2c, 1)) (kk : PW K R cs ss M (pc + 1) l (.int (x.toUInt32 % 65536).toInt32 :: st) hp v hp') : PW K R cs ss M pc l (.int x :: st) hp v hp' := by
  intro p e s m args below meth c C Z hr H locs ls hP hS hv
  exact lv_i2c C.1 C.2.1 hd rfl (kk p e s m args below meth c C Z hr H locs ls hP hS hv)
theorem PW.dup {a : Value} (hd : decode (mC M) pc = .ok (.dup, 1)) (ha : a.category = 1) (kk : PW K R cs ss M (pc + 1) l (a :: a :: st) hp v hp') : PW K R cs ss M pc l (a :: st) hp v hp' := by
  intro p e s m args below meth c C Z hr H locs ls hP hS hv
  exact lv_dup C.1 C.2.1 hd ha (kk p e s m args below meth c C Z hr H locs ls hP hS hv)
theorem PW.pop {a : Value} (hd : decode (mC M) pc = .ok (.pop, 1)) (ha : a.category = 1) (kk : PW K R cs ss M (pc + 1) l st hp v hp') : PW K R cs ss M pc l (a :: st) hp v hp' := by
  intro p e s m args below meth c C Z hr H locs ls hP hS hv
  exact lv_pop C.1 C.2.1 hd ha (kk p e s m args below meth c C Z hr H locs ls hP hS hv)
theorem PW.dup_x1 {a b : Value} (hd : decode (mC M) pc = .ok (.dup_x1, 1)) (ha : a.category = 1) (hb : b.category = 1) (kk : PW K R cs ss M (pc + 1) l (a :: b :: a :: st) hp v hp') : PW K R cs ss M pc l (a :: b :: st) hp v hp' := by
  intro p e s m args below meth c C Z hr H locs ls hP hS hv
  exact lv_dup_x1 C.1 C.2.1 hd ha hb (kk p e s m args below meth c C Z hr H locs ls hP hS hv)
theorem PW.dup2 {a b : Value} (hd : decode (mC M) pc = .ok (.dup2, 1)) (ha : a.category = 1) (hb : b.category = 1) (kk : PW K R cs ss M (pc + 1) l (a :: b :: a :: b :: st) hp v hp') : PW K R cs ss M pc l (a :: b :: st) hp v hp' := by
  intro p e s m args below meth c C Z hr H locs ls hP hS hv
  exact lv_dup2_11 C.1 C.2.1 hd ha hb (kk p e s m args below meth c C Z hr H locs ls hP hS hv)
theorem PW.dup2_2 {a : Value} (hd : decode (mC M) pc = .ok (.dup2, 1)) (ha : a.category = 2) (kk : PW K R cs ss M (pc + 1) l (a :: a :: st) hp v hp') : PW K R cs ss M pc l (a :: st) hp v hp' := by
  intro p e s m args below meth c C Z hr H locs ls hP hS hv
  exact lv_dup2_2 C.1 C.2.1 hd ha (kk p e s m args below meth c C Z hr H locs ls hP hS hv)
theorem PW.icmp_eq {x y : Int32} {off : Int} {tgt : Nat} (hd : decode (mC M) pc = .ok (.if_icmp .eq off, 3)) (ht : (pc : Int) + off = (tgt : Int)) (kt : x = y → PW K R cs ss M (tgt) l st hp v hp') (kf : ¬ x = y → PW K R cs ss M (pc + 3) l st hp v hp') : PW K R cs ss M pc l (.int y :: .int x :: st) hp v hp' := by
  intro p e s m args below meth c C Z hr H locs ls hP hS hv
  exact lv_icmp_eq C.1 C.2.1 hd ht (fun q => kt q p e s m args below meth c C Z hr H locs ls hP hS hv) (fun q => kf q p e s m args below meth c C Z hr H locs ls hP hS hv)
theorem PW.if_eq {x : Int32} {off : Int} {tgt : Nat} (hd : decode (mC M) pc = .ok (.ifCond .eq off, 3)) (ht : (pc : Int) + off = (tgt : Int)) (kt : x = 0 → PW K R cs ss M (tgt) l st hp v hp') (kf : ¬ x = 0 → PW K R cs ss M (pc + 3) l st hp v hp') : PW K R cs ss M pc l (.int x :: st) hp v hp' := by
  intro p e s m args below meth c C Z hr H locs ls hP hS hv
  exact lv_if_eq C.1 C.2.1 hd ht (fun q => kt q p e s m args below meth c C Z hr H locs ls hP hS hv) (fun q => kf q p e s m args below meth c C Z hr H locs ls hP hS hv)
theorem PW.icmp_ne {x y : Int32} {off : Int} {tgt : Nat} (hd : decode (mC M) pc = .ok (.if_icmp .ne off, 3)) (ht : (pc : Int) + off = (tgt : Int)) (kt : ¬ x = y → PW K R cs ss M (tgt) l st hp v hp') (kf : x = y → PW K R cs ss M (pc + 3) l st hp v hp') : PW K R cs ss M pc l (.int y :: .int x :: st) hp v hp' := by
  intro p e s m args below meth c C Z hr H locs ls hP hS hv
  exact lv_icmp_ne C.1 C.2.1 hd ht (fun q => kt q p e s m args below meth c C Z hr H locs ls hP hS hv) (fun q => kf q p e s m args below meth c C Z hr H locs ls hP hS hv)
theorem PW.if_ne {x : Int32} {off : Int} {tgt : Nat} (hd : decode (mC M) pc = .ok (.ifCond .ne off, 3)) (ht : (pc : Int) + off = (tgt : Int)) (kt : ¬ x = 0 → PW K R cs ss M (tgt) l st hp v hp') (kf : x = 0 → PW K R cs ss M (pc + 3) l st hp v hp') : PW K R cs ss M pc l (.int x :: st) hp v hp' := by
  intro p e s m args below meth c C Z hr H locs ls hP hS hv
  exact lv_if_ne C.1 C.2.1 hd ht (fun q => kt q p e s m args below meth c C Z hr H locs ls hP hS hv) (fun q => kf q p e s m args below meth c C Z hr H locs ls hP hS hv)
theorem PW.icmp_lt {x y : Int32} {off : Int} {tgt : Nat} (hd : decode (mC M) pc = .ok (.if_icmp .lt off, 3)) (ht : (pc : Int) + off = (tgt : Int)) (kt : x < y → PW K R cs ss M (tgt) l st hp v hp') (kf : ¬ x < y → PW K R cs ss M (pc + 3) l st hp v hp') : PW K R cs ss M pc l (.int y :: .int x :: st) hp v hp' := by
  intro p e s m args below meth c C Z hr H locs ls hP hS hv
  exact lv_icmp_lt C.1 C.2.1 hd ht (fun q => kt q p e s m args below meth c C Z hr H locs ls hP hS hv) (fun q => kf q p e s m args below meth c C Z hr H locs ls hP hS hv)
theorem PW.if_lt {x : Int32} {off : Int} {tgt : Nat} (hd : decode (mC M) pc = .ok (.ifCond .lt off, 3)) (ht : (pc : Int) + off = (tgt : Int)) (kt : x < 0 → PW K R cs ss M (tgt) l st hp v hp') (kf : ¬ x < 0 → PW K R cs ss M (pc + 3) l st hp v hp') : PW K R cs ss M pc l (.int x :: st) hp v hp' := by
  intro p e s m args below meth c C Z hr H locs ls hP hS hv
  exact lv_if_lt C.1 C.2.1 hd ht (fun q => kt q p e s m args below meth c C Z hr H locs ls hP hS hv) (fun q => kf q p e s m args below meth c C Z hr H locs ls hP hS hv)
theorem PW.icmp_ge {x y : Int32} {off : Int} {tgt : Nat} (hd : decode (mC M) pc = .ok (.if_icmp .ge off, 3)) (ht : (pc : Int) + off = (tgt : Int)) (kt : y ≤ x → PW K R cs ss M (tgt) l st hp v hp') (kf : ¬ y ≤ x → PW K R cs ss M (pc + 3) l st hp v hp') : PW K R cs ss M pc l (.int y :: .int x :: st) hp v hp' := by
  intro p e s m args below meth c C Z hr H locs ls hP hS hv
  exact lv_icmp_ge C.1 C.2.1 hd ht (fun q => kt q p e s m args below meth c C Z hr H locs ls hP hS hv) (fun q => kf q p e s m args below meth c C Z hr H locs ls hP hS hv)
theorem PW.if_ge {x : Int32} {off : Int} {tgt : Nat} (hd : decode (mC M) pc = .ok (.ifCond .ge off, 3)) (ht : (pc : Int) + off = (tgt : Int)) (kt : 0 ≤ x → PW K R cs ss M (tgt) l st hp v hp') (kf : ¬ 0 ≤ x → PW K R cs ss M (pc + 3) l st hp v hp') : PW K R cs ss M pc l (.int x :: st) hp v hp' := by
  intro p e s m args below meth c C Z hr H locs ls hP hS hv
  exact lv_if_ge C.1 C.2.1 hd ht (fun q => kt q p e s m args below meth c C Z hr H locs ls hP hS hv) (fun q => kf q p e s m args below meth c C Z hr H locs ls hP hS hv)
theorem PW.icmp_gt {x y : Int32} {off : Int} {tgt : Nat} (hd : decode (mC M) pc = .ok (.if_icmp .gt off, 3)) (ht : (pc : Int) + off = (tgt : Int)) (kt : y < x → PW K R cs ss M (tgt) l st hp v hp') (kf : ¬ y < x → PW K R cs ss M (pc + 3) l st hp v hp') : PW K R cs ss M pc l (.int y :: .int x :: st) hp v hp' := by
  intro p e s m args below meth c C Z hr H locs ls hP hS hv
  exact lv_icmp_gt C.1 C.2.1 hd ht (fun q => kt q p e s m args below meth c C Z hr H locs ls hP hS hv) (fun q => kf q p e s m args below meth c C Z hr H locs ls hP hS hv)
theorem PW.if_gt {x : Int32} {off : Int} {tgt : Nat} (hd : decode (mC M) pc = .ok (.ifCond .gt off, 3)) (ht : (pc : Int) + off = (tgt : Int)) (kt : 0 < x → PW K R cs ss M (tgt) l st hp v hp') (kf : ¬ 0 < x → PW K R cs ss M (pc + 3) l st hp v hp') : PW K R cs ss M pc l (.int x :: st) hp v hp' := by
  intro p e s m args below meth c C Z hr H locs ls hP hS hv
  exact lv_if_gt C.1 C.2.1 hd ht (fun q => kt q p e s m args below meth c C Z hr H locs ls hP hS hv) (fun q => kf q p e s m args below meth c C Z hr H locs ls hP hS hv)
theorem PW.icmp_le {x y : Int32} {off : Int} {tgt : Nat} (hd : decode (mC M) pc = .ok (.if_icmp .le off, 3)) (ht : (pc : Int) + off = (tgt : Int)) (kt : x ≤ y → PW K R cs ss M (tgt) l st hp v hp') (kf : ¬ x ≤ y → PW K R cs ss M (pc + 3) l st hp v hp') : PW K R cs ss M pc l (.int y :: .int x :: st) hp v hp' := by
  intro p e s m args below meth c C Z hr H locs ls hP hS hv
  exact lv_icmp_le C.1 C.2.1 hd ht (fun q => kt q p e s m args below meth c C Z hr H locs ls hP hS hv) (fun q => kf q p e s m args below meth c C Z hr H locs ls hP hS hv)
theorem PW.if_le {x : Int32} {off : Int} {tgt : Nat} (hd : decode (mC M) pc = .ok (.ifCond .le off, 3)) (ht : (pc : Int) + off = (tgt : Int)) (kt : x ≤ 0 → PW K R cs ss M (tgt) l st hp v hp') (kf : ¬ x ≤ 0 → PW K R cs ss M (pc + 3) l st hp v hp') : PW K R cs ss M pc l (.int x :: st) hp v hp' := by
  intro p e s m args below meth c C Z hr H locs ls hP hS hv
  exact lv_if_le C.1 C.2.1 hd ht (fun q => kt q p e s m args below meth c C Z hr H locs ls hP hS hv) (fun q => kf q p e s m args below meth c C Z hr H locs ls hP hS hv)
theorem PW.goto {off : Int} {tgt : Nat} (hd : decode (mC M) pc = .ok (.goto off, 3)) (ht : (pc : Int) + off = (tgt : Int)) (kk : PW K R cs ss M (tgt) l st hp v hp') : PW K R cs ss M pc l st hp v hp' := by
  intro p e s m args below meth c C Z hr H locs ls hP hS hv
  exact lv_goto C.1 C.2.1 hd ht (kk p e s m args below meth c C Z hr H locs ls hP hS hv)
theorem PW.tabOut {dflt lo hi : Int} {offs : Array Int} {len : Nat} {x : Int32} {tgt : Nat} (hd : decode (mC M) pc = .ok (.tableswitch dflt lo hi offs, len)) (h : x.toInt < lo ∨ hi < x.toInt) (ht : (pc : Int) + dflt = (tgt : Int)) (kk : PW K R cs ss M (tgt) l st hp v hp') : PW K R cs ss M pc l (.int x :: st) hp v hp' := by
  intro p e s m args below meth c C Z hr H locs ls hP hS hv
  exact lv_tableOut C.1 C.2.1 hd h ht (kk p e s m args below meth c C Z hr H locs ls hP hS hv)
theorem PW.tabIn {dflt lo hi : Int} {offs : Array Int} {len : Nat} {x : Int32} {off : Int} {tgt : Nat} (hd : decode (mC M) pc = .ok (.tableswitch dflt lo hi offs, len)) (h1 : ¬ x.toInt < lo) (h2 : ¬ hi < x.toInt) (ho : offs[(x.toInt - lo).toNat]? = some off) (ht : (pc : Int) + off = (tgt : Int)) (kk : PW K R cs ss M (tgt) l st hp v hp') : PW K R cs ss M pc l (.int x :: st) hp v hp' := by
  intro p e s m args below meth c C Z hr H locs ls hP hS hv
  exact lv_tableIn C.1 C.2.1 hd h1 h2 ho ht (kk p e s m args below meth c C Z hr H locs ls hP hS hv)
theorem rE_o {ad aC : Nat → Nat} {hp : PH} {k ci : Nat} {fs : List Value} (h : hp k = .inr (ci, fs)) (hk : k < NC) : (wsO ad aC hp)[k]? = some (ad k, .inr (ci, fs.map (rv ad))) := by
  rw [wsO_get ad aC hp hk, h]; rfl
theorem rE_i {ad aC : Nat → Nat} {hp : PH} {k t n : Nat} {f : Nat → Int32} (h : hp k = .inl (t, n, .inl f)) (hk : k < NC) : (wsO ad aC hp)[k]? = some (ad k, .inl (aC t, n, .inl f)) := by
  rw [wsO_get ad aC hp hk, h]; rfl
theorem rE_l {ad aC : Nat → Nat} {hp : PH} {k t n : Nat} {f : Nat → Int64} (h : hp k = .inl (t, n, .inr (.inl f))) (hk : k < NC) : (wsO ad aC hp)[k]? = some (ad k, .inl (aC t, n, .inr (.inl f))) := by
  rw [wsO_get ad aC hp hk, h]; rfl
theorem rE_q {ad aC : Nat → Nat} {hp : PH} {k t n : Nat} {f : Nat → Option Nat} (h : hp k = .inl (t, n, .inr (.inr (.inr (.inr f))))) (hk : k < NC) : (wsO ad aC hp)[k]? = some (ad k, .inl (aC t, n, .inr (.inr (.inr (.inr (fun j => (f j).map ad)))))) := by
  rw [wsO_get ad aC hp hk, h]; rfl
/-- a class of the worlds: its number, and that its fields' words are among TB -/
def Cls (ci : Nat) (C : String) (T : u_T) (N : Nat) : Prop := vwCl[ci]? = some (C, T, N) ∧ ∀ w ∈ u_ws C T N, w ∈ TB
theorem PW.getV {ci k j N i : Nat} {C : String} {T : u_T} {u : Value} (hc : Cls ci C T N) (hj : j < N) (hd : decode (mC M) pc = .ok (.getfield i, 3)) (hw : Cond.fieldLink (mO M) i (T j).1 (T j).2.1 (T j).2.2.1 ∈ TB) (hg : gV hp k ci j = some u) (kk : PW K R cs ss M (pc + 3) l (rv (ga K) u :: st) hp v hp') : PW K R cs ss M pc l (.ref (ga K k) :: st) hp v hp' := by
  intro p e s m args below meth c C0 Z hr H locs ls hP hS hv
  obtain ⟨hk, fs, h1, h2⟩ := gV_spec hg
  exact va_get (D := gD K) (cl := vwCl) (tys := tyK K) (ws := wsO (ga K) (gC K) hp) C0.1 C0.2.1 C0.2.2.2.2.1 hc.2 C0.2.2.2.1 C0.2.2.2.2.2.1 hP k (rE_o h1 hk) hc.1 j hj (C0.2.2.2.2.1 _ hw) (fun _ h9 => h9) (by rw [List.getElem?_map, h2]; rfl) hd (kk p e s m args below meth c C0 Z hr H locs ls hP hS hv)
theorem PW.getI {ci k j N i : Nat} {C : String} {T : u_T} {x : Int32} (hc : Cls ci C T N) (hj : j < N) (hd : decode (mC M) pc = .ok (.getfield i, 3)) (hw : Cond.fieldLink (mO M) i (T j).1 (T j).2.1 (T j).2.2.1 ∈ TB) (hg : gI hp k ci j = some x) (kk : PW K R cs ss M (pc + 3) l (.int x :: st) hp v hp') : PW K R cs ss M pc l (.ref (ga K k) :: st) hp v hp' := PW.getV hc hj hd hw (gI_spec hg) kk
theorem PW.getJ {ci k j N i : Nat} {C : String} {T : u_T} {x : Int64} (hc : Cls ci C T N) (hj : j < N) (hd : decode (mC M) pc = .ok (.getfield i, 3)) (hw : Cond.fieldLink (mO M) i (T j).1 (T j).2.1 (T j).2.2.1 ∈ TB) (hg : gJ hp k ci j = some x) (kk : PW K R cs ss M (pc + 3) l (.long x :: st) hp v hp') : PW K R cs ss M pc l (.ref (ga K k) :: st) hp v hp' := PW.getV hc hj hd hw (gJ_spec hg) kk
theorem PW.getR {ci k j N i : Nat} {C : String} {T : u_T} {x : Nat} (hc : Cls ci C T N) (hj : j < N) (hd : decode (mC M) pc = .ok (.getfield i, 3)) (hw : Cond.fieldLink (mO M) i (T j).1 (T j).2.1 (T j).2.2.1 ∈ TB) (hg : gR hp k ci j = some x) (kk : PW K R cs ss M (pc + 3) l (.ref (ga K x) :: st) hp v hp') : PW K R cs ss M pc l (.ref (ga K k) :: st) hp v hp' := PW.getV hc hj hd hw (gR_spec hg) kk
/-- a class whose fields may be written: their types, their names apart -/
def ClsW (T : u_T) (N : Nat) (ty : Nat → FieldType) : Prop := (∀ k, k < N → parseFieldDescriptor (T k).2.2.1 = some (ty k)) ∧ ∀ a, a < N → ∀ b, b < N → a ≠ b → (T a).2.1 ≠ (T b).2.1
theorem PW.putV {ci k j N i : Nat} {C : String} {T : u_T} {ty : Nat → FieldType} {u : Value} {hp1 : PH} (hc : Cls ci C T N) (hcw : ClsW T N ty) (hj : j < N) (hd : decode (mC M) pc = .ok (.putfield i, 3)) (hw : Cond.fieldLink (mO M) i (T j).1 (T j).2.1 (T j).2.2.1 ∈ TB) (hfin : (T j).2.2.2 = false) (hu : rv (ga K) u = u) (hn : narrow (ty j) u = u) (hf : fits (ty j) u = true) (hg : pV hp k ci j u = some hp1) (kk : PW K R cs ss M (pc + 3) l st hp1 v hp') : PW K R cs ss M pc l (u :: .ref (ga K k) :: st) hp v hp' := by
  intro p e s m args below meth c C0 Z hr H locs ls hP hS hv
  obtain ⟨hk, fs, h1, h2, rfl⟩ := pV_spec hg
  refine va_put (D := gD K) (cl := vwCl) (tys := tyK K) (ws := wsO (ga K) (gC K) hp) (A := AA K) (H0 := s.heap) C0.1 C0.2.1 C0.2.2.2.2.1 hc.2 ty hcw.1 hcw.2 C0.2.2.2.1 C0.2.2.2.2.2.1 hP (C0.2.2.2.2.2.D hp) hS k (rE_o h1 hk) hc.1 j hj (C0.2.2.2.2.1 _ hw) (fun _ h9 => h9) hfin (hcw.1 j hj) hn hf (by simpa using h2) hd (fun H1 locs1 hP1 hD1 hS1 => ?_)
  refine kk p e s m args below meth c C0 Z hr H1 locs1 ls ?_ hS1 hv
  show va_P _ _ _ _
  rw [← wsO_set _ _ _ hk]
  have e1 : rE (ga K) (gC K) (.inr (ci, fs.set j u)) = .inr (ci, (fs.map (rv (ga K))).set j u) := by
    show Sum.inr (ci, (fs.set j u).map (rv (ga K))) = _
    rw [List.map_set, hu]
  rw [e1]
  exact hP1
theorem PW.putI {ci k j N i : Nat} {C : String} {T : u_T} {ty : Nat → FieldType} {x : Int32} {hp1 : PH} (hc : Cls ci C T N) (hcw : ClsW T N ty) (hj : j < N) (hd : decode (mC M) pc = .ok (.putfield i, 3)) (hw : Cond.fieldLink (mO M) i (T j).1 (T j).2.1 (T j).2.2.1 ∈ TB) (hfin : (T j).2.2.2 = false) (hty : ty j = .int) (hg : pI hp k ci j x = some hp1) (kk : PW K R cs ss M (pc + 3) l st hp1 v hp') : PW K R cs ss M pc l (.int x :: .ref (ga K k) :: st) hp v hp' := PW.putV hc hcw hj hd hw hfin rfl (by rw [hty]; rfl) (by rw [hty]; rfl) hg kk
theorem PW.putJ {ci k j N i : Nat} {C : String} {T : u_T} {ty : Nat → FieldType} {x : Int64} {hp1 : PH} (hc : Cls ci C T N) (hcw : ClsW T N ty) (hj : j < N) (hd : decode (mC M) pc = .ok (.putfield i, 3)) (hw : Cond.fieldLink (mO M) i (T j).1 (T j).2.1 (T j).2.2.1 ∈ TB) (hfin : (T j).2.2.2 = false) (hty : ty j = .long) (hg : pJ hp k ci j x = some hp1) (kk : PW K R cs ss M (pc + 3) l st hp1 v hp') : PW K R cs ss M pc l (.long x :: .ref (ga K k) :: st) hp v hp' := PW.putV hc hcw hj hd hw hfin rfl (by rw [hty]; rfl) (by rw [hty]; rfl) hg kk
theorem z_nar {x : Int32} (h : x = 0 ∨ x = 1) : narrow .boolean (.int x) = .int x ∧ fits .boolean (.int x) = true := by
  rcases h with rfl | rfl <;> exact ⟨by decide +kernel, by decide +kernel⟩
theorem PW.putZ {ci k j N i : Nat} {C : String} {T : u_T} {ty : Nat → FieldType} {x : Int32} {hp1 : PH} (hc : Cls ci C T N) (hcw : ClsW T N ty) (hj : j < N) (hd : decode (mC M) pc = .ok (.putfield i, 3)) (hw : Cond.fieldLink (mO M) i (T j).1 (T j).2.1 (T j).2.2.1 ∈ TB) (hfin : (T j).2.2.2 = false) (hty : ty j = .boolean) (hg : pZ hp k ci j x = some hp1) (kk : PW K R cs ss M (pc + 3) l st hp1 v hp') : PW K R cs ss M pc l (.int x :: .ref (ga K k) :: st) hp v hp' := by
  unfold pZ at hg
  by_cases hx : x = 0 ∨ x = 1
  · rw [if_pos hx] at hg
    exact PW.putV hc hcw hj hd hw hfin rfl (by rw [hty]; exact (z_nar hx).1) (by rw [hty]; exact (z_nar hx).2) hg kk
  · rw [if_neg hx] at hg; cases hg
theorem PW.iald {k : Nat} {i x : Int32} (hd : decode (mC M) pc = .ok (.iaload, 1)) (hg : aI hp k 0 i = some x) (kk : PW K R cs ss M (pc + 1) l (.int x :: st) hp v hp') : PW K R cs ss M pc l (.int i :: .ref (ga K k) :: st) hp v hp' := by
  intro p e s m args below meth c C0 Z hr H locs ls hP hS hv
  obtain ⟨a, h1, h2, rfl⟩ := aI_spec hg
  obtain ⟨hk, h3⟩ := aA_spec h1
  exact va_iald (ws := wsO (ga K) (gC K) hp) C0.1 C0.2.1 C0.2.2.2.2.2.1 hP k 0 (rE_i h3 hk) rfl h2 hd (kk p e s m args below meth c C0 Z hr H locs ls hP hS hv)
theorem PW.zald {k : Nat} {i x : Int32} (hd : decode (mC M) pc = .ok (.baload, 1)) (hg : aI hp k 1 i = some x) (kk : PW K R cs ss M (pc + 1) l (.int x :: st) hp v hp') : PW K R cs ss M pc l (.int i :: .ref (ga K k) :: st) hp v hp' := by
  intro p e s m args below meth c C0 Z hr H locs ls hP hS hv
  obtain ⟨a, h1, h2, rfl⟩ := aI_spec hg
  obtain ⟨hk, h3⟩ := aA_spec h1
  exact va_zald (ws := wsO (ga K) (gC K) hp) C0.1 C0.2.1 C0.2.2.2.2.2.1 hP k 1 (rE_i h3 hk) rfl h2 hd (kk p e s m args below meth c C0 Z hr H locs ls hP hS hv)
theorem PW.lald {k : Nat} {i : Int32} {x : Int64} (hd : decode (mC M) pc = .ok (.laload, 1)) (hg : aJ hp k i = some x) (kk : PW K R cs ss M (pc + 1) l (.long x :: st) hp v hp') : PW K R cs ss M pc l (.int i :: .ref (ga K k) :: st) hp v hp' := by
  intro p e s m args below meth c C0 Z hr H locs ls hP hS hv
  obtain ⟨a, h1, h2, rfl⟩ := aJ_spec hg
  obtain ⟨hk, h3⟩ := aB_spec h1
  exact va_lald (ws := wsO (ga K) (gC K) hp) C0.1 C0.2.1 C0.2.2.2.2.2.1 hP k 2 (rE_l h3 hk) rfl h2 hd (kk p e s m args below meth c C0 Z hr H locs ls hP hS hv)
theorem PW.aald {k x : Nat} {i : Int32} (hd : decode (mC M) pc = .ok (.aaload, 1)) (hg : aQ hp k i = some x) (kk : PW K R cs ss M (pc + 1) l (.ref (ga K x) :: st) hp v hp') : PW K R cs ss M pc l (.int i :: .ref (ga K k) :: st) hp v hp' := by
  intro p e s m args below meth c C0 Z hr H locs ls hP hS hv
  unfold aQ at hg
  split at hg
  · rename_i t' n f hh
    by_cases hc : k < NC ∧ t' = 3 ∧ ¬ i < 0 ∧ i.toNatClampNeg < n
    · rw [if_pos hc] at hg
      obtain ⟨h1, rfl, h3⟩ := hc
      refine va_aldq (ws := wsO (ga K) (gC K) hp) (C := "AgesTens$State") C0.1 C0.2.1 C0.2.2.2.2.2.1 hP k 3 (rE_q hh h1) rfl (in_of h3) hd ?_
      rw [hg]
      exact (kk p e s m args below meth c C0 Z hr H locs ls hP hS hv)
    · rw [if_neg hc] at hg; cases hg
  · cases hg
theorem PW.iast {k : Nat} {i x : Int32} {hp1 : PH} (hd : decode (mC M) pc = .ok (.iastore, 1)) (hg : uI hp k i x = some hp1) (kk : PW K R cs ss M (pc + 1) l st hp1 v hp') : PW K R cs ss M pc l (.int x :: .int i :: .ref (ga K k) :: st) hp v hp' := by
  intro p e s m args below meth c C0 Z hr H locs ls hP hS hv
  obtain ⟨a, h1, h2, rfl⟩ := uI_spec hg
  obtain ⟨hk, h3⟩ := aA_spec h1
  refine va_iast (ws := wsO (ga K) (gC K) hp) (A := AA K) (H0 := s.heap) C0.1 C0.2.1 C0.2.2.2.2.2.1 hP (C0.2.2.2.2.2.D hp) hS k 0 (rE_i h3 hk) rfl h2 hd (fun H1 locs1 hP1 hD1 hS1 => ?_)
  refine kk p e s m args below meth c C0 Z hr H1 locs1 ls ?_ hS1 hv
  show va_P _ _ _ _
  rw [← wsO_set _ _ _ hk]
  exact hP1
theorem PW.zast {k : Nat} {i x : Int32} {hp1 : PH} (hd : decode (mC M) pc = .ok (.bastore, 1)) (hg : uZ hp k i x = some hp1) (kk : PW K R cs ss M (pc + 1) l st hp1 v hp') : PW K R cs ss M pc l (.int x :: .int i :: .ref (ga K k) :: st) hp v hp' := by
  intro p e s m args below meth c C0 Z hr H locs ls hP hS hv
  obtain ⟨a, h1, h2, rfl⟩ := uZ_spec hg
  obtain ⟨hk, h3⟩ := aA_spec h1
  refine va_zast (ws := wsO (ga K) (gC K) hp) (A := AA K) (H0 := s.heap) C0.1 C0.2.1 C0.2.2.2.2.2.1 hP (C0.2.2.2.2.2.D hp) hS k 1 (rE_i h3 hk) rfl h2 hd (fun H1 locs1 hP1 hD1 hS1 => ?_)
  refine kk p e s m args below meth c C0 Z hr H1 locs1 ls ?_ hS1 hv
  show va_P _ _ _ _
  rw [← wsO_set _ _ _ hk]
  exact hP1
theorem PW.last {k : Nat} {i : Int32} {x : Int64} {hp1 : PH} (hd : decode (mC M) pc = .ok (.lastore, 1)) (hg : uJ hp k i x = some hp1) (kk : PW K R cs ss M (pc + 1) l st hp1 v hp') : PW K R cs ss M pc l (.long x :: .int i :: .ref (ga K k) :: st) hp v hp' := by
  intro p e s m args below meth c C0 Z hr H locs ls hP hS hv
  obtain ⟨a, h1, h2, rfl⟩ := uJ_spec hg
  obtain ⟨hk, h3⟩ := aB_spec h1
  refine va_last (ws := wsO (ga K) (gC K) hp) (A := AA K) (H0 := s.heap) C0.1 C0.2.1 C0.2.2.2.2.2.1 hP (C0.2.2.2.2.2.D hp) hS k 2 (rE_l h3 hk) rfl h2 hd (fun H1 locs1 hP1 hD1 hS1 => ?_)
  refine kk p e s m args below meth c C0 Z hr H1 locs1 ls ?_ hS1 hv
  show va_P _ _ _ _
  rw [← wsO_set _ _ _ hk]
  exact hP1
theorem lt_four (t : Nat) (h : t < 4) : t = 0 ∨ t = 1 ∨ t = 2 ∨ t = 3 := by omega
theorem PW.alen {k : Nat} {x : Int32} (hd : decode (mC M) pc = .ok (.arraylength, 1)) (hg : aL hp k = some x) (kk : PW K R cs ss M (pc + 1) l (.int x :: st) hp v hp') : PW K R cs ss M pc l (.ref (ga K k) :: st) hp v hp' := by
  intro p e s m args below meth c C0 Z hr H locs ls hP hS hv
  unfold aL at hg
  split at hg
  · rename_i t' n f hh
    by_cases hc : k < NC ∧ t' < 4
    · rw [if_pos hc] at hg
      cases hg
      have hc2 := hc.2
      have h5 : (wsO (ga K) (gC K) hp)[k]? = some (ga K k, .inl (gC K t', rA (ga K) (n, f))) := by rw [wsO_get _ _ hp hc.1, hh]; rfl
      have h6 : ∃ ty, (tyK K)[t']? = some (gC K t', ty) := by
        rcases lt_four t' hc2 with rfl | rfl | rfl | rfl <;> exact ⟨_, rfl⟩
      obtain ⟨ty, h6⟩ := h6
      exact va_alen (ws := wsO (ga K) (gC K) hp) C0.1 C0.2.1 C0.2.2.2.2.2.1 hP k t' h5 h6 rfl hd (kk p e s m args below meth c C0 Z hr H locs ls hP hS hv)
    · rw [if_neg hc] at hg; cases hg
  · cases hg
theorem PW.copy {k0 k1 t : Nat} {sp dp n : Int32} {i : Nat} {hp1 : PH} (hd : decode (mC M) pc = .ok (.invokestatic i, 3)) (hw : Cond.methodLink (mO M) i arraycopyName ∈ TB) (hw2 : Cond.native arraycopyName ∈ TB) (hw3 : Cond.static arraycopyName ∈ TB) (hw4 : Cond.initialized "java/lang/System" ∈ TB) (hfr : 1 ≤ R.frames) (hlo : (st.map fun v => v.category).sum + (nativeFrameWords "java/lang/System" "arraycopy" 5 + 11) ≤ R.locals) (hg : cA hp k0 sp k1 dp n t = some hp1) (kk : PW K R cs ss M (pc + 3) l st hp1 v hp') : PW K R cs ss M pc l (.int n :: .int dp :: .ref (ga K k1) :: .int sp :: .ref (ga K k0) :: st) hp v hp' := by
  intro p e s m args below meth c C0 Z hr H locs ls hP hS hv
  unfold cA at hg
  cases ha : aA hp k0 t with
  | none => rw [ha] at hg; cases hg
  | some a =>
    cases hb : aA hp k1 t with
    | none => rw [ha, hb] at hg; cases hg
    | some b =>
      rw [ha, hb] at hg
      dsimp only at hg
      split at hg
      · rename_i hc
        cases hg
        obtain ⟨⟨c1, c2, c3⟩, c4, c5, c6⟩ := hc
        obtain ⟨hk0, h0⟩ := aA_spec ha
        obtain ⟨hk1, h1⟩ := aA_spec hb
        have hts := C0.2.2.2.2.1
        have fin : ∀ (H1 : Heap) (locs1 : List Loc), va_P (gD K) vwCl ((wsO (ga K) (gC K) hp).set k1 (ga K k1, .inl (gC K t, b.1, .inl (va_cpy a.2 b.2 sp.toNatClampNeg dp.toNatClampNeg n.toNatClampNeg)))) H1 → va_S (AA K) s.heap H1 locs1 → W p (gl K) e R s m args below meth c H1 locs1 cs ss Z (F0 m (pc + 3) ls st) := by
          intro H1 locs1 hP1 hS1
          refine kk p e s m args below meth c C0 Z hr H1 locs1 ls ?_ hS1 hv
          show va_P _ _ _ _
          rw [← wsO_set _ _ _ hk1]
          exact hP1
        rcases c6 with rfl | ⟨rfl, c6⟩
        · exact va_copyi (ws := wsO (ga K) (gC K) hp) (A := AA K) (H0 := s.heap) (ty := .int) C0.1 C0.2.1 (by rw [C0.2.2.1, hv.1]) C0.2.2.2.1 (hts _ hw) (hts _ hw2) (hts _ hw3) (hts _ hw4) C0.2.2.2.2.2.1 hP (C0.2.2.2.2.2.D hp) hS k0 k1 0 0 (rE_i h0 hk0) (rE_i h1 hk1) rfl rfl rfl c1 c2 c3 c4 c5 (fun _ _ => rfl) hfr hlo hd (fun H1 locs1 hP1 _ hS1 => fin H1 locs1 hP1 hS1)
        · exact va_copyi (ws := wsO (ga K) (gC K) hp) (A := AA K) (H0 := s.heap) (ty := .boolean) C0.1 C0.2.1 (by rw [C0.2.2.1, hv.1]) C0.2.2.2.1 (hts _ hw) (hts _ hw2) (hts _ hw3) (hts _ hw4) C0.2.2.2.2.2.1 hP (C0.2.2.2.2.2.D hp) hS k0 k1 1 1 (rE_i h0 hk0) (rE_i h1 hk1) rfl rfl rfl c1 c2 c3 c4 c5 (fun i hi => (z_nar (c6 i hi)).2) hfr hlo hd (fun H1 locs1 hP1 _ hS1 => fin H1 locs1 hP1 hS1)
      · cases hg
theorem PW.months {i : Nat} (hd : decode (mC M) pc = .ok (.getstatic i, 3)) (hw : Cond.fieldLink (mO M) i "AgesTens$Calendar" "MONTH_PLACES" "[I" ∈ TB) (kk : PW K R cs ss M (pc + 3) l (.ref (gm K) :: st) hp v hp') : PW K R cs ss M pc l st hp v hp' := by
  intro p e s m args below meth c C0 Z hr H locs ls hP hS hv
  exact va_gets C0.1 C0.2.1 C0.2.2.2.2.2.2.2.1 hS C0.2.2.2.1 (C0.2.2.2.2.1 _ hw) (fun _ h => h) hd (kk p e s m args below meth c C0 Z hr H locs ls hP hS hv)
theorem PW.mald {i x : Int32} (hd : decode (mC M) pc = .ok (.iaload, 1)) (hg : aM i = some x) (kk : PW K R cs ss M (pc + 1) l (.int x :: st) hp v hp') : PW K R cs ss M pc l (.int i :: .ref (gm K) :: st) hp v hp' := by
  intro p e s m args below meth c C0 Z hr H locs ls hP hS hv
  unfold aM at hg
  split at hg
  · rename_i hc
    cases hg
    exact va_ti C0.1 C0.2.1 C0.2.2.2.2.2.2.2.2.1 hS (in_of hc) rfl hd (kk p e s m args below meth c C0 Z hr H locs ls hP hS hv)
  · cases hg
theorem PW.sald {i : Int32} (hd : decode (mC M) pc = .ok (.iaload, 1)) (hg : vp_in i (gL K)) (kk : PW K R cs ss M (pc + 1) l (.int (gx K i.toNatClampNeg) :: st) hp v hp') : PW K R cs ss M pc l (.int i :: .ref (gb K) :: st) hp v hp' := by
  intro p e s m args below meth c C0 Z hr H locs ls hP hS hv
  exact va_ti C0.1 C0.2.1 C0.2.2.2.2.2.2.2.2.2.2 hS hg rfl hd (kk p e s m args below meth c C0 Z hr H locs ls hP hS hv)
theorem PW.slen (hd : decode (mC M) pc = .ok (.arraylength, 1)) (kk : PW K R cs ss M (pc + 1) l (.int (nI (gL K)) :: st) hp v hp') : PW K R cs ss M pc l (.ref (gb K) :: st) hp v hp' := by
  intro p e s m args below meth c C0 Z hr H locs ls hP hS hv
  exact va_tlen C0.1 C0.2.1 C0.2.2.2.2.2.2.2.2.2.2 hS rfl hd (kk p e s m args below meth c C0 Z hr H locs ls hP hS hv)
theorem PW.mmin {x y : Int32} {i : Nat} (hd : decode (mC M) pc = .ok (.invokestatic i, 3)) (hw : Cond.methodLink (mO M) i Lib.Math.min.name ∈ TB) (hw2 : Cond.static Lib.Math.min.name ∈ TB) (hw3 : Cond.initialized "java/lang/Math" ∈ TB) (hw4 : Cond.code Lib.Math.min.name Lib.Math.min.code 2 (some .int) ∈ TB) (hfr : 1 ≤ R.frames) (hlo : (st.map fun v => v.category).sum + 13 ≤ R.locals) (hcs : cs ≤ R.cells ∧ ss ≤ R.slots) (kk : PW K R cs ss M (pc + 3) l (.int (if y < x then y else x) :: st) hp v hp') : PW K R cs ss M pc l (.int y :: .int x :: st) hp v hp' := by
  intro p e s m args below meth c C0 Z hr H locs ls hP hS hv
  have hts := C0.2.2.2.2.1
  exact va_mmin C0.1 C0.2.1 (by rw [C0.2.2.1, hv.1]) C0.2.2.2.1 (hts _ hw) (hts _ hw2) (hts _ hw3) (hts _ hw4) hfr hlo hcs.1 hcs.2 hd (kk p e s m args below meth c C0 Z hr H locs ls hP hS hv)
/-- what a call of M' needs of the tables -/
def CalB (M' : MK) (n : Nat) : Prop := Cond.code (mY M') (mC M') (mL M') (mR M') ∈ TB ∧ Cond.initialized (mY M').cls ∈ TB ∧ ((mY M').cls ≠ "java/lang/invoke/MethodHandle" ∧ (mY M').cls ≠ "java/lang/invoke/VarHandle" ∧ (parseMethodDescriptor (mY M').desc).map (fun d => d.parameters.length) = some n) ∧ mL M' ≤ 22
def CalV (M' : MK) (n ci : Nat) : Prop := CalB M' n ∧ Cond.instanceMethod (mY M') ∈ TB ∧ Cond.selects (mY M').cls (mY M') (mY M') ∈ TB ∧ (vwCl[ci]?).map (fun r => r.1) = some (mY M').cls
def CalS (M' : MK) (n : Nat) : Prop := CalB M' n ∧ Cond.static (mY M') ∈ TB
theorem wsM_good {M' : MK} (h : Cond.code (mY M') (mC M') (mL M') (mR M') ∈ TB) : GoodIn TB (wsM M') := fun w hw => (List.mem_cons.mp hw).elim (fun e => by rw [e]; exact ⟨h, good_of_word (List.mem_filter.mp h).2⟩) (fun e => ⟨e, good_of_word (List.mem_filter.mp e).2⟩)
theorem PM.blind {K : GK} {As : List Value} {hp : PH} : FrameBlind (va_Pc As (fun U => Wd K hp U.heap ∧ FX K U U.heap)) := by
  intro a U g mk q
  exact ⟨q.1, q.2.1, FX.go (s := U) (U := U.calling g mk a) (H := U.heap) q.2.2 va_S.rf (Vm.Alike.refl U.vm)⟩
theorem PW.aft {p : Program} {e : Env} {s : State} {m : MethodId} {args : Array Value} {below : List Frame} {meth : Method} {c : Code} {H : Heap} {locs : List Loc} {rest : List Value} {v1 : Option Value} {hp1 : PH} {Z : State → Prop} {ls : Array Slot} {st0 : List Value}
    (hrun : va_Run p (gl K) e R s m args below meth c H locs cs ss 0 0 (F0 m pc ls st0) rest (fun st oc t => oc = .returned v1 ∧ Wd K hp1 t.heap ∧ va_F (AA K) st t) (AA K)) (hS : va_S (AA K) s.heap H locs)
    (kk : ∀ (H1 : Heap) (locs1 : List Loc), Wd K hp1 H1 → va_S (AA K) s.heap H1 locs1 → W p (gl K) e R s m args below meth c H1 locs1 cs ss Z (F0 m (pc + 3) ls (v1.toList ++ rest))) : W p (gl K) e R s m args below meth c H locs cs ss Z (F0 m pc ls st0) := by
  intro T hT X
  obtain ⟨v, st₀, t, T', L, h0, X', hL, e1, e2, ⟨hv, hw, hz, hk⟩, go⟩ := hrun T hT X
  cases hv
  rw [h0] at hz hk
  obtain ⟨t2, a1, b1⟩ := kk T'.heap (locs ++ L) (by rw [e1]; exact hw)
    ⟨Nat.le_trans hS.1 (by rw [e1]; exact hz), fun q h1 h2 => by rw [e1, hk q (Nat.lt_of_lt_of_le h1 hS.1) h2]; exact hS.2.1 q h1 h2, fun q hq => by
      rcases List.mem_append.mp hq with h | h
      · exact hS.2.2 q h
      · exact hL q h⟩ T' rfl X'
  exact ⟨t2, go t2 a1, b1⟩
theorem PW.callV {M' : MK} {d n ci k i : Nat} {As rest : List Value} {v1 : Option Value} {hp1 : PH} (hcal : CalV M' n ci) (hd : decode (mC M) pc = .ok (.invokevirtual i, 3)) (hw : Cond.methodLink (mO M) i (mY M') ∈ TB) (hs : st = As.reverse ++ .ref (ga K k) :: rest) (hn : As.length = n) (hR : d + 1 ≤ R.frames ∧ 41 * d + 41 ≤ R.locals) (hrest : (rest.map fun v => v.category).sum ≤ 8) (hcs : cs ≤ R.cells ∧ ss ≤ R.slots) (hk : k < NC) (hcell : ∃ fs, hp k = .inr (ci, fs)) (hM : PM K d M' (.ref (ga K k) :: As) hp v1 hp1) (kk : PW K R cs ss M (pc + 3) l (v1.toList ++ rest) hp1 v hp') : PW K R cs ss M pc l st hp v hp' := by
  intro p e s m args below meth c C0 Z hr H locs ls hP hS hv
  subst hs
  have hts := C0.2.2.2.2.1
  obtain ⟨⟨q1, q2, q3, q4⟩, q5, q6, q7⟩ := hcal
  obtain ⟨fs, hcell⟩ := hcell
  cases hvw : vwCl[ci]? with
  | none => rw [hvw] at q7; cases q7
  | some r =>
    rw [hvw] at q7
    have hrn : r.1 = (mY M').cls := Option.some.inj q7
    have hrecv := va_recv (q0 := k) C0.2.2.2.2.2.1 hP hvw (rE_o hcell hk)
    rw [hrn] at hrecv
    have hb : CallB R s args (mO M) i (mY M') (mC M') (mL M') (mR M') (wsM M') (rmD d) 0 0 n := callB_of (Ts := TB) n hts (wsM_good q1) rfl rfl rfl (hts _ q2) (hts _ hw) q3 ⟨hR.1, by show 8 + (mL M' + 11) + 41 * d ≤ R.locals; omega⟩
    refine PW.aft (va_runV (n := n) (C := (mY M').cls) (Ts := TB) (As := As) (rest := rest) ⟨C0.1, C0.2.1, C0.2.2.1, C0.2.2.2.1, hts⟩ hM ⟨hb, hts _ q5, hts _ q6⟩ ⟨PM.blind, hrecv, fun U hU hW => ⟨rfl, by rw [hU]; exact hP, by rw [hU]; exact C0.2.2.2.2.2.go hS hW.alike⟩⟩ rfl hn hv.1 rfl (lv_room hrest) hd hcs) hS (fun H1 locs1 hP1 hS1 => kk p e s m args below meth c C0 Z hr H1 locs1 ls hP1 hS1 hv)
theorem PW.callS {M' : MK} {d n i : Nat} {As rest : List Value} {v1 : Option Value} {hp1 : PH} (hcal : CalS M' n) (hd : decode (mC M) pc = .ok (.invokestatic i, 3)) (hw : Cond.methodLink (mO M) i (mY M') ∈ TB) (hs : st = As.reverse ++ rest) (hn : As.length = n) (hR : d + 1 ≤ R.frames ∧ 41 * d + 41 ≤ R.locals) (hrest : (rest.map fun v => v.category).sum ≤ 8) (hcs : cs ≤ R.cells ∧ ss ≤ R.slots) (hM : PM K d M' As hp v1 hp1) (kk : PW K R cs ss M (pc + 3) l (v1.toList ++ rest) hp1 v hp') : PW K R cs ss M pc l st hp v hp' := by
  intro p e s m args below meth c C0 Z hr H locs ls hP hS hv
  subst hs
  have hts := C0.2.2.2.2.1
  obtain ⟨⟨q1, q2, q3, q4⟩, q5⟩ := hcal
  have hb : CallB R s args (mO M) i (mY M') (mC M') (mL M') (mR M') (wsM M') (rmD d) 0 0 n := callB_of (Ts := TB) n hts (wsM_good q1) rfl rfl rfl (hts _ q2) (hts _ hw) q3 ⟨hR.1, by show 8 + (mL M' + 11) + 41 * d ≤ R.locals; omega⟩
  refine PW.aft (va_runS (n := n) (Ts := TB) (As := As) (rest := rest) ⟨C0.1, C0.2.1, C0.2.2.1, C0.2.2.2.1, hts⟩ hM ⟨hb, hts _ q5⟩ ⟨PM.blind, fun U hU hW => ⟨rfl, by rw [hU]; exact hP, by rw [hU]; exact C0.2.2.2.2.2.go hS hW.alike⟩⟩ rfl hn hv.1 rfl (lv_room hrest) hd hcs) hS (fun H1 locs1 hP1 hS1 => kk p e s m args below meth c C0 Z hr H1 locs1 ls hP1 hS1 hv)
end PWR
end
