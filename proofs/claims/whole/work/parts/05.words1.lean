def TB : List Cond := lw_tbl.filter goodWord
theorem tb_of {w : Cond} (i : Nat) (h : lw_tbl[i]? = some w) (hg : goodWord w = true) : w ∈ TB := List.mem_filter.mpr ⟨List.mem_of_getElem? h, hg⟩
theorem wd_0 : (Jvm.Cond.selects "AgesTens" ({ cls := "AgesTens", name := "refuse", desc := "(I)I" } : Jvm.MethodName) ({ cls := "AgesTens", name := "refuse", desc := "(I)I" } : Jvm.MethodName)) ∈ TB := tb_of 0 (by decide +kernel) rfl
theorem wd_1 : (Jvm.Cond.selects "AgesTens" ({ cls := "AgesTens", name := "refuseAs", desc := "(II)I" } : Jvm.MethodName) ({ cls := "AgesTens", name := "refuseAs", desc := "(II)I" } : Jvm.MethodName)) ∈ TB := tb_of 1 (by decide +kernel) rfl
theorem wd_2 : (Jvm.Cond.selects "AgesTens" ({ cls := "AgesTens", name := "isPlace", desc := "(II)Z" } : Jvm.MethodName) ({ cls := "AgesTens", name := "isPlace", desc := "(II)Z" } : Jvm.MethodName)) ∈ TB := tb_of 2 (by decide +kernel) rfl
theorem wd_3 : (Jvm.Cond.selects "AgesTens$Judge" ({ cls := "AgesTens$Judge", name := "lastingReason", desc := "(II)I" } : Jvm.MethodName) ({ cls := "AgesTens$Judge", name := "lastingReason", desc := "(II)I" } : Jvm.MethodName)) ∈ TB := tb_of 3 (by decide +kernel) rfl
theorem wd_4 : (Jvm.Cond.selects "AgesTens$Judge" ({ cls := "AgesTens$Judge", name := "isLawful", desc := "(II)Z" } : Jvm.MethodName) ({ cls := "AgesTens$Judge", name := "isLawful", desc := "(II)Z" } : Jvm.MethodName)) ∈ TB := tb_of 4 (by decide +kernel) rfl
theorem wd_5 : (Jvm.Cond.selects "AgesTens$Judge" ({ cls := "AgesTens$Judge", name := "yearsTogether", desc := "(I)I" } : Jvm.MethodName) ({ cls := "AgesTens$Judge", name := "yearsTogether", desc := "(I)I" } : Jvm.MethodName)) ∈ TB := tb_of 5 (by decide +kernel) rfl
theorem wd_6 : (Jvm.Cond.selects "AgesTens$Judge" ({ cls := "AgesTens$Judge", name := "isUnlike", desc := "(I)Z" } : Jvm.MethodName) ({ cls := "AgesTens$Judge", name := "isUnlike", desc := "(I)Z" } : Jvm.MethodName)) ∈ TB := tb_of 6 (by decide +kernel) rfl
theorem wd_7 : (Jvm.Cond.selects "AgesTens$Reader" ({ cls := "AgesTens$Reader", name := "takeToken", desc := "()V" } : Jvm.MethodName) ({ cls := "AgesTens$Reader", name := "takeToken", desc := "()V" } : Jvm.MethodName)) ∈ TB := tb_of 7 (by decide +kernel) rfl
theorem wd_8 : (Jvm.Cond.selects "AgesTens$Reader" ({ cls := "AgesTens$Reader", name := "takeContent", desc := "()Z" } : Jvm.MethodName) ({ cls := "AgesTens$Reader", name := "takeContent", desc := "()Z" } : Jvm.MethodName)) ∈ TB := tb_of 8 (by decide +kernel) rfl
theorem wd_9 : (Jvm.Cond.selects "AgesTens$Reader" ({ cls := "AgesTens$Reader", name := "isWord", desc := "(Ljava/lang/String;)Z" } : Jvm.MethodName) ({ cls := "AgesTens$Reader", name := "isWord", desc := "(Ljava/lang/String;)Z" } : Jvm.MethodName)) ∈ TB := tb_of 9 (by decide +kernel) rfl
theorem wd_10 : (Jvm.Cond.selects "AgesTens$Reader" ({ cls := "AgesTens$Reader", name := "takePerson", desc := "()Z" } : Jvm.MethodName) ({ cls := "AgesTens$Reader", name := "takePerson", desc := "()Z" } : Jvm.MethodName)) ∈ TB := tb_of 10 (by decide +kernel) rfl
theorem wd_11 : (Jvm.Cond.selects "AgesTens$Reader" ({ cls := "AgesTens$Reader", name := "takeNumber", desc := "(II)Z" } : Jvm.MethodName) ({ cls := "AgesTens$Reader", name := "takeNumber", desc := "(II)Z" } : Jvm.MethodName)) ∈ TB := tb_of 11 (by decide +kernel) rfl
theorem wd_12 : (Jvm.Cond.selects "AgesTens$Reader" ({ cls := "AgesTens$Reader", name := "takeGate", desc := "()Z" } : Jvm.MethodName) ({ cls := "AgesTens$Reader", name := "takeGate", desc := "()Z" } : Jvm.MethodName)) ∈ TB := tb_of 12 (by decide +kernel) rfl
theorem wd_13 : (Jvm.Cond.selects "AgesTens$Reader" ({ cls := "AgesTens$Reader", name := "takeTie", desc := "([I)Z" } : Jvm.MethodName) ({ cls := "AgesTens$Reader", name := "takeTie", desc := "([I)Z" } : Jvm.MethodName)) ∈ TB := tb_of 13 (by decide +kernel) rfl
theorem wd_14 : (Jvm.Cond.selects "AgesTens$Reader" ({ cls := "AgesTens$Reader", name := "takeSemicolon", desc := "()Z" } : Jvm.MethodName) ({ cls := "AgesTens$Reader", name := "takeSemicolon", desc := "()Z" } : Jvm.MethodName)) ∈ TB := tb_of 14 (by decide +kernel) rfl
theorem wd_15 : (Jvm.Cond.selects "AgesTens$Parting" ({ cls := "AgesTens$Parting", name := "weigh", desc := "(II)V" } : Jvm.MethodName) ({ cls := "AgesTens$Parting", name := "weigh", desc := "(II)V" } : Jvm.MethodName)) ∈ TB := tb_of 15 (by decide +kernel) rfl
theorem wd_16 : (Jvm.Cond.selects "AgesTens$Parting" ({ cls := "AgesTens$Parting", name := "leastCost", desc := "(I)I" } : Jvm.MethodName) ({ cls := "AgesTens$Parting", name := "leastCost", desc := "(I)I" } : Jvm.MethodName)) ∈ TB := tb_of 16 (by decide +kernel) rfl
theorem wd_17 : (Jvm.Cond.selects "AgesTens$Parting" ({ cls := "AgesTens$Parting", name := "leastBestCompany", desc := "(I)I" } : Jvm.MethodName) ({ cls := "AgesTens$Parting", name := "leastBestCompany", desc := "(I)I" } : Jvm.MethodName)) ∈ TB := tb_of 17 (by decide +kernel) rfl
theorem wd_18 : (Jvm.Cond.selects "AgesTens$Parting" ({ cls := "AgesTens$Parting", name := "leavesNobody", desc := "(II)Z" } : Jvm.MethodName) ({ cls := "AgesTens$Parting", name := "leavesNobody", desc := "(II)Z" } : Jvm.MethodName)) ∈ TB := tb_of 18 (by decide +kernel) rfl
theorem wd_19 : (Jvm.Cond.selects "AgesTens$Sums" ({ cls := "AgesTens$Sums", name := "addOne", desc := "(II)V" } : Jvm.MethodName) ({ cls := "AgesTens$Sums", name := "addOne", desc := "(II)V" } : Jvm.MethodName)) ∈ TB := tb_of 19 (by decide +kernel) rfl
theorem wd_20 : (Jvm.Cond.selects "AgesTens$Fits" ({ cls := "AgesTens$Fits", name := "begin", desc := "(II)V" } : Jvm.MethodName) ({ cls := "AgesTens$Fits", name := "begin", desc := "(II)V" } : Jvm.MethodName)) ∈ TB := tb_of 20 (by decide +kernel) rfl
theorem wd_21 : (Jvm.Cond.selects "AgesTens$Fits" ({ cls := "AgesTens$Fits", name := "countFrom", desc := "(II)I" } : Jvm.MethodName) ({ cls := "AgesTens$Fits", name := "countFrom", desc := "(II)I" } : Jvm.MethodName)) ∈ TB := tb_of 21 (by decide +kernel) rfl
theorem wd_22 : (Jvm.Cond.selects "AgesTens$Fits" ({ cls := "AgesTens$Fits", name := "freeWays", desc := "(I)I" } : Jvm.MethodName) ({ cls := "AgesTens$Fits", name := "freeWays", desc := "(I)I" } : Jvm.MethodName)) ∈ TB := tb_of 22 (by decide +kernel) rfl
theorem wd_23 : (Jvm.Cond.selects "AgesTens$Fits" ({ cls := "AgesTens$Fits", name := "weighFigures", desc := "(I)V" } : Jvm.MethodName) ({ cls := "AgesTens$Fits", name := "weighFigures", desc := "(I)V" } : Jvm.MethodName)) ∈ TB := tb_of 23 (by decide +kernel) rfl
theorem wd_24 : (Jvm.Cond.selects "AgesTens$Fits" ({ cls := "AgesTens$Fits", name := "neededFigure", desc := "(II)I" } : Jvm.MethodName) ({ cls := "AgesTens$Fits", name := "neededFigure", desc := "(II)I" } : Jvm.MethodName)) ∈ TB := tb_of 24 (by decide +kernel) rfl
theorem wd_25 : (Jvm.Cond.selects "AgesTens$Fits" ({ cls := "AgesTens$Fits", name := "countBehind", desc := "(III)I" } : Jvm.MethodName) ({ cls := "AgesTens$Fits", name := "countBehind", desc := "(III)I" } : Jvm.MethodName)) ∈ TB := tb_of 25 (by decide +kernel) rfl
theorem wd_26 : (Jvm.Cond.selects "AgesTens" ({ cls := "AgesTens", name := "setFraction", desc := "(II)V" } : Jvm.MethodName) ({ cls := "AgesTens", name := "setFraction", desc := "(II)V" } : Jvm.MethodName)) ∈ TB := tb_of 26 (by decide +kernel) rfl
theorem wd_27 : (Jvm.Cond.selects "AgesTensModel" ({ cls := "AgesTensModel", name := "bad", desc := "(I)I" } : Jvm.MethodName) ({ cls := "AgesTensModel", name := "bad", desc := "(I)I" } : Jvm.MethodName)) ∈ TB := tb_of 27 (by decide +kernel) rfl
theorem wd_28 : (Jvm.Cond.selects "AgesTensModel" ({ cls := "AgesTensModel", name := "takeApart", desc := "(I)V" } : Jvm.MethodName) ({ cls := "AgesTensModel", name := "takeApart", desc := "(I)V" } : Jvm.MethodName)) ∈ TB := tb_of 28 (by decide +kernel) rfl
theorem wd_29 : (Jvm.Cond.selects "AgesTensModel" ({ cls := "AgesTensModel", name := "full", desc := "()I" } : Jvm.MethodName) ({ cls := "AgesTensModel", name := "full", desc := "()I" } : Jvm.MethodName)) ∈ TB := tb_of 29 (by decide +kernel) rfl
theorem wd_30 : (Jvm.Cond.selects "AgesTensModel" ({ cls := "AgesTensModel", name := "isPerson", desc := "(I)Z" } : Jvm.MethodName) ({ cls := "AgesTensModel", name := "isPerson", desc := "(I)Z" } : Jvm.MethodName)) ∈ TB := tb_of 30 (by decide +kernel) rfl
theorem wd_31 : (Jvm.Cond.selects "AgesTensModel" ({ cls := "AgesTensModel", name := "no", desc := "()I" } : Jvm.MethodName) ({ cls := "AgesTensModel", name := "no", desc := "()I" } : Jvm.MethodName)) ∈ TB := tb_of 31 (by decide +kernel) rfl
theorem wd_32 : (Jvm.Cond.selects "AgesTensModel" ({ cls := "AgesTensModel", name := "look", desc := "(I)V" } : Jvm.MethodName) ({ cls := "AgesTensModel", name := "look", desc := "(I)V" } : Jvm.MethodName)) ∈ TB := tb_of 32 (by decide +kernel) rfl
theorem wd_33 : (Jvm.Cond.selects "AgesTensModel" ({ cls := "AgesTensModel", name := "layBirths", desc := "()V" } : Jvm.MethodName) ({ cls := "AgesTensModel", name := "layBirths", desc := "()V" } : Jvm.MethodName)) ∈ TB := tb_of 33 (by decide +kernel) rfl
theorem wd_34 : (Jvm.Cond.selects "AgesTensModel" ({ cls := "AgesTensModel", name := "layAges", desc := "(I)V" } : Jvm.MethodName) ({ cls := "AgesTensModel", name := "layAges", desc := "(I)V" } : Jvm.MethodName)) ∈ TB := tb_of 34 (by decide +kernel) rfl
theorem wd_35 : (Jvm.Cond.selects "AgesTensModel" ({ cls := "AgesTensModel", name := "isCompany", desc := "(I)Z" } : Jvm.MethodName) ({ cls := "AgesTensModel", name := "isCompany", desc := "(I)Z" } : Jvm.MethodName)) ∈ TB := tb_of 35 (by decide +kernel) rfl
theorem wd_36 : (Jvm.Cond.selects "AgesTensModel" ({ cls := "AgesTensModel", name := "isGate", desc := "(I)Z" } : Jvm.MethodName) ({ cls := "AgesTensModel", name := "isGate", desc := "(I)Z" } : Jvm.MethodName)) ∈ TB := tb_of 36 (by decide +kernel) rfl
theorem wd_37 : (Jvm.Cond.selects "AgesTensModel" ({ cls := "AgesTensModel", name := "whyNot", desc := "(II)I" } : Jvm.MethodName) ({ cls := "AgesTensModel", name := "whyNot", desc := "(II)I" } : Jvm.MethodName)) ∈ TB := tb_of 37 (by decide +kernel) rfl
theorem wd_38 : (Jvm.Cond.selects "AgesTensModel" ({ cls := "AgesTensModel", name := "isByLaw", desc := "(II)Z" } : Jvm.MethodName) ({ cls := "AgesTensModel", name := "isByLaw", desc := "(II)Z" } : Jvm.MethodName)) ∈ TB := tb_of 38 (by decide +kernel) rfl
theorem wd_39 : (Jvm.Cond.selects "AgesTensModel" ({ cls := "AgesTensModel", name := "nextToken", desc := "()V" } : Jvm.MethodName) ({ cls := "AgesTensModel", name := "nextToken", desc := "()V" } : Jvm.MethodName)) ∈ TB := tb_of 39 (by decide +kernel) rfl
theorem wd_40 : (Jvm.Cond.selects "AgesTensModel" ({ cls := "AgesTensModel", name := "byteAt", desc := "(I)I" } : Jvm.MethodName) ({ cls := "AgesTensModel", name := "byteAt", desc := "(I)I" } : Jvm.MethodName)) ∈ TB := tb_of 40 (by decide +kernel) rfl
theorem wd_41 : (Jvm.Cond.selects "AgesTensModel" ({ cls := "AgesTensModel", name := "readItem", desc := "()Z" } : Jvm.MethodName) ({ cls := "AgesTensModel", name := "readItem", desc := "()Z" } : Jvm.MethodName)) ∈ TB := tb_of 41 (by decide +kernel) rfl
theorem wd_42 : (Jvm.Cond.selects "AgesTensModel" ({ cls := "AgesTensModel", name := "readPerson", desc := "()Z" } : Jvm.MethodName) ({ cls := "AgesTensModel", name := "readPerson", desc := "()Z" } : Jvm.MethodName)) ∈ TB := tb_of 42 (by decide +kernel) rfl
theorem wd_43 : (Jvm.Cond.selects "AgesTensModel" ({ cls := "AgesTensModel", name := "isNumber", desc := "(II)Z" } : Jvm.MethodName) ({ cls := "AgesTensModel", name := "isNumber", desc := "(II)Z" } : Jvm.MethodName)) ∈ TB := tb_of 43 (by decide +kernel) rfl
theorem wd_44 : (Jvm.Cond.selects "AgesTensModel" ({ cls := "AgesTensModel", name := "readGate", desc := "()Z" } : Jvm.MethodName) ({ cls := "AgesTensModel", name := "readGate", desc := "()Z" } : Jvm.MethodName)) ∈ TB := tb_of 44 (by decide +kernel) rfl
theorem wd_45 : (Jvm.Cond.selects "AgesTensModel" ({ cls := "AgesTensModel", name := "readPair", desc := "(I)Z" } : Jvm.MethodName) ({ cls := "AgesTensModel", name := "readPair", desc := "(I)Z" } : Jvm.MethodName)) ∈ TB := tb_of 45 (by decide +kernel) rfl
theorem wd_46 : (Jvm.Cond.selects "AgesTensModel" ({ cls := "AgesTensModel", name := "isLook", desc := "(III)Z" } : Jvm.MethodName) ({ cls := "AgesTensModel", name := "isLook", desc := "(III)Z" } : Jvm.MethodName)) ∈ TB := tb_of 46 (by decide +kernel) rfl
theorem wd_47 : (Jvm.Cond.selects "AgesTensModel" ({ cls := "AgesTensModel", name := "isSet", desc := "(I)Z" } : Jvm.MethodName) ({ cls := "AgesTensModel", name := "isSet", desc := "(I)Z" } : Jvm.MethodName)) ∈ TB := tb_of 47 (by decide +kernel) rfl
theorem wd_48 : (Jvm.Cond.selects "AgesTensModel" ({ cls := "AgesTensModel", name := "layParts", desc := "(II)V" } : Jvm.MethodName) ({ cls := "AgesTensModel", name := "layParts", desc := "(II)V" } : Jvm.MethodName)) ∈ TB := tb_of 48 (by decide +kernel) rfl
theorem wd_49 : (Jvm.Cond.selects "AgesTensModel" ({ cls := "AgesTensModel", name := "takeParts", desc := "(I)V" } : Jvm.MethodName) ({ cls := "AgesTensModel", name := "takeParts", desc := "(I)V" } : Jvm.MethodName)) ∈ TB := tb_of 49 (by decide +kernel) rfl
theorem wd_50 : (Jvm.Cond.selects "AgesTensModel" ({ cls := "AgesTensModel", name := "areOther", desc := "()Z" } : Jvm.MethodName) ({ cls := "AgesTensModel", name := "areOther", desc := "()Z" } : Jvm.MethodName)) ∈ TB := tb_of 50 (by decide +kernel) rfl
theorem wd_51 : (Jvm.Cond.selects "AgesTensModel" ({ cls := "AgesTensModel", name := "leavesNobody", desc := "(II)Z" } : Jvm.MethodName) ({ cls := "AgesTensModel", name := "leavesNobody", desc := "(II)Z" } : Jvm.MethodName)) ∈ TB := tb_of 51 (by decide +kernel) rfl
theorem wd_52 : (Jvm.Cond.selects "AgesTensModel" ({ cls := "AgesTensModel", name := "layWays", desc := "()V" } : Jvm.MethodName) ({ cls := "AgesTensModel", name := "layWays", desc := "()V" } : Jvm.MethodName)) ∈ TB := tb_of 52 (by decide +kernel) rfl
theorem wd_53 : (Jvm.Cond.selects "AgesTensModel" ({ cls := "AgesTensModel", name := "fitsAll", desc := "(I)Z" } : Jvm.MethodName) ({ cls := "AgesTensModel", name := "fitsAll", desc := "(I)Z" } : Jvm.MethodName)) ∈ TB := tb_of 53 (by decide +kernel) rfl
theorem wd_54 : (Jvm.Cond.initialized "AgesTensLaw") ∈ TB := tb_of 54 (by decide +kernel) rfl
theorem wd_55 : (Jvm.Cond.initialized "AgesTens") ∈ TB := tb_of 55 (by decide +kernel) rfl
theorem wd_56 : (Jvm.Cond.initialized "AgesTens$State") ∈ TB := tb_of 56 (by decide +kernel) rfl
theorem wd_57 : (Jvm.Cond.initialized "AgesTens$Roll") ∈ TB := tb_of 57 (by decide +kernel) rfl
theorem wd_58 : (Jvm.Cond.initialized "AgesTens$Book") ∈ TB := tb_of 58 (by decide +kernel) rfl
theorem wd_59 : (Jvm.Cond.initialized "AgesTens$Passings") ∈ TB := tb_of 59 (by decide +kernel) rfl
theorem wd_60 : (Jvm.Cond.initialized "AgesTens$Reader") ∈ TB := tb_of 60 (by decide +kernel) rfl
theorem wd_61 : (Jvm.Cond.initialized "AgesTens$Judge") ∈ TB := tb_of 61 (by decide +kernel) rfl
theorem wd_62 : (Jvm.Cond.initialized "AgesTens$Parting") ∈ TB := tb_of 62 (by decide +kernel) rfl
theorem wd_63 : (Jvm.Cond.initialized "AgesTens$Sums") ∈ TB := tb_of 63 (by decide +kernel) rfl
theorem wd_64 : (Jvm.Cond.initialized "AgesTens$Fits") ∈ TB := tb_of 64 (by decide +kernel) rfl
theorem wd_65 : (Jvm.Cond.initialized "AgesTensModel") ∈ TB := tb_of 65 (by decide +kernel) rfl
theorem wd_66 : (Jvm.Cond.initialized "AgesTens$Calendar") ∈ TB := tb_of 66 (by decide +kernel) rfl
theorem wd_67 : (Jvm.Cond.initialized "java/lang/Integer") ∈ TB := tb_of 67 (by decide +kernel) rfl
theorem wd_68 : (Jvm.Cond.initialized "java/lang/String") ∈ TB := tb_of 68 (by decide +kernel) rfl
theorem wd_69 : (Jvm.Cond.initialized "java/lang/StringLatin1") ∈ TB := tb_of 69 (by decide +kernel) rfl
theorem wd_70 : (Jvm.Cond.initialized "jdk/internal/util/Preconditions") ∈ TB := tb_of 70 (by decide +kernel) rfl
theorem wd_71 : (Jvm.Cond.initialized "java/lang/StringUTF16") ∈ TB := tb_of 71 (by decide +kernel) rfl
theorem wd_72 : (Jvm.Cond.initialized "java/lang/System") ∈ TB := tb_of 72 (by decide +kernel) rfl
theorem wd_73 : (Jvm.Cond.initialized "java/lang/Math") ∈ TB := tb_of 73 (by decide +kernel) rfl
theorem wd_74 : (Jvm.Cond.classLink "AgesTensLaw" (7 : Nat) "AgesTens") ∈ TB := tb_of 74 (by decide +kernel) rfl
theorem wd_75 : (Jvm.Cond.instantiable "AgesTens" (14 : Nat)) ∈ TB := tb_of 75 (by decide +kernel) rfl
theorem wd_76 : (Jvm.Cond.methodLink "AgesTensLaw" (9 : Nat) ({ cls := "AgesTens", name := "<init>", desc := "()V" } : Jvm.MethodName)) ∈ TB := tb_of 76 (by decide +kernel) rfl
theorem wd_77 : (Jvm.Cond.instanceMethod ({ cls := "AgesTens", name := "<init>", desc := "()V" } : Jvm.MethodName)) ∈ TB := tb_of 77 (by decide +kernel) rfl
theorem wd_78 : (Jvm.Cond.code ({ cls := "AgesTens", name := "<init>", desc := "()V" } : Jvm.MethodName) prog_1_method_1_code (2 : Nat) (Option.none : Option Jvm.ClassFile.FieldType)) ∈ TB := tb_of 78 (by decide +kernel) rfl
theorem wd_79 : (Jvm.Cond.methodLink "AgesTens" (1 : Nat) ({ cls := "java/lang/Object", name := "<init>", desc := "()V" } : Jvm.MethodName)) ∈ TB := tb_of 79 (by decide +kernel) rfl
theorem wd_80 : (Jvm.Cond.instanceMethod ({ cls := "java/lang/Object", name := "<init>", desc := "()V" } : Jvm.MethodName)) ∈ TB := tb_of 80 (by decide +kernel) rfl
theorem wd_81 : (Jvm.Cond.code ({ cls := "java/lang/Object", name := "<init>", desc := "()V" } : Jvm.MethodName) object_method_1_code (1 : Nat) (Option.none : Option Jvm.ClassFile.FieldType)) ∈ TB := tb_of 81 (by decide +kernel) rfl
theorem wd_82 : (Jvm.Cond.classLink "AgesTens" (7 : Nat) "AgesTens$State") ∈ TB := tb_of 82 (by decide +kernel) rfl
theorem wd_83 : (Jvm.Cond.instantiable "AgesTens$State" (4 : Nat)) ∈ TB := tb_of 83 (by decide +kernel) rfl
theorem wd_85 : (Jvm.Cond.instanceMethod ({ cls := "AgesTens$State", name := "<init>", desc := "()V" } : Jvm.MethodName)) ∈ TB := tb_of 85 (by decide +kernel) rfl
theorem wd_86 : (Jvm.Cond.code ({ cls := "AgesTens$State", name := "<init>", desc := "()V" } : Jvm.MethodName) prog_10_method_1_code (1 : Nat) (Option.none : Option Jvm.ClassFile.FieldType)) ∈ TB := tb_of 86 (by decide +kernel) rfl
theorem wd_87 : (Jvm.Cond.methodLink "AgesTens$State" (1 : Nat) ({ cls := "java/lang/Object", name := "<init>", desc := "()V" } : Jvm.MethodName)) ∈ TB := tb_of 87 (by decide +kernel) rfl
theorem wd_88 : (Jvm.Cond.classLink "AgesTens$State" (7 : Nat) "AgesTens$Roll") ∈ TB := tb_of 88 (by decide +kernel) rfl
theorem wd_89 : (Jvm.Cond.instantiable "AgesTens$Roll" (9 : Nat)) ∈ TB := tb_of 89 (by decide +kernel) rfl
theorem wd_91 : (Jvm.Cond.instanceMethod ({ cls := "AgesTens$Roll", name := "<init>", desc := "()V" } : Jvm.MethodName)) ∈ TB := tb_of 91 (by decide +kernel) rfl
theorem wd_92 : (Jvm.Cond.code ({ cls := "AgesTens$Roll", name := "<init>", desc := "()V" } : Jvm.MethodName) prog_9_method_1_code (1 : Nat) (Option.none : Option Jvm.ClassFile.FieldType)) ∈ TB := tb_of 92 (by decide +kernel) rfl
theorem wd_93 : (Jvm.Cond.methodLink "AgesTens$Roll" (3 : Nat) ({ cls := "java/lang/Object", name := "<init>", desc := "()V" } : Jvm.MethodName)) ∈ TB := tb_of 93 (by decide +kernel) rfl
theorem wd_94 : (Jvm.Cond.fieldLink "AgesTens$Judge" (31 : Nat) "AgesTens$Roll" "people" "I") ∈ TB := tb_of 94 (by decide +kernel) rfl
theorem wd_95 : (Jvm.Cond.fieldLink "AgesTens$State" (54 : Nat) "AgesTens$Roll" "people" "I") ∈ TB := tb_of 95 (by decide +kernel) rfl
theorem wd_96 : (Jvm.Cond.fieldLink "AgesTens$Reader" (73 : Nat) "AgesTens$Roll" "people" "I") ∈ TB := tb_of 96 (by decide +kernel) rfl
theorem wd_97 : (Jvm.Cond.fieldLink "AgesTens$Roll" (33 : Nat) "AgesTens$Roll" "people" "I") ∈ TB := tb_of 97 (by decide +kernel) rfl
theorem wd_98 : (Jvm.Cond.fieldLink "AgesTens" (129 : Nat) "AgesTens$Roll" "people" "I") ∈ TB := tb_of 98 (by decide +kernel) rfl
theorem wd_99 : (Jvm.Cond.fieldLink "AgesTens$State" (58 : Nat) "AgesTens$Roll" "gates" "I") ∈ TB := tb_of 99 (by decide +kernel) rfl
theorem wd_100 : (Jvm.Cond.fieldLink "AgesTens$Reader" (97 : Nat) "AgesTens$Roll" "gates" "I") ∈ TB := tb_of 100 (by decide +kernel) rfl
theorem wd_101 : (Jvm.Cond.fieldLink "AgesTens$Roll" (37 : Nat) "AgesTens$Roll" "gates" "I") ∈ TB := tb_of 101 (by decide +kernel) rfl
theorem wd_102 : (Jvm.Cond.fieldLink "AgesTens" (141 : Nat) "AgesTens$Roll" "gates" "I") ∈ TB := tb_of 102 (by decide +kernel) rfl
theorem wd_103 : (Jvm.Cond.fieldLink "AgesTens$Roll" (11 : Nat) "AgesTens$Roll" "born" "[I") ∈ TB := tb_of 103 (by decide +kernel) rfl
theorem wd_104 : (Jvm.Cond.fieldLink "AgesTens$State" (67 : Nat) "AgesTens$Roll" "born" "[I") ∈ TB := tb_of 104 (by decide +kernel) rfl
theorem wd_105 : (Jvm.Cond.fieldLink "AgesTens$Roll" (15 : Nat) "AgesTens$Roll" "bornYear" "[I") ∈ TB := tb_of 105 (by decide +kernel) rfl
theorem wd_106 : (Jvm.Cond.fieldLink "AgesTens$Roll" (18 : Nat) "AgesTens$Roll" "bornPlace" "[I") ∈ TB := tb_of 106 (by decide +kernel) rfl
theorem wd_107 : (Jvm.Cond.fieldLink "AgesTens$Roll" (21 : Nat) "AgesTens$Roll" "with" "[I") ∈ TB := tb_of 107 (by decide +kernel) rfl
theorem wd_108 : (Jvm.Cond.fieldLink "AgesTens$Reader" (62 : Nat) "AgesTens$Roll" "with" "[I") ∈ TB := tb_of 108 (by decide +kernel) rfl
theorem wd_109 : (Jvm.Cond.fieldLink "AgesTens$State" (70 : Nat) "AgesTens$Roll" "with" "[I") ∈ TB := tb_of 109 (by decide +kernel) rfl
theorem wd_110 : (Jvm.Cond.fieldLink "AgesTens$Judge" (57 : Nat) "AgesTens$Roll" "with" "[I") ∈ TB := tb_of 110 (by decide +kernel) rfl
theorem wd_111 : (Jvm.Cond.fieldLink "AgesTens" (150 : Nat) "AgesTens$Roll" "with" "[I") ∈ TB := tb_of 111 (by decide +kernel) rfl
theorem wd_112 : (Jvm.Cond.fieldLink "AgesTens$Roll" (24 : Nat) "AgesTens$Roll" "apart" "[I") ∈ TB := tb_of 112 (by decide +kernel) rfl
theorem wd_113 : (Jvm.Cond.fieldLink "AgesTens$Reader" (71 : Nat) "AgesTens$Roll" "apart" "[I") ∈ TB := tb_of 113 (by decide +kernel) rfl
theorem wd_114 : (Jvm.Cond.fieldLink "AgesTens$State" (73 : Nat) "AgesTens$Roll" "apart" "[I") ∈ TB := tb_of 114 (by decide +kernel) rfl
theorem wd_115 : (Jvm.Cond.fieldLink "AgesTens$Judge" (60 : Nat) "AgesTens$Roll" "apart" "[I") ∈ TB := tb_of 115 (by decide +kernel) rfl
theorem wd_116 : (Jvm.Cond.fieldLink "AgesTens" (153 : Nat) "AgesTens$Roll" "apart" "[I") ∈ TB := tb_of 116 (by decide +kernel) rfl
theorem wd_117 : (Jvm.Cond.fieldLink "AgesTens$Roll" (27 : Nat) "AgesTens$Roll" "law" "[I") ∈ TB := tb_of 117 (by decide +kernel) rfl
theorem wd_118 : (Jvm.Cond.fieldLink "AgesTens$Judge" (42 : Nat) "AgesTens$Roll" "law" "[I") ∈ TB := tb_of 118 (by decide +kernel) rfl
theorem wd_119 : (Jvm.Cond.fieldLink "AgesTens$State" (76 : Nat) "AgesTens$Roll" "law" "[I") ∈ TB := tb_of 119 (by decide +kernel) rfl
theorem wd_120 : (Jvm.Cond.fieldLink "AgesTens$Roll" (30 : Nat) "AgesTens$Roll" "seats" "[I") ∈ TB := tb_of 120 (by decide +kernel) rfl
theorem wd_121 : (Jvm.Cond.fieldLink "AgesTens$State" (79 : Nat) "AgesTens$Roll" "seats" "[I") ∈ TB := tb_of 121 (by decide +kernel) rfl
theorem wd_122 : (Jvm.Cond.fieldLink "AgesTens$Judge" (54 : Nat) "AgesTens$Roll" "seats" "[I") ∈ TB := tb_of 122 (by decide +kernel) rfl
theorem wd_143 : (Jvm.Cond.classLink "AgesTens$State" (16 : Nat) "AgesTens$Book") ∈ TB := tb_of 143 (by decide +kernel) rfl
theorem wd_144 : (Jvm.Cond.instantiable "AgesTens$Book" (2 : Nat)) ∈ TB := tb_of 144 (by decide +kernel) rfl
theorem wd_146 : (Jvm.Cond.instanceMethod ({ cls := "AgesTens$Book", name := "<init>", desc := "()V" } : Jvm.MethodName)) ∈ TB := tb_of 146 (by decide +kernel) rfl
theorem wd_147 : (Jvm.Cond.code ({ cls := "AgesTens$Book", name := "<init>", desc := "()V" } : Jvm.MethodName) prog_2_method_1_code (1 : Nat) (Option.none : Option Jvm.ClassFile.FieldType)) ∈ TB := tb_of 147 (by decide +kernel) rfl
theorem wd_148 : (Jvm.Cond.methodLink "AgesTens$Book" (3 : Nat) ({ cls := "java/lang/Object", name := "<init>", desc := "()V" } : Jvm.MethodName)) ∈ TB := tb_of 148 (by decide +kernel) rfl
theorem wd_149 : (Jvm.Cond.fieldLink "AgesTens$Book" (15 : Nat) "AgesTens$Book" "length" "I") ∈ TB := tb_of 149 (by decide +kernel) rfl
theorem wd_150 : (Jvm.Cond.fieldLink "AgesTens$State" (61 : Nat) "AgesTens$Book" "length" "I") ∈ TB := tb_of 150 (by decide +kernel) rfl
theorem wd_151 : (Jvm.Cond.fieldLink "AgesTens" (180 : Nat) "AgesTens$Book" "length" "I") ∈ TB := tb_of 151 (by decide +kernel) rfl
theorem wd_152 : (Jvm.Cond.fieldLink "AgesTens$Reader" (120 : Nat) "AgesTens$Book" "length" "I") ∈ TB := tb_of 152 (by decide +kernel) rfl
theorem wd_153 : (Jvm.Cond.fieldLink "AgesTens$Book" (11 : Nat) "AgesTens$Book" "bytes" "[I") ∈ TB := tb_of 153 (by decide +kernel) rfl
theorem wd_159 : (Jvm.Cond.classLink "AgesTens$State" (29 : Nat) "AgesTens$Passings") ∈ TB := tb_of 159 (by decide +kernel) rfl
theorem wd_160 : (Jvm.Cond.instantiable "AgesTens$Passings" (6 : Nat)) ∈ TB := tb_of 160 (by decide +kernel) rfl
theorem wd_162 : (Jvm.Cond.instanceMethod ({ cls := "AgesTens$Passings", name := "<init>", desc := "()V" } : Jvm.MethodName)) ∈ TB := tb_of 162 (by decide +kernel) rfl
theorem wd_163 : (Jvm.Cond.code ({ cls := "AgesTens$Passings", name := "<init>", desc := "()V" } : Jvm.MethodName) prog_7_method_1_code (1 : Nat) (Option.none : Option Jvm.ClassFile.FieldType)) ∈ TB := tb_of 163 (by decide +kernel) rfl
theorem wd_164 : (Jvm.Cond.methodLink "AgesTens$Passings" (3 : Nat) ({ cls := "java/lang/Object", name := "<init>", desc := "()V" } : Jvm.MethodName)) ∈ TB := tb_of 164 (by decide +kernel) rfl
theorem wd_165 : (Jvm.Cond.fieldLink "AgesTens$Passings" (26 : Nat) "AgesTens$Passings" "many" "I") ∈ TB := tb_of 165 (by decide +kernel) rfl
theorem wd_166 : (Jvm.Cond.fieldLink "AgesTens$State" (64 : Nat) "AgesTens$Passings" "many" "I") ∈ TB := tb_of 166 (by decide +kernel) rfl
theorem wd_167 : (Jvm.Cond.fieldLink "AgesTens$Fits" (53 : Nat) "AgesTens$Passings" "many" "I") ∈ TB := tb_of 167 (by decide +kernel) rfl
theorem wd_168 : (Jvm.Cond.fieldLink "AgesTens" (245 : Nat) "AgesTens$Passings" "many" "I") ∈ TB := tb_of 168 (by decide +kernel) rfl
theorem wd_169 : (Jvm.Cond.fieldLink "AgesTens$State" (96 : Nat) "AgesTens$Passings" "liars" "I") ∈ TB := tb_of 169 (by decide +kernel) rfl
theorem wd_170 : (Jvm.Cond.fieldLink "AgesTens$Passings" (29 : Nat) "AgesTens$Passings" "liars" "I") ∈ TB := tb_of 170 (by decide +kernel) rfl
theorem wd_171 : (Jvm.Cond.fieldLink "AgesTens$Fits" (59 : Nat) "AgesTens$Passings" "liars" "I") ∈ TB := tb_of 171 (by decide +kernel) rfl
theorem wd_172 : (Jvm.Cond.fieldLink "AgesTens$Passings" (9 : Nat) "AgesTens$Passings" "counted" "I") ∈ TB := tb_of 172 (by decide +kernel) rfl
theorem wd_173 : (Jvm.Cond.fieldLink "AgesTens$Fits" (27 : Nat) "AgesTens$Passings" "counted" "I") ∈ TB := tb_of 173 (by decide +kernel) rfl
theorem wd_174 : (Jvm.Cond.fieldLink "AgesTens$Passings" (15 : Nat) "AgesTens$Passings" "sets" "[I") ∈ TB := tb_of 174 (by decide +kernel) rfl
theorem wd_175 : (Jvm.Cond.fieldLink "AgesTens$State" (86 : Nat) "AgesTens$Passings" "sets" "[I") ∈ TB := tb_of 175 (by decide +kernel) rfl
theorem wd_176 : (Jvm.Cond.fieldLink "AgesTens$Fits" (56 : Nat) "AgesTens$Passings" "sets" "[I") ∈ TB := tb_of 176 (by decide +kernel) rfl
theorem wd_177 : (Jvm.Cond.fieldLink "AgesTens$Passings" (19 : Nat) "AgesTens$Passings" "known" "[I") ∈ TB := tb_of 177 (by decide +kernel) rfl
theorem wd_178 : (Jvm.Cond.fieldLink "AgesTens$State" (89 : Nat) "AgesTens$Passings" "known" "[I") ∈ TB := tb_of 178 (by decide +kernel) rfl
theorem wd_179 : (Jvm.Cond.fieldLink "AgesTens$Fits" (73 : Nat) "AgesTens$Passings" "known" "[I") ∈ TB := tb_of 179 (by decide +kernel) rfl
theorem wd_180 : (Jvm.Cond.fieldLink "AgesTens$Passings" (22 : Nat) "AgesTens$Passings" "let" "[Z") ∈ TB := tb_of 180 (by decide +kernel) rfl
theorem wd_181 : (Jvm.Cond.fieldLink "AgesTens$State" (92 : Nat) "AgesTens$Passings" "let" "[Z") ∈ TB := tb_of 181 (by decide +kernel) rfl
theorem wd_182 : (Jvm.Cond.fieldLink "AgesTens$Fits" (69 : Nat) "AgesTens$Passings" "let" "[Z") ∈ TB := tb_of 182 (by decide +kernel) rfl
theorem wd_197 : (Jvm.Cond.fieldLink "AgesTens$State" (10 : Nat) "AgesTens$State" "roll" "LAgesTens$Roll;") ∈ TB := tb_of 197 (by decide +kernel) rfl
theorem wd_198 : (Jvm.Cond.fieldLink "AgesTens" (46 : Nat) "AgesTens$State" "roll" "LAgesTens$Roll;") ∈ TB := tb_of 198 (by decide +kernel) rfl
theorem wd_199 : (Jvm.Cond.fieldLink "AgesTens$State" (19 : Nat) "AgesTens$State" "book" "LAgesTens$Book;") ∈ TB := tb_of 199 (by decide +kernel) rfl
theorem wd_200 : (Jvm.Cond.fieldLink "AgesTens" (33 : Nat) "AgesTens$State" "book" "LAgesTens$Book;") ∈ TB := tb_of 200 (by decide +kernel) rfl
theorem wd_201 : (Jvm.Cond.fieldLink "AgesTens$State" (25 : Nat) "AgesTens$State" "crowds" "[I") ∈ TB := tb_of 201 (by decide +kernel) rfl
theorem wd_202 : (Jvm.Cond.fieldLink "AgesTens" (67 : Nat) "AgesTens$State" "crowds" "[I") ∈ TB := tb_of 202 (by decide +kernel) rfl
theorem wd_203 : (Jvm.Cond.fieldLink "AgesTens$State" (32 : Nat) "AgesTens$State" "passings" "LAgesTens$Passings;") ∈ TB := tb_of 203 (by decide +kernel) rfl
theorem wd_204 : (Jvm.Cond.fieldLink "AgesTens" (80 : Nat) "AgesTens$State" "passings" "LAgesTens$Passings;") ∈ TB := tb_of 204 (by decide +kernel) rfl
theorem wd_215 : (Jvm.Cond.classLink "AgesTens" (24 : Nat) "AgesTens$Roll") ∈ TB := tb_of 215 (by decide +kernel) rfl
theorem wd_217 : (Jvm.Cond.classLink "AgesTens" (31 : Nat) "AgesTens$Reader") ∈ TB := tb_of 217 (by decide +kernel) rfl
theorem wd_218 : (Jvm.Cond.instantiable "AgesTens$Reader" (6 : Nat)) ∈ TB := tb_of 218 (by decide +kernel) rfl
theorem wd_219 : (Jvm.Cond.methodLink "AgesTens" (37 : Nat) ({ cls := "AgesTens$Reader", name := "<init>", desc := "(LAgesTens$Book;LAgesTens$Roll;)V" } : Jvm.MethodName)) ∈ TB := tb_of 219 (by decide +kernel) rfl
theorem wd_220 : (Jvm.Cond.instanceMethod ({ cls := "AgesTens$Reader", name := "<init>", desc := "(LAgesTens$Book;LAgesTens$Roll;)V" } : Jvm.MethodName)) ∈ TB := tb_of 220 (by decide +kernel) rfl
theorem wd_221 : (Jvm.Cond.code ({ cls := "AgesTens$Reader", name := "<init>", desc := "(LAgesTens$Book;LAgesTens$Roll;)V" } : Jvm.MethodName) prog_8_method_1_code (3 : Nat) (Option.none : Option Jvm.ClassFile.FieldType)) ∈ TB := tb_of 221 (by decide +kernel) rfl
theorem wd_222 : (Jvm.Cond.methodLink "AgesTens$Reader" (3 : Nat) ({ cls := "java/lang/Object", name := "<init>", desc := "()V" } : Jvm.MethodName)) ∈ TB := tb_of 222 (by decide +kernel) rfl
theorem wd_223 : (Jvm.Cond.fieldLink "AgesTens$Reader" (9 : Nat) "AgesTens$Reader" "book" "LAgesTens$Book;") ∈ TB := tb_of 223 (by decide +kernel) rfl
theorem wd_224 : (Jvm.Cond.fieldLink "AgesTens$Reader" (15 : Nat) "AgesTens$Reader" "draft" "LAgesTens$Roll;") ∈ TB := tb_of 224 (by decide +kernel) rfl
theorem wd_225 : (Jvm.Cond.fieldLink "AgesTens$Reader" (43 : Nat) "AgesTens$Reader" "start" "I") ∈ TB := tb_of 225 (by decide +kernel) rfl
theorem wd_226 : (Jvm.Cond.fieldLink "AgesTens$Reader" (24 : Nat) "AgesTens$Reader" "end" "I") ∈ TB := tb_of 226 (by decide +kernel) rfl
theorem wd_227 : (Jvm.Cond.fieldLink "AgesTens$Reader" (33 : Nat) "AgesTens$Reader" "kind" "I") ∈ TB := tb_of 227 (by decide +kernel) rfl
theorem wd_228 : (Jvm.Cond.fieldLink "AgesTens$Reader" (82 : Nat) "AgesTens$Reader" "value" "I") ∈ TB := tb_of 228 (by decide +kernel) rfl
theorem wd_242 : (Jvm.Cond.classLink "AgesTens" (44 : Nat) "AgesTens$Judge") ∈ TB := tb_of 242 (by decide +kernel) rfl
theorem wd_243 : (Jvm.Cond.instantiable "AgesTens$Judge" (3 : Nat)) ∈ TB := tb_of 243 (by decide +kernel) rfl
theorem wd_244 : (Jvm.Cond.methodLink "AgesTens" (49 : Nat) ({ cls := "AgesTens$Judge", name := "<init>", desc := "(LAgesTens$Roll;)V" } : Jvm.MethodName)) ∈ TB := tb_of 244 (by decide +kernel) rfl
theorem wd_245 : (Jvm.Cond.instanceMethod ({ cls := "AgesTens$Judge", name := "<init>", desc := "(LAgesTens$Roll;)V" } : Jvm.MethodName)) ∈ TB := tb_of 245 (by decide +kernel) rfl
theorem wd_246 : (Jvm.Cond.code ({ cls := "AgesTens$Judge", name := "<init>", desc := "(LAgesTens$Roll;)V" } : Jvm.MethodName) prog_5_method_1_code (2 : Nat) (Option.none : Option Jvm.ClassFile.FieldType)) ∈ TB := tb_of 246 (by decide +kernel) rfl
theorem wd_247 : (Jvm.Cond.methodLink "AgesTens$Judge" (3 : Nat) ({ cls := "java/lang/Object", name := "<init>", desc := "()V" } : Jvm.MethodName)) ∈ TB := tb_of 247 (by decide +kernel) rfl
theorem wd_248 : (Jvm.Cond.fieldLink "AgesTens$Judge" (17 : Nat) "AgesTens$Judge" "roll" "LAgesTens$Roll;") ∈ TB := tb_of 248 (by decide +kernel) rfl
theorem wd_249 : (Jvm.Cond.fieldLink "AgesTens$Judge" (11 : Nat) "AgesTens$Judge" "ages" "[I") ∈ TB := tb_of 249 (by decide +kernel) rfl
theorem wd_250 : (Jvm.Cond.fieldLink "AgesTens$Judge" (27 : Nat) "AgesTens$Judge" "unborn" "I") ∈ TB := tb_of 250 (by decide +kernel) rfl
theorem wd_258 : (Jvm.Cond.classLink "AgesTens" (56 : Nat) "AgesTens$Parting") ∈ TB := tb_of 258 (by decide +kernel) rfl
theorem wd_259 : (Jvm.Cond.instantiable "AgesTens$Parting" (6 : Nat)) ∈ TB := tb_of 259 (by decide +kernel) rfl
theorem wd_260 : (Jvm.Cond.methodLink "AgesTens" (58 : Nat) ({ cls := "AgesTens$Parting", name := "<init>", desc := "(LAgesTens$Judge;)V" } : Jvm.MethodName)) ∈ TB := tb_of 260 (by decide +kernel) rfl
theorem wd_261 : (Jvm.Cond.instanceMethod ({ cls := "AgesTens$Parting", name := "<init>", desc := "(LAgesTens$Judge;)V" } : Jvm.MethodName)) ∈ TB := tb_of 261 (by decide +kernel) rfl
theorem wd_262 : (Jvm.Cond.code ({ cls := "AgesTens$Parting", name := "<init>", desc := "(LAgesTens$Judge;)V" } : Jvm.MethodName) prog_6_method_1_code (2 : Nat) (Option.none : Option Jvm.ClassFile.FieldType)) ∈ TB := tb_of 262 (by decide +kernel) rfl
theorem wd_263 : (Jvm.Cond.methodLink "AgesTens$Parting" (5 : Nat) ({ cls := "java/lang/Object", name := "<init>", desc := "()V" } : Jvm.MethodName)) ∈ TB := tb_of 263 (by decide +kernel) rfl
theorem wd_264 : (Jvm.Cond.fieldLink "AgesTens$Parting" (24 : Nat) "AgesTens$Parting" "judge" "LAgesTens$Judge;") ∈ TB := tb_of 264 (by decide +kernel) rfl
theorem wd_265 : (Jvm.Cond.fieldLink "AgesTens$Parting" (13 : Nat) "AgesTens$Parting" "may" "[Z") ∈ TB := tb_of 265 (by decide +kernel) rfl
theorem wd_266 : (Jvm.Cond.fieldLink "AgesTens$Parting" (17 : Nat) "AgesTens$Parting" "cost" "[I") ∈ TB := tb_of 266 (by decide +kernel) rfl
theorem wd_267 : (Jvm.Cond.fieldLink "AgesTens$Parting" (21 : Nat) "AgesTens$Parting" "companies" "[I") ∈ TB := tb_of 267 (by decide +kernel) rfl
theorem wd_268 : (Jvm.Cond.fieldLink "AgesTens" (217 : Nat) "AgesTens$Parting" "companies" "[I") ∈ TB := tb_of 268 (by decide +kernel) rfl
theorem wd_269 : (Jvm.Cond.fieldLink "AgesTens$Parting" (47 : Nat) "AgesTens$Parting" "many" "I") ∈ TB := tb_of 269 (by decide +kernel) rfl
theorem wd_270 : (Jvm.Cond.fieldLink "AgesTens" (214 : Nat) "AgesTens$Parting" "many" "I") ∈ TB := tb_of 270 (by decide +kernel) rfl
theorem wd_271 : (Jvm.Cond.fieldLink "AgesTens$Parting" (51 : Nat) "AgesTens$Parting" "left" "I") ∈ TB := tb_of 271 (by decide +kernel) rfl
theorem wd_272 : (Jvm.Cond.fieldLink "AgesTens" (211 : Nat) "AgesTens$Parting" "left" "I") ∈ TB := tb_of 272 (by decide +kernel) rfl
theorem wd_286 : (Jvm.Cond.classLink "AgesTens" (65 : Nat) "AgesTens$Sums") ∈ TB := tb_of 286 (by decide +kernel) rfl
theorem wd_287 : (Jvm.Cond.instantiable "AgesTens$Sums" (2 : Nat)) ∈ TB := tb_of 287 (by decide +kernel) rfl
theorem wd_288 : (Jvm.Cond.methodLink "AgesTens" (71 : Nat) ({ cls := "AgesTens$Sums", name := "<init>", desc := "([I)V" } : Jvm.MethodName)) ∈ TB := tb_of 288 (by decide +kernel) rfl
theorem wd_289 : (Jvm.Cond.instanceMethod ({ cls := "AgesTens$Sums", name := "<init>", desc := "([I)V" } : Jvm.MethodName)) ∈ TB := tb_of 289 (by decide +kernel) rfl
theorem wd_290 : (Jvm.Cond.code ({ cls := "AgesTens$Sums", name := "<init>", desc := "([I)V" } : Jvm.MethodName) prog_11_method_1_code (2 : Nat) (Option.none : Option Jvm.ClassFile.FieldType)) ∈ TB := tb_of 290 (by decide +kernel) rfl
theorem wd_291 : (Jvm.Cond.methodLink "AgesTens$Sums" (3 : Nat) ({ cls := "java/lang/Object", name := "<init>", desc := "()V" } : Jvm.MethodName)) ∈ TB := tb_of 291 (by decide +kernel) rfl
theorem wd_292 : (Jvm.Cond.fieldLink "AgesTens$Sums" (13 : Nat) "AgesTens$Sums" "crowds" "[I") ∈ TB := tb_of 292 (by decide +kernel) rfl
theorem wd_293 : (Jvm.Cond.fieldLink "AgesTens$Sums" (9 : Nat) "AgesTens$Sums" "sets" "[J") ∈ TB := tb_of 293 (by decide +kernel) rfl
theorem wd_300 : (Jvm.Cond.classLink "AgesTens" (78 : Nat) "AgesTens$Fits") ∈ TB := tb_of 300 (by decide +kernel) rfl
theorem wd_301 : (Jvm.Cond.instantiable "AgesTens$Fits" (6 : Nat)) ∈ TB := tb_of 301 (by decide +kernel) rfl
theorem wd_302 : (Jvm.Cond.methodLink "AgesTens" (84 : Nat) ({ cls := "AgesTens$Fits", name := "<init>", desc := "(LAgesTens$Passings;)V" } : Jvm.MethodName)) ∈ TB := tb_of 302 (by decide +kernel) rfl
theorem wd_303 : (Jvm.Cond.instanceMethod ({ cls := "AgesTens$Fits", name := "<init>", desc := "(LAgesTens$Passings;)V" } : Jvm.MethodName)) ∈ TB := tb_of 303 (by decide +kernel) rfl
theorem wd_304 : (Jvm.Cond.code ({ cls := "AgesTens$Fits", name := "<init>", desc := "(LAgesTens$Passings;)V" } : Jvm.MethodName) prog_4_method_1_code (2 : Nat) (Option.none : Option Jvm.ClassFile.FieldType)) ∈ TB := tb_of 304 (by decide +kernel) rfl
theorem wd_305 : (Jvm.Cond.methodLink "AgesTens$Fits" (3 : Nat) ({ cls := "java/lang/Object", name := "<init>", desc := "()V" } : Jvm.MethodName)) ∈ TB := tb_of 305 (by decide +kernel) rfl
theorem wd_306 : (Jvm.Cond.fieldLink "AgesTens$Fits" (23 : Nat) "AgesTens$Fits" "passings" "LAgesTens$Passings;") ∈ TB := tb_of 306 (by decide +kernel) rfl
theorem wd_307 : (Jvm.Cond.fieldLink "AgesTens$Fits" (11 : Nat) "AgesTens$Fits" "figures" "[I") ∈ TB := tb_of 307 (by decide +kernel) rfl
theorem wd_308 : (Jvm.Cond.fieldLink "AgesTens$Fits" (17 : Nat) "AgesTens$Fits" "undecided" "[I") ∈ TB := tb_of 308 (by decide +kernel) rfl
theorem wd_309 : (Jvm.Cond.fieldLink "AgesTens$Fits" (20 : Nat) "AgesTens$Fits" "wrongs" "[I") ∈ TB := tb_of 309 (by decide +kernel) rfl
theorem wd_310 : (Jvm.Cond.fieldLink "AgesTens$Fits" (47 : Nat) "AgesTens$Fits" "fixedOne" "I") ∈ TB := tb_of 310 (by decide +kernel) rfl
theorem wd_311 : (Jvm.Cond.fieldLink "AgesTens$Fits" (50 : Nat) "AgesTens$Fits" "fixedFigure" "I") ∈ TB := tb_of 311 (by decide +kernel) rfl
theorem wd_325 : (Jvm.Cond.fieldLink "AgesTens" (10 : Nat) "AgesTens" "now" "LAgesTens$State;") ∈ TB := tb_of 325 (by decide +kernel) rfl
theorem wd_326 : (Jvm.Cond.fieldLink "AgesTens" (16 : Nat) "AgesTens" "images" "[LAgesTens$State;") ∈ TB := tb_of 326 (by decide +kernel) rfl
theorem wd_327 : (Jvm.Cond.fieldLink "AgesTens" (20 : Nat) "AgesTens" "kept" "[Z") ∈ TB := tb_of 327 (by decide +kernel) rfl
theorem wd_328 : (Jvm.Cond.fieldLink "AgesTens" (27 : Nat) "AgesTens" "draft" "LAgesTens$Roll;") ∈ TB := tb_of 328 (by decide +kernel) rfl
theorem wd_329 : (Jvm.Cond.fieldLink "AgesTens" (40 : Nat) "AgesTens" "reader" "LAgesTens$Reader;") ∈ TB := tb_of 329 (by decide +kernel) rfl
theorem wd_330 : (Jvm.Cond.fieldLink "AgesTens" (52 : Nat) "AgesTens" "judge" "LAgesTens$Judge;") ∈ TB := tb_of 330 (by decide +kernel) rfl
theorem wd_331 : (Jvm.Cond.fieldLink "AgesTens" (61 : Nat) "AgesTens" "parting" "LAgesTens$Parting;") ∈ TB := tb_of 331 (by decide +kernel) rfl
theorem wd_332 : (Jvm.Cond.fieldLink "AgesTens" (74 : Nat) "AgesTens" "sums" "LAgesTens$Sums;") ∈ TB := tb_of 332 (by decide +kernel) rfl
theorem wd_333 : (Jvm.Cond.fieldLink "AgesTens" (87 : Nat) "AgesTens" "ways" "LAgesTens$Fits;") ∈ TB := tb_of 333 (by decide +kernel) rfl
theorem wd_334 : (Jvm.Cond.fieldLink "AgesTens" (91 : Nat) "AgesTens" "above" "I") ∈ TB := tb_of 334 (by decide +kernel) rfl
theorem wd_335 : (Jvm.Cond.fieldLink "AgesTens" (95 : Nat) "AgesTens" "below" "I") ∈ TB := tb_of 335 (by decide +kernel) rfl
theorem wd_336 : (Jvm.Cond.fieldLink "AgesTens" (270 : Nat) "AgesTens" "refusedBad" "I") ∈ TB := tb_of 336 (by decide +kernel) rfl
theorem wd_337 : (Jvm.Cond.fieldLink "AgesTens" (273 : Nat) "AgesTens" "refusedNo" "I") ∈ TB := tb_of 337 (by decide +kernel) rfl
theorem wd_338 : (Jvm.Cond.fieldLink "AgesTens" (276 : Nat) "AgesTens" "refusedFull" "I") ∈ TB := tb_of 338 (by decide +kernel) rfl
theorem wd_368 : (Jvm.Cond.methodLink "AgesTensLaw" (13 : Nat) ({ cls := "AgesTens", name := "day", desc := "(III)I" } : Jvm.MethodName)) ∈ TB := tb_of 368 (by decide +kernel) rfl
theorem wd_369 : (Jvm.Cond.instanceMethod ({ cls := "AgesTens", name := "day", desc := "(III)I" } : Jvm.MethodName)) ∈ TB := tb_of 369 (by decide +kernel) rfl
theorem wd_370 : (Jvm.Cond.selects "AgesTens" ({ cls := "AgesTens", name := "day", desc := "(III)I" } : Jvm.MethodName) ({ cls := "AgesTens", name := "day", desc := "(III)I" } : Jvm.MethodName)) ∈ TB := tb_of 370 (by decide +kernel) rfl
theorem wd_371 : (Jvm.Cond.code ({ cls := "AgesTens", name := "day", desc := "(III)I" } : Jvm.MethodName) prog_1_method_2_code (4 : Nat) (Option.some Jvm.ClassFile.FieldType.int)) ∈ TB := tb_of 371 (by decide +kernel) rfl
theorem wd_372 : (Jvm.Cond.methodLink "AgesTens" (98 : Nat) ({ cls := "AgesTens$Calendar", name := "has", desc := "(III)Z" } : Jvm.MethodName)) ∈ TB := tb_of 372 (by decide +kernel) rfl
theorem wd_373 : (Jvm.Cond.static ({ cls := "AgesTens$Calendar", name := "has", desc := "(III)Z" } : Jvm.MethodName)) ∈ TB := tb_of 373 (by decide +kernel) rfl
theorem wd_374 : (Jvm.Cond.code ({ cls := "AgesTens$Calendar", name := "has", desc := "(III)Z" } : Jvm.MethodName) prog_3_method_4_code (3 : Nat) (Option.some Jvm.ClassFile.FieldType.boolean)) ∈ TB := tb_of 374 (by decide +kernel) rfl
theorem wd_375 : (Jvm.Cond.methodLink "AgesTens$Calendar" (10 : Nat) ({ cls := "AgesTens$Calendar", name := "isYear", desc := "(I)Z" } : Jvm.MethodName)) ∈ TB := tb_of 375 (by decide +kernel) rfl
theorem wd_376 : (Jvm.Cond.static ({ cls := "AgesTens$Calendar", name := "isYear", desc := "(I)Z" } : Jvm.MethodName)) ∈ TB := tb_of 376 (by decide +kernel) rfl
theorem wd_377 : (Jvm.Cond.code ({ cls := "AgesTens$Calendar", name := "isYear", desc := "(I)Z" } : Jvm.MethodName) prog_3_method_3_code (1 : Nat) (Option.some Jvm.ClassFile.FieldType.boolean)) ∈ TB := tb_of 377 (by decide +kernel) rfl
theorem wd_378 : (Jvm.Cond.methodLink "AgesTens$Calendar" (14 : Nat) ({ cls := "AgesTens$Calendar", name := "daysOfMonth", desc := "(II)I" } : Jvm.MethodName)) ∈ TB := tb_of 378 (by decide +kernel) rfl
theorem wd_379 : (Jvm.Cond.static ({ cls := "AgesTens$Calendar", name := "daysOfMonth", desc := "(II)I" } : Jvm.MethodName)) ∈ TB := tb_of 379 (by decide +kernel) rfl
theorem wd_380 : (Jvm.Cond.code ({ cls := "AgesTens$Calendar", name := "daysOfMonth", desc := "(II)I" } : Jvm.MethodName) prog_3_method_6_code (3 : Nat) (Option.some Jvm.ClassFile.FieldType.int)) ∈ TB := tb_of 380 (by decide +kernel) rfl
theorem wd_381 : (Jvm.Cond.methodLink "AgesTens$Calendar" (18 : Nat) ({ cls := "AgesTens$Calendar", name := "placeOfMonth", desc := "(I)I" } : Jvm.MethodName)) ∈ TB := tb_of 381 (by decide +kernel) rfl
theorem wd_382 : (Jvm.Cond.static ({ cls := "AgesTens$Calendar", name := "placeOfMonth", desc := "(I)I" } : Jvm.MethodName)) ∈ TB := tb_of 382 (by decide +kernel) rfl
theorem wd_383 : (Jvm.Cond.code ({ cls := "AgesTens$Calendar", name := "placeOfMonth", desc := "(I)I" } : Jvm.MethodName) prog_3_method_7_code (1 : Nat) (Option.some Jvm.ClassFile.FieldType.int)) ∈ TB := tb_of 383 (by decide +kernel) rfl
theorem wd_384 : (Jvm.Cond.fieldLink "AgesTens$Calendar" (25 : Nat) "AgesTens$Calendar" "MONTH_PLACES" "[I") ∈ TB := tb_of 384 (by decide +kernel) rfl
theorem wd_386 : (Jvm.Cond.methodLink "AgesTens$Calendar" (22 : Nat) ({ cls := "AgesTens$Calendar", name := "isLeap", desc := "(I)Z" } : Jvm.MethodName)) ∈ TB := tb_of 386 (by decide +kernel) rfl
theorem wd_387 : (Jvm.Cond.static ({ cls := "AgesTens$Calendar", name := "isLeap", desc := "(I)Z" } : Jvm.MethodName)) ∈ TB := tb_of 387 (by decide +kernel) rfl
theorem wd_388 : (Jvm.Cond.code ({ cls := "AgesTens$Calendar", name := "isLeap", desc := "(I)Z" } : Jvm.MethodName) prog_3_method_5_code (1 : Nat) (Option.some Jvm.ClassFile.FieldType.boolean)) ∈ TB := tb_of 388 (by decide +kernel) rfl
theorem wd_389 : (Jvm.Cond.methodLink "AgesTens" (104 : Nat) ({ cls := "AgesTens$Calendar", name := "numberOf", desc := "(III)I" } : Jvm.MethodName)) ∈ TB := tb_of 389 (by decide +kernel) rfl
theorem wd_390 : (Jvm.Cond.static ({ cls := "AgesTens$Calendar", name := "numberOf", desc := "(III)I" } : Jvm.MethodName)) ∈ TB := tb_of 390 (by decide +kernel) rfl
theorem wd_391 : (Jvm.Cond.code ({ cls := "AgesTens$Calendar", name := "numberOf", desc := "(III)I" } : Jvm.MethodName) prog_3_method_9_code (3 : Nat) (Option.some Jvm.ClassFile.FieldType.int)) ∈ TB := tb_of 391 (by decide +kernel) rfl
theorem wd_392 : (Jvm.Cond.methodLink "AgesTens$Calendar" (29 : Nat) ({ cls := "AgesTens$Calendar", name := "dayInYear", desc := "(II)I" } : Jvm.MethodName)) ∈ TB := tb_of 392 (by decide +kernel) rfl
theorem wd_393 : (Jvm.Cond.static ({ cls := "AgesTens$Calendar", name := "dayInYear", desc := "(II)I" } : Jvm.MethodName)) ∈ TB := tb_of 393 (by decide +kernel) rfl
theorem wd_394 : (Jvm.Cond.code ({ cls := "AgesTens$Calendar", name := "dayInYear", desc := "(II)I" } : Jvm.MethodName) prog_3_method_10_code (3 : Nat) (Option.some Jvm.ClassFile.FieldType.int)) ∈ TB := tb_of 394 (by decide +kernel) rfl
theorem wd_395 : (Jvm.Cond.methodLink "AgesTens$Calendar" (32 : Nat) ({ cls := "AgesTens$Calendar", name := "firstDayOf", desc := "(I)I" } : Jvm.MethodName)) ∈ TB := tb_of 395 (by decide +kernel) rfl
theorem wd_396 : (Jvm.Cond.static ({ cls := "AgesTens$Calendar", name := "firstDayOf", desc := "(I)I" } : Jvm.MethodName)) ∈ TB := tb_of 396 (by decide +kernel) rfl
theorem wd_397 : (Jvm.Cond.code ({ cls := "AgesTens$Calendar", name := "firstDayOf", desc := "(I)I" } : Jvm.MethodName) prog_3_method_8_code (3 : Nat) (Option.some Jvm.ClassFile.FieldType.int)) ∈ TB := tb_of 397 (by decide +kernel) rfl
theorem wd_398 : (Jvm.Cond.methodLink "AgesTens" (108 : Nat) ({ cls := "AgesTens", name := "refuse", desc := "(I)I" } : Jvm.MethodName)) ∈ TB := tb_of 398 (by decide +kernel) rfl
theorem wd_400 : (Jvm.Cond.instanceMethod ({ cls := "AgesTens", name := "refuse", desc := "(I)I" } : Jvm.MethodName)) ∈ TB := tb_of 400 (by decide +kernel) rfl
theorem wd_401 : (Jvm.Cond.code ({ cls := "AgesTens", name := "refuse", desc := "(I)I" } : Jvm.MethodName) prog_1_method_35_code (2 : Nat) (Option.some Jvm.ClassFile.FieldType.int)) ∈ TB := tb_of 401 (by decide +kernel) rfl
theorem wd_402 : (Jvm.Cond.methodLink "AgesTens" (170 : Nat) ({ cls := "AgesTens", name := "refuseAs", desc := "(II)I" } : Jvm.MethodName)) ∈ TB := tb_of 402 (by decide +kernel) rfl
theorem wd_404 : (Jvm.Cond.instanceMethod ({ cls := "AgesTens", name := "refuseAs", desc := "(II)I" } : Jvm.MethodName)) ∈ TB := tb_of 404 (by decide +kernel) rfl
theorem wd_405 : (Jvm.Cond.code ({ cls := "AgesTens", name := "refuseAs", desc := "(II)I" } : Jvm.MethodName) prog_1_method_36_code (3 : Nat) (Option.some Jvm.ClassFile.FieldType.int)) ∈ TB := tb_of 405 (by decide +kernel) rfl
theorem wd_406 : (Jvm.Cond.methodLink "AgesTensLaw" (18 : Nat) ({ cls := "AgesTens", name := "date", desc := "(II)I" } : Jvm.MethodName)) ∈ TB := tb_of 406 (by decide +kernel) rfl
theorem wd_407 : (Jvm.Cond.instanceMethod ({ cls := "AgesTens", name := "date", desc := "(II)I" } : Jvm.MethodName)) ∈ TB := tb_of 407 (by decide +kernel) rfl
theorem wd_408 : (Jvm.Cond.selects "AgesTens" ({ cls := "AgesTens", name := "date", desc := "(II)I" } : Jvm.MethodName) ({ cls := "AgesTens", name := "date", desc := "(II)I" } : Jvm.MethodName)) ∈ TB := tb_of 408 (by decide +kernel) rfl
theorem wd_409 : (Jvm.Cond.code ({ cls := "AgesTens", name := "date", desc := "(II)I" } : Jvm.MethodName) prog_1_method_3_code (6 : Nat) (Option.some Jvm.ClassFile.FieldType.int)) ∈ TB := tb_of 409 (by decide +kernel) rfl
theorem wd_410 : (Jvm.Cond.methodLink "AgesTens" (112 : Nat) ({ cls := "AgesTens$Calendar", name := "isDay", desc := "(I)Z" } : Jvm.MethodName)) ∈ TB := tb_of 410 (by decide +kernel) rfl
theorem wd_411 : (Jvm.Cond.static ({ cls := "AgesTens$Calendar", name := "isDay", desc := "(I)Z" } : Jvm.MethodName)) ∈ TB := tb_of 411 (by decide +kernel) rfl
theorem wd_412 : (Jvm.Cond.code ({ cls := "AgesTens$Calendar", name := "isDay", desc := "(I)Z" } : Jvm.MethodName) prog_3_method_2_code (1 : Nat) (Option.some Jvm.ClassFile.FieldType.boolean)) ∈ TB := tb_of 412 (by decide +kernel) rfl
theorem wd_413 : (Jvm.Cond.constant "AgesTens$Calendar" (9 : Nat) (146096 : Int32)) ∈ TB := tb_of 413 (by decide +kernel) rfl
theorem wd_414 : (Jvm.Cond.methodLink "AgesTens" (116 : Nat) ({ cls := "AgesTens$Calendar", name := "yearOf", desc := "(I)I" } : Jvm.MethodName)) ∈ TB := tb_of 414 (by decide +kernel) rfl
theorem wd_415 : (Jvm.Cond.static ({ cls := "AgesTens$Calendar", name := "yearOf", desc := "(I)I" } : Jvm.MethodName)) ∈ TB := tb_of 415 (by decide +kernel) rfl
theorem wd_416 : (Jvm.Cond.code ({ cls := "AgesTens$Calendar", name := "yearOf", desc := "(I)I" } : Jvm.MethodName) prog_3_method_11_code (3 : Nat) (Option.some Jvm.ClassFile.FieldType.int)) ∈ TB := tb_of 416 (by decide +kernel) rfl
theorem wd_417 : (Jvm.Cond.methodLink "AgesTens" (119 : Nat) ({ cls := "AgesTens$Calendar", name := "placeOf", desc := "(II)I" } : Jvm.MethodName)) ∈ TB := tb_of 417 (by decide +kernel) rfl
theorem wd_418 : (Jvm.Cond.static ({ cls := "AgesTens$Calendar", name := "placeOf", desc := "(II)I" } : Jvm.MethodName)) ∈ TB := tb_of 418 (by decide +kernel) rfl
theorem wd_419 : (Jvm.Cond.code ({ cls := "AgesTens$Calendar", name := "placeOf", desc := "(II)I" } : Jvm.MethodName) prog_3_method_12_code (3 : Nat) (Option.some Jvm.ClassFile.FieldType.int)) ∈ TB := tb_of 419 (by decide +kernel) rfl
theorem wd_420 : (Jvm.Cond.methodLink "AgesTens" (123 : Nat) ({ cls := "AgesTens$Calendar", name := "monthOf", desc := "(I)I" } : Jvm.MethodName)) ∈ TB := tb_of 420 (by decide +kernel) rfl
theorem wd_421 : (Jvm.Cond.static ({ cls := "AgesTens$Calendar", name := "monthOf", desc := "(I)I" } : Jvm.MethodName)) ∈ TB := tb_of 421 (by decide +kernel) rfl
theorem wd_422 : (Jvm.Cond.code ({ cls := "AgesTens$Calendar", name := "monthOf", desc := "(I)I" } : Jvm.MethodName) prog_3_method_13_code (2 : Nat) (Option.some Jvm.ClassFile.FieldType.int)) ∈ TB := tb_of 422 (by decide +kernel) rfl
theorem wd_423 : (Jvm.Cond.methodLink "AgesTens" (126 : Nat) ({ cls := "AgesTens$Calendar", name := "placeOfMonth", desc := "(I)I" } : Jvm.MethodName)) ∈ TB := tb_of 423 (by decide +kernel) rfl
theorem wd_424 : (Jvm.Cond.methodLink "AgesTensLaw" (23 : Nat) ({ cls := "AgesTens", name := "person", desc := "(I)I" } : Jvm.MethodName)) ∈ TB := tb_of 424 (by decide +kernel) rfl
theorem wd_425 : (Jvm.Cond.instanceMethod ({ cls := "AgesTens", name := "person", desc := "(I)I" } : Jvm.MethodName)) ∈ TB := tb_of 425 (by decide +kernel) rfl
theorem wd_426 : (Jvm.Cond.selects "AgesTens" ({ cls := "AgesTens", name := "person", desc := "(I)I" } : Jvm.MethodName) ({ cls := "AgesTens", name := "person", desc := "(I)I" } : Jvm.MethodName)) ∈ TB := tb_of 426 (by decide +kernel) rfl
theorem wd_427 : (Jvm.Cond.code ({ cls := "AgesTens", name := "person", desc := "(I)I" } : Jvm.MethodName) prog_1_method_4_code (2 : Nat) (Option.some Jvm.ClassFile.FieldType.int)) ∈ TB := tb_of 427 (by decide +kernel) rfl
theorem wd_428 : (Jvm.Cond.methodLink "AgesTens" (132 : Nat) ({ cls := "AgesTens$Roll", name := "addPerson", desc := "(I)I" } : Jvm.MethodName)) ∈ TB := tb_of 428 (by decide +kernel) rfl
theorem wd_429 : (Jvm.Cond.instanceMethod ({ cls := "AgesTens$Roll", name := "addPerson", desc := "(I)I" } : Jvm.MethodName)) ∈ TB := tb_of 429 (by decide +kernel) rfl
theorem wd_430 : (Jvm.Cond.selects "AgesTens$Roll" ({ cls := "AgesTens$Roll", name := "addPerson", desc := "(I)I" } : Jvm.MethodName) ({ cls := "AgesTens$Roll", name := "addPerson", desc := "(I)I" } : Jvm.MethodName)) ∈ TB := tb_of 430 (by decide +kernel) rfl
theorem wd_431 : (Jvm.Cond.code ({ cls := "AgesTens$Roll", name := "addPerson", desc := "(I)I" } : Jvm.MethodName) prog_9_method_10_code (2 : Nat) (Option.some Jvm.ClassFile.FieldType.int)) ∈ TB := tb_of 431 (by decide +kernel) rfl
theorem wd_432 : (Jvm.Cond.methodLink "AgesTens$Roll" (48 : Nat) ({ cls := "AgesTens$Calendar", name := "yearOf", desc := "(I)I" } : Jvm.MethodName)) ∈ TB := tb_of 432 (by decide +kernel) rfl
theorem wd_433 : (Jvm.Cond.methodLink "AgesTens$Roll" (54 : Nat) ({ cls := "AgesTens$Calendar", name := "placeOf", desc := "(II)I" } : Jvm.MethodName)) ∈ TB := tb_of 433 (by decide +kernel) rfl
theorem wd_434 : (Jvm.Cond.methodLink "AgesTensLaw" (28 : Nat) ({ cls := "AgesTens", name := "gate", desc := "(II)I" } : Jvm.MethodName)) ∈ TB := tb_of 434 (by decide +kernel) rfl
theorem wd_435 : (Jvm.Cond.instanceMethod ({ cls := "AgesTens", name := "gate", desc := "(II)I" } : Jvm.MethodName)) ∈ TB := tb_of 435 (by decide +kernel) rfl
theorem wd_436 : (Jvm.Cond.selects "AgesTens" ({ cls := "AgesTens", name := "gate", desc := "(II)I" } : Jvm.MethodName) ({ cls := "AgesTens", name := "gate", desc := "(II)I" } : Jvm.MethodName)) ∈ TB := tb_of 436 (by decide +kernel) rfl
theorem wd_437 : (Jvm.Cond.code ({ cls := "AgesTens", name := "gate", desc := "(II)I" } : Jvm.MethodName) prog_1_method_5_code (3 : Nat) (Option.some Jvm.ClassFile.FieldType.int)) ∈ TB := tb_of 437 (by decide +kernel) rfl
theorem wd_438 : (Jvm.Cond.methodLink "AgesTens" (135 : Nat) ({ cls := "AgesTens$Roll", name := "isLaw", desc := "(I)Z" } : Jvm.MethodName)) ∈ TB := tb_of 438 (by decide +kernel) rfl
theorem wd_439 : (Jvm.Cond.static ({ cls := "AgesTens$Roll", name := "isLaw", desc := "(I)Z" } : Jvm.MethodName)) ∈ TB := tb_of 439 (by decide +kernel) rfl
theorem wd_440 : (Jvm.Cond.code ({ cls := "AgesTens$Roll", name := "isLaw", desc := "(I)Z" } : Jvm.MethodName) prog_9_method_2_code (1 : Nat) (Option.some Jvm.ClassFile.FieldType.boolean)) ∈ TB := tb_of 440 (by decide +kernel) rfl
theorem wd_441 : (Jvm.Cond.methodLink "AgesTens" (138 : Nat) ({ cls := "AgesTens$Roll", name := "isSeats", desc := "(I)Z" } : Jvm.MethodName)) ∈ TB := tb_of 441 (by decide +kernel) rfl
theorem wd_442 : (Jvm.Cond.static ({ cls := "AgesTens$Roll", name := "isSeats", desc := "(I)Z" } : Jvm.MethodName)) ∈ TB := tb_of 442 (by decide +kernel) rfl
theorem wd_443 : (Jvm.Cond.code ({ cls := "AgesTens$Roll", name := "isSeats", desc := "(I)Z" } : Jvm.MethodName) prog_9_method_3_code (1 : Nat) (Option.some Jvm.ClassFile.FieldType.boolean)) ∈ TB := tb_of 443 (by decide +kernel) rfl
theorem wd_444 : (Jvm.Cond.methodLink "AgesTens" (144 : Nat) ({ cls := "AgesTens$Roll", name := "addGate", desc := "(II)I" } : Jvm.MethodName)) ∈ TB := tb_of 444 (by decide +kernel) rfl
theorem wd_445 : (Jvm.Cond.instanceMethod ({ cls := "AgesTens$Roll", name := "addGate", desc := "(II)I" } : Jvm.MethodName)) ∈ TB := tb_of 445 (by decide +kernel) rfl
theorem wd_446 : (Jvm.Cond.selects "AgesTens$Roll" ({ cls := "AgesTens$Roll", name := "addGate", desc := "(II)I" } : Jvm.MethodName) ({ cls := "AgesTens$Roll", name := "addGate", desc := "(II)I" } : Jvm.MethodName)) ∈ TB := tb_of 446 (by decide +kernel) rfl
theorem wd_447 : (Jvm.Cond.code ({ cls := "AgesTens$Roll", name := "addGate", desc := "(II)I" } : Jvm.MethodName) prog_9_method_11_code (3 : Nat) (Option.some Jvm.ClassFile.FieldType.int)) ∈ TB := tb_of 447 (by decide +kernel) rfl
theorem wd_448 : (Jvm.Cond.methodLink "AgesTensLaw" (32 : Nat) ({ cls := "AgesTens", name := "pair", desc := "(III)I" } : Jvm.MethodName)) ∈ TB := tb_of 448 (by decide +kernel) rfl
theorem wd_449 : (Jvm.Cond.instanceMethod ({ cls := "AgesTens", name := "pair", desc := "(III)I" } : Jvm.MethodName)) ∈ TB := tb_of 449 (by decide +kernel) rfl
theorem wd_450 : (Jvm.Cond.selects "AgesTens" ({ cls := "AgesTens", name := "pair", desc := "(III)I" } : Jvm.MethodName) ({ cls := "AgesTens", name := "pair", desc := "(III)I" } : Jvm.MethodName)) ∈ TB := tb_of 450 (by decide +kernel) rfl
theorem wd_451 : (Jvm.Cond.code ({ cls := "AgesTens", name := "pair", desc := "(III)I" } : Jvm.MethodName) prog_1_method_6_code (5 : Nat) (Option.some Jvm.ClassFile.FieldType.int)) ∈ TB := tb_of 451 (by decide +kernel) rfl
theorem wd_452 : (Jvm.Cond.methodLink "AgesTens" (147 : Nat) ({ cls := "AgesTens$Roll", name := "hasPerson", desc := "(I)Z" } : Jvm.MethodName)) ∈ TB := tb_of 452 (by decide +kernel) rfl
theorem wd_453 : (Jvm.Cond.instanceMethod ({ cls := "AgesTens$Roll", name := "hasPerson", desc := "(I)Z" } : Jvm.MethodName)) ∈ TB := tb_of 453 (by decide +kernel) rfl
theorem wd_454 : (Jvm.Cond.selects "AgesTens$Roll" ({ cls := "AgesTens$Roll", name := "hasPerson", desc := "(I)Z" } : Jvm.MethodName) ({ cls := "AgesTens$Roll", name := "hasPerson", desc := "(I)Z" } : Jvm.MethodName)) ∈ TB := tb_of 454 (by decide +kernel) rfl
theorem wd_455 : (Jvm.Cond.code ({ cls := "AgesTens$Roll", name := "hasPerson", desc := "(I)Z" } : Jvm.MethodName) prog_9_method_4_code (2 : Nat) (Option.some Jvm.ClassFile.FieldType.boolean)) ∈ TB := tb_of 455 (by decide +kernel) rfl
theorem wd_456 : (Jvm.Cond.methodLink "AgesTens" (156 : Nat) ({ cls := "AgesTens$Roll", name := "tie", desc := "([III)Z" } : Jvm.MethodName)) ∈ TB := tb_of 456 (by decide +kernel) rfl
theorem wd_457 : (Jvm.Cond.static ({ cls := "AgesTens$Roll", name := "tie", desc := "([III)Z" } : Jvm.MethodName)) ∈ TB := tb_of 457 (by decide +kernel) rfl
theorem wd_458 : (Jvm.Cond.code ({ cls := "AgesTens$Roll", name := "tie", desc := "([III)Z" } : Jvm.MethodName) prog_9_method_12_code (3 : Nat) (Option.some Jvm.ClassFile.FieldType.boolean)) ∈ TB := tb_of 458 (by decide +kernel) rfl
theorem wd_459 : (Jvm.Cond.methodLink "AgesTensLaw" (36 : Nat) ({ cls := "AgesTens", name := "age", desc := "(II)I" } : Jvm.MethodName)) ∈ TB := tb_of 459 (by decide +kernel) rfl
theorem wd_460 : (Jvm.Cond.instanceMethod ({ cls := "AgesTens", name := "age", desc := "(II)I" } : Jvm.MethodName)) ∈ TB := tb_of 460 (by decide +kernel) rfl
theorem wd_461 : (Jvm.Cond.selects "AgesTens" ({ cls := "AgesTens", name := "age", desc := "(II)I" } : Jvm.MethodName) ({ cls := "AgesTens", name := "age", desc := "(II)I" } : Jvm.MethodName)) ∈ TB := tb_of 461 (by decide +kernel) rfl
theorem wd_462 : (Jvm.Cond.code ({ cls := "AgesTens", name := "age", desc := "(II)I" } : Jvm.MethodName) prog_1_method_7_code (3 : Nat) (Option.some Jvm.ClassFile.FieldType.int)) ∈ TB := tb_of 462 (by decide +kernel) rfl
theorem wd_463 : (Jvm.Cond.methodLink "AgesTens" (160 : Nat) ({ cls := "AgesTens$Roll", name := "yearsOf", desc := "(III)I" } : Jvm.MethodName)) ∈ TB := tb_of 463 (by decide +kernel) rfl
theorem wd_464 : (Jvm.Cond.instanceMethod ({ cls := "AgesTens$Roll", name := "yearsOf", desc := "(III)I" } : Jvm.MethodName)) ∈ TB := tb_of 464 (by decide +kernel) rfl
theorem wd_465 : (Jvm.Cond.selects "AgesTens$Roll" ({ cls := "AgesTens$Roll", name := "yearsOf", desc := "(III)I" } : Jvm.MethodName) ({ cls := "AgesTens$Roll", name := "yearsOf", desc := "(III)I" } : Jvm.MethodName)) ∈ TB := tb_of 465 (by decide +kernel) rfl
theorem wd_466 : (Jvm.Cond.code ({ cls := "AgesTens$Roll", name := "yearsOf", desc := "(III)I" } : Jvm.MethodName) prog_9_method_13_code (5 : Nat) (Option.some Jvm.ClassFile.FieldType.int)) ∈ TB := tb_of 466 (by decide +kernel) rfl
theorem wd_467 : (Jvm.Cond.methodLink "AgesTens$Roll" (58 : Nat) ({ cls := "AgesTens$Calendar", name := "dayInYear", desc := "(II)I" } : Jvm.MethodName)) ∈ TB := tb_of 467 (by decide +kernel) rfl
theorem wd_468 : (Jvm.Cond.methodLink "AgesTensLaw" (40 : Nat) ({ cls := "AgesTens", name := "why", desc := "(III)I" } : Jvm.MethodName)) ∈ TB := tb_of 468 (by decide +kernel) rfl
theorem wd_469 : (Jvm.Cond.instanceMethod ({ cls := "AgesTens", name := "why", desc := "(III)I" } : Jvm.MethodName)) ∈ TB := tb_of 469 (by decide +kernel) rfl
theorem wd_470 : (Jvm.Cond.selects "AgesTens" ({ cls := "AgesTens", name := "why", desc := "(III)I" } : Jvm.MethodName) ({ cls := "AgesTens", name := "why", desc := "(III)I" } : Jvm.MethodName)) ∈ TB := tb_of 470 (by decide +kernel) rfl
theorem wd_471 : (Jvm.Cond.code ({ cls := "AgesTens", name := "why", desc := "(III)I" } : Jvm.MethodName) prog_1_method_8_code (4 : Nat) (Option.some Jvm.ClassFile.FieldType.int)) ∈ TB := tb_of 471 (by decide +kernel) rfl
theorem wd_472 : (Jvm.Cond.methodLink "AgesTens" (163 : Nat) ({ cls := "AgesTens$Roll", name := "hasCompany", desc := "(I)Z" } : Jvm.MethodName)) ∈ TB := tb_of 472 (by decide +kernel) rfl
theorem wd_473 : (Jvm.Cond.instanceMethod ({ cls := "AgesTens$Roll", name := "hasCompany", desc := "(I)Z" } : Jvm.MethodName)) ∈ TB := tb_of 473 (by decide +kernel) rfl
theorem wd_474 : (Jvm.Cond.selects "AgesTens$Roll" ({ cls := "AgesTens$Roll", name := "hasCompany", desc := "(I)Z" } : Jvm.MethodName) ({ cls := "AgesTens$Roll", name := "hasCompany", desc := "(I)Z" } : Jvm.MethodName)) ∈ TB := tb_of 474 (by decide +kernel) rfl
theorem wd_475 : (Jvm.Cond.code ({ cls := "AgesTens$Roll", name := "hasCompany", desc := "(I)Z" } : Jvm.MethodName) prog_9_method_8_code (2 : Nat) (Option.some Jvm.ClassFile.FieldType.boolean)) ∈ TB := tb_of 475 (by decide +kernel) rfl
theorem wd_476 : (Jvm.Cond.methodLink "AgesTens$Roll" (44 : Nat) ({ cls := "AgesTens$Roll", name := "hasSet", desc := "(I)Z" } : Jvm.MethodName)) ∈ TB := tb_of 476 (by decide +kernel) rfl
theorem wd_477 : (Jvm.Cond.instanceMethod ({ cls := "AgesTens$Roll", name := "hasSet", desc := "(I)Z" } : Jvm.MethodName)) ∈ TB := tb_of 477 (by decide +kernel) rfl
theorem wd_478 : (Jvm.Cond.selects "AgesTens$Roll" ({ cls := "AgesTens$Roll", name := "hasSet", desc := "(I)Z" } : Jvm.MethodName) ({ cls := "AgesTens$Roll", name := "hasSet", desc := "(I)Z" } : Jvm.MethodName)) ∈ TB := tb_of 478 (by decide +kernel) rfl
theorem wd_479 : (Jvm.Cond.code ({ cls := "AgesTens$Roll", name := "hasSet", desc := "(I)Z" } : Jvm.MethodName) prog_9_method_7_code (2 : Nat) (Option.some Jvm.ClassFile.FieldType.boolean)) ∈ TB := tb_of 479 (by decide +kernel) rfl
theorem wd_480 : (Jvm.Cond.methodLink "AgesTens$Roll" (40 : Nat) ({ cls := "AgesTens$Roll", name := "everyone", desc := "()I" } : Jvm.MethodName)) ∈ TB := tb_of 480 (by decide +kernel) rfl
theorem wd_481 : (Jvm.Cond.instanceMethod ({ cls := "AgesTens$Roll", name := "everyone", desc := "()I" } : Jvm.MethodName)) ∈ TB := tb_of 481 (by decide +kernel) rfl
theorem wd_482 : (Jvm.Cond.selects "AgesTens$Roll" ({ cls := "AgesTens$Roll", name := "everyone", desc := "()I" } : Jvm.MethodName) ({ cls := "AgesTens$Roll", name := "everyone", desc := "()I" } : Jvm.MethodName)) ∈ TB := tb_of 482 (by decide +kernel) rfl
