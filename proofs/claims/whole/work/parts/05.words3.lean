theorem wd_863 : (Jvm.Cond.code ({ cls := "AgesTens$Passings", name := "copyFrom", desc := "(LAgesTens$Passings;)V" } : Jvm.MethodName) prog_7_method_5_code (2 : Nat) (Option.none : Option Jvm.ClassFile.FieldType)) ∈ TB := tb_of 863 (by decide +kernel) rfl
theorem wd_864 : (Jvm.Cond.methodLink "AgesTens$Passings" (32 : Nat) ({ cls := "java/lang/System", name := "arraycopy", desc := "(Ljava/lang/Object;ILjava/lang/Object;II)V" } : Jvm.MethodName)) ∈ TB := tb_of 864 (by decide +kernel) rfl
theorem wd_865 : (Jvm.Cond.methodLink "AgesTensLaw" (135 : Nat) ({ cls := "AgesTens", name := "from", desc := "(I)I" } : Jvm.MethodName)) ∈ TB := tb_of 865 (by decide +kernel) rfl
theorem wd_866 : (Jvm.Cond.instanceMethod ({ cls := "AgesTens", name := "from", desc := "(I)I" } : Jvm.MethodName)) ∈ TB := tb_of 866 (by decide +kernel) rfl
theorem wd_867 : (Jvm.Cond.selects "AgesTens" ({ cls := "AgesTens", name := "from", desc := "(I)I" } : Jvm.MethodName) ({ cls := "AgesTens", name := "from", desc := "(I)I" } : Jvm.MethodName)) ∈ TB := tb_of 867 (by decide +kernel) rfl
theorem wd_868 : (Jvm.Cond.code ({ cls := "AgesTens", name := "from", desc := "(I)I" } : Jvm.MethodName) prog_1_method_30_code (2 : Nat) (Option.some Jvm.ClassFile.FieldType.int)) ∈ TB := tb_of 868 (by decide +kernel) rfl
theorem wd_869 : (Jvm.Cond.methodLink "AgesTensLaw" (139 : Nat) ({ cls := "AgesTens", name := "status", desc := "(I)I" } : Jvm.MethodName)) ∈ TB := tb_of 869 (by decide +kernel) rfl
theorem wd_870 : (Jvm.Cond.instanceMethod ({ cls := "AgesTens", name := "status", desc := "(I)I" } : Jvm.MethodName)) ∈ TB := tb_of 870 (by decide +kernel) rfl
theorem wd_871 : (Jvm.Cond.selects "AgesTens" ({ cls := "AgesTens", name := "status", desc := "(I)I" } : Jvm.MethodName) ({ cls := "AgesTens", name := "status", desc := "(I)I" } : Jvm.MethodName)) ∈ TB := tb_of 871 (by decide +kernel) rfl
theorem wd_872 : (Jvm.Cond.code ({ cls := "AgesTens", name := "status", desc := "(I)I" } : Jvm.MethodName) prog_1_method_31_code (2 : Nat) (Option.some Jvm.ClassFile.FieldType.int)) ∈ TB := tb_of 872 (by decide +kernel) rfl
theorem wd_873 : (Jvm.Cond.methodLink "AgesTensLaw" (143 : Nat) ({ cls := "AgesTens", name := "count", desc := "(I)I" } : Jvm.MethodName)) ∈ TB := tb_of 873 (by decide +kernel) rfl
theorem wd_874 : (Jvm.Cond.instanceMethod ({ cls := "AgesTens", name := "count", desc := "(I)I" } : Jvm.MethodName)) ∈ TB := tb_of 874 (by decide +kernel) rfl
theorem wd_875 : (Jvm.Cond.selects "AgesTens" ({ cls := "AgesTens", name := "count", desc := "(I)I" } : Jvm.MethodName) ({ cls := "AgesTens", name := "count", desc := "(I)I" } : Jvm.MethodName)) ∈ TB := tb_of 875 (by decide +kernel) rfl
theorem wd_876 : (Jvm.Cond.code ({ cls := "AgesTens", name := "count", desc := "(I)I" } : Jvm.MethodName) prog_1_method_32_code (2 : Nat) (Option.some Jvm.ClassFile.FieldType.int)) ∈ TB := tb_of 876 (by decide +kernel) rfl
theorem wd_877 : (Jvm.Cond.methodLink "AgesTensLaw" (147 : Nat) ({ cls := "AgesTens", name := "digest", desc := "()J" } : Jvm.MethodName)) ∈ TB := tb_of 877 (by decide +kernel) rfl
theorem wd_878 : (Jvm.Cond.instanceMethod ({ cls := "AgesTens", name := "digest", desc := "()J" } : Jvm.MethodName)) ∈ TB := tb_of 878 (by decide +kernel) rfl
theorem wd_879 : (Jvm.Cond.selects "AgesTens" ({ cls := "AgesTens", name := "digest", desc := "()J" } : Jvm.MethodName) ({ cls := "AgesTens", name := "digest", desc := "()J" } : Jvm.MethodName)) ∈ TB := tb_of 879 (by decide +kernel) rfl
theorem wd_880 : (Jvm.Cond.code ({ cls := "AgesTens", name := "digest", desc := "()J" } : Jvm.MethodName) prog_1_method_33_code (1 : Nat) (Option.some Jvm.ClassFile.FieldType.long)) ∈ TB := tb_of 880 (by decide +kernel) rfl
theorem wd_881 : (Jvm.Cond.constantLong "AgesTens" (279 : Nat) (31 : Int64)) ∈ TB := tb_of 881 (by decide +kernel) rfl
theorem wd_882 : (Jvm.Cond.constantLong "AgesTens" (281 : Nat) (641 : Int64)) ∈ TB := tb_of 882 (by decide +kernel) rfl
theorem wd_883 : (Jvm.Cond.methodLink "AgesTens" (283 : Nat) ({ cls := "AgesTens$State", name := "digestFrom", desc := "(J)J" } : Jvm.MethodName)) ∈ TB := tb_of 883 (by decide +kernel) rfl
theorem wd_884 : (Jvm.Cond.instanceMethod ({ cls := "AgesTens$State", name := "digestFrom", desc := "(J)J" } : Jvm.MethodName)) ∈ TB := tb_of 884 (by decide +kernel) rfl
theorem wd_885 : (Jvm.Cond.selects "AgesTens$State" ({ cls := "AgesTens$State", name := "digestFrom", desc := "(J)J" } : Jvm.MethodName) ({ cls := "AgesTens$State", name := "digestFrom", desc := "(J)J" } : Jvm.MethodName)) ∈ TB := tb_of 885 (by decide +kernel) rfl
theorem wd_886 : (Jvm.Cond.code ({ cls := "AgesTens$State", name := "digestFrom", desc := "(J)J" } : Jvm.MethodName) prog_10_method_3_code (6 : Nat) (Option.some Jvm.ClassFile.FieldType.long)) ∈ TB := tb_of 886 (by decide +kernel) rfl
theorem wd_887 : (Jvm.Cond.constantLong "AgesTens$State" (52 : Nat) (31 : Int64)) ∈ TB := tb_of 887 (by decide +kernel) rfl
theorem wd_888 : (Jvm.Cond.methodLink "AgesTens$State" (82 : Nat) ({ cls := "AgesTens$Book", name := "at", desc := "(I)I" } : Jvm.MethodName)) ∈ TB := tb_of 888 (by decide +kernel) rfl
theorem wd_889 : (Jvm.Cond.classLink "AgesTensLaw" (10 : Nat) "AgesTensModel") ∈ TB := tb_of 889 (by decide +kernel) rfl
theorem wd_890 : (Jvm.Cond.instantiable "AgesTensModel" (27 : Nat)) ∈ TB := tb_of 890 (by decide +kernel) rfl
theorem wd_891 : (Jvm.Cond.methodLink "AgesTensLaw" (12 : Nat) ({ cls := "AgesTensModel", name := "<init>", desc := "()V" } : Jvm.MethodName)) ∈ TB := tb_of 891 (by decide +kernel) rfl
theorem wd_892 : (Jvm.Cond.instanceMethod ({ cls := "AgesTensModel", name := "<init>", desc := "()V" } : Jvm.MethodName)) ∈ TB := tb_of 892 (by decide +kernel) rfl
theorem wd_893 : (Jvm.Cond.code ({ cls := "AgesTensModel", name := "<init>", desc := "()V" } : Jvm.MethodName) prog_13_method_1_code (1 : Nat) (Option.none : Option Jvm.ClassFile.FieldType)) ∈ TB := tb_of 893 (by decide +kernel) rfl
theorem wd_894 : (Jvm.Cond.methodLink "AgesTensModel" (1 : Nat) ({ cls := "java/lang/Object", name := "<init>", desc := "()V" } : Jvm.MethodName)) ∈ TB := tb_of 894 (by decide +kernel) rfl
theorem wd_895 : (Jvm.Cond.fieldLink "AgesTensModel" (7 : Nat) "AgesTensModel" "now" "[I") ∈ TB := tb_of 895 (by decide +kernel) rfl
theorem wd_896 : (Jvm.Cond.fieldLink "AgesTensModel" (13 : Nat) "AgesTensModel" "image0" "[I") ∈ TB := tb_of 896 (by decide +kernel) rfl
theorem wd_897 : (Jvm.Cond.fieldLink "AgesTensModel" (16 : Nat) "AgesTensModel" "image1" "[I") ∈ TB := tb_of 897 (by decide +kernel) rfl
theorem wd_898 : (Jvm.Cond.fieldLink "AgesTensModel" (277 : Nat) "AgesTensModel" "has0" "Z") ∈ TB := tb_of 898 (by decide +kernel) rfl
theorem wd_899 : (Jvm.Cond.fieldLink "AgesTensModel" (281 : Nat) "AgesTensModel" "has1" "Z") ∈ TB := tb_of 899 (by decide +kernel) rfl
theorem wd_900 : (Jvm.Cond.fieldLink "AgesTensModel" (274 : Nat) "AgesTensModel" "above" "J") ∈ TB := tb_of 900 (by decide +kernel) rfl
theorem wd_901 : (Jvm.Cond.fieldLink "AgesTensModel" (19 : Nat) "AgesTensModel" "below" "J") ∈ TB := tb_of 901 (by decide +kernel) rfl
theorem wd_902 : (Jvm.Cond.fieldLink "AgesTensModel" (23 : Nat) "AgesTensModel" "refused" "[I") ∈ TB := tb_of 902 (by decide +kernel) rfl
theorem wd_903 : (Jvm.Cond.fieldLink "AgesTensModel" (83 : Nat) "AgesTensModel" "year" "I") ∈ TB := tb_of 903 (by decide +kernel) rfl
theorem wd_904 : (Jvm.Cond.fieldLink "AgesTensModel" (87 : Nat) "AgesTensModel" "month" "I") ∈ TB := tb_of 904 (by decide +kernel) rfl
theorem wd_905 : (Jvm.Cond.fieldLink "AgesTensModel" (90 : Nat) "AgesTensModel" "dayIn" "I") ∈ TB := tb_of 905 (by decide +kernel) rfl
theorem wd_906 : (Jvm.Cond.fieldLink "AgesTensModel" (26 : Nat) "AgesTensModel" "birthYear" "[I") ∈ TB := tb_of 906 (by decide +kernel) rfl
theorem wd_907 : (Jvm.Cond.fieldLink "AgesTensModel" (29 : Nat) "AgesTensModel" "birthDay" "[I") ∈ TB := tb_of 907 (by decide +kernel) rfl
theorem wd_908 : (Jvm.Cond.fieldLink "AgesTensModel" (32 : Nat) "AgesTensModel" "ages" "[I") ∈ TB := tb_of 908 (by decide +kernel) rfl
theorem wd_909 : (Jvm.Cond.fieldLink "AgesTensModel" (162 : Nat) "AgesTensModel" "begins" "I") ∈ TB := tb_of 909 (by decide +kernel) rfl
theorem wd_910 : (Jvm.Cond.fieldLink "AgesTensModel" (159 : Nat) "AgesTensModel" "behind" "I") ∈ TB := tb_of 910 (by decide +kernel) rfl
theorem wd_911 : (Jvm.Cond.fieldLink "AgesTensModel" (171 : Nat) "AgesTensModel" "kind" "I") ∈ TB := tb_of 911 (by decide +kernel) rfl
theorem wd_912 : (Jvm.Cond.fieldLink "AgesTensModel" (168 : Nat) "AgesTensModel" "worth" "J") ∈ TB := tb_of 912 (by decide +kernel) rfl
theorem wd_913 : (Jvm.Cond.fieldLink "AgesTensModel" (35 : Nat) "AgesTensModel" "read" "[I") ∈ TB := tb_of 913 (by decide +kernel) rfl
theorem wd_914 : (Jvm.Cond.fieldLink "AgesTensModel" (38 : Nat) "AgesTensModel" "may" "[Z") ∈ TB := tb_of 914 (by decide +kernel) rfl
theorem wd_915 : (Jvm.Cond.fieldLink "AgesTensModel" (42 : Nat) "AgesTensModel" "best" "[I") ∈ TB := tb_of 915 (by decide +kernel) rfl
theorem wd_916 : (Jvm.Cond.fieldLink "AgesTensModel" (223 : Nat) "AgesTensModel" "leftSet" "I") ∈ TB := tb_of 916 (by decide +kernel) rfl
theorem wd_917 : (Jvm.Cond.fieldLink "AgesTensModel" (226 : Nat) "AgesTensModel" "partMany" "I") ∈ TB := tb_of 917 (by decide +kernel) rfl
theorem wd_918 : (Jvm.Cond.fieldLink "AgesTensModel" (45 : Nat) "AgesTensModel" "parts" "[I") ∈ TB := tb_of 918 (by decide +kernel) rfl
theorem wd_919 : (Jvm.Cond.fieldLink "AgesTensModel" (48 : Nat) "AgesTensModel" "agesAhead" "[I") ∈ TB := tb_of 919 (by decide +kernel) rfl
theorem wd_920 : (Jvm.Cond.fieldLink "AgesTensModel" (51 : Nat) "AgesTensModel" "ways" "[J") ∈ TB := tb_of 920 (by decide +kernel) rfl
theorem wd_921 : (Jvm.Cond.fieldLink "AgesTensModel" (55 : Nat) "AgesTensModel" "more" "[J") ∈ TB := tb_of 921 (by decide +kernel) rfl
theorem wd_977 : (Jvm.Cond.methodLink "AgesTensLaw" (17 : Nat) ({ cls := "AgesTensModel", name := "day", desc := "(III)I" } : Jvm.MethodName)) ∈ TB := tb_of 977 (by decide +kernel) rfl
theorem wd_978 : (Jvm.Cond.instanceMethod ({ cls := "AgesTensModel", name := "day", desc := "(III)I" } : Jvm.MethodName)) ∈ TB := tb_of 978 (by decide +kernel) rfl
theorem wd_979 : (Jvm.Cond.selects "AgesTensModel" ({ cls := "AgesTensModel", name := "day", desc := "(III)I" } : Jvm.MethodName) ({ cls := "AgesTensModel", name := "day", desc := "(III)I" } : Jvm.MethodName)) ∈ TB := tb_of 979 (by decide +kernel) rfl
theorem wd_980 : (Jvm.Cond.code ({ cls := "AgesTensModel", name := "day", desc := "(III)I" } : Jvm.MethodName) prog_13_method_15_code (4 : Nat) (Option.some Jvm.ClassFile.FieldType.int)) ∈ TB := tb_of 980 (by decide +kernel) rfl
theorem wd_981 : (Jvm.Cond.methodLink "AgesTensModel" (95 : Nat) ({ cls := "AgesTensModel", name := "isDate", desc := "(III)Z" } : Jvm.MethodName)) ∈ TB := tb_of 981 (by decide +kernel) rfl
theorem wd_982 : (Jvm.Cond.static ({ cls := "AgesTensModel", name := "isDate", desc := "(III)Z" } : Jvm.MethodName)) ∈ TB := tb_of 982 (by decide +kernel) rfl
theorem wd_983 : (Jvm.Cond.code ({ cls := "AgesTensModel", name := "isDate", desc := "(III)Z" } : Jvm.MethodName) prog_13_method_9_code (3 : Nat) (Option.some Jvm.ClassFile.FieldType.boolean)) ∈ TB := tb_of 983 (by decide +kernel) rfl
theorem wd_984 : (Jvm.Cond.constantLong "AgesTensModel" (62 : Nat) (1800 : Int64)) ∈ TB := tb_of 984 (by decide +kernel) rfl
theorem wd_985 : (Jvm.Cond.constantLong "AgesTensModel" (64 : Nat) (2199 : Int64)) ∈ TB := tb_of 985 (by decide +kernel) rfl
theorem wd_986 : (Jvm.Cond.methodLink "AgesTensModel" (66 : Nat) ({ cls := "AgesTensModel", name := "in", desc := "(JJJ)Z" } : Jvm.MethodName)) ∈ TB := tb_of 986 (by decide +kernel) rfl
theorem wd_987 : (Jvm.Cond.static ({ cls := "AgesTensModel", name := "in", desc := "(JJJ)Z" } : Jvm.MethodName)) ∈ TB := tb_of 987 (by decide +kernel) rfl
theorem wd_988 : (Jvm.Cond.code ({ cls := "AgesTensModel", name := "in", desc := "(JJJ)Z" } : Jvm.MethodName) prog_13_method_2_code (6 : Nat) (Option.some Jvm.ClassFile.FieldType.boolean)) ∈ TB := tb_of 988 (by decide +kernel) rfl
theorem wd_989 : (Jvm.Cond.constantLong "AgesTensModel" (70 : Nat) (12 : Int64)) ∈ TB := tb_of 989 (by decide +kernel) rfl
theorem wd_990 : (Jvm.Cond.methodLink "AgesTensModel" (72 : Nat) ({ cls := "AgesTensModel", name := "monthLong", desc := "(II)I" } : Jvm.MethodName)) ∈ TB := tb_of 990 (by decide +kernel) rfl
theorem wd_991 : (Jvm.Cond.static ({ cls := "AgesTensModel", name := "monthLong", desc := "(II)I" } : Jvm.MethodName)) ∈ TB := tb_of 991 (by decide +kernel) rfl
theorem wd_992 : (Jvm.Cond.code ({ cls := "AgesTensModel", name := "monthLong", desc := "(II)I" } : Jvm.MethodName) prog_13_method_8_code (2 : Nat) (Option.some Jvm.ClassFile.FieldType.int)) ∈ TB := tb_of 992 (by decide +kernel) rfl
theorem wd_993 : (Jvm.Cond.methodLink "AgesTensModel" (58 : Nat) ({ cls := "AgesTensModel", name := "isLeap", desc := "(I)Z" } : Jvm.MethodName)) ∈ TB := tb_of 993 (by decide +kernel) rfl
theorem wd_994 : (Jvm.Cond.static ({ cls := "AgesTensModel", name := "isLeap", desc := "(I)Z" } : Jvm.MethodName)) ∈ TB := tb_of 994 (by decide +kernel) rfl
theorem wd_995 : (Jvm.Cond.code ({ cls := "AgesTensModel", name := "isLeap", desc := "(I)Z" } : Jvm.MethodName) prog_13_method_7_code (1 : Nat) (Option.some Jvm.ClassFile.FieldType.boolean)) ∈ TB := tb_of 995 (by decide +kernel) rfl
theorem wd_996 : (Jvm.Cond.methodLink "AgesTensModel" (99 : Nat) ({ cls := "AgesTensModel", name := "numberOf", desc := "(III)I" } : Jvm.MethodName)) ∈ TB := tb_of 996 (by decide +kernel) rfl
theorem wd_997 : (Jvm.Cond.static ({ cls := "AgesTensModel", name := "numberOf", desc := "(III)I" } : Jvm.MethodName)) ∈ TB := tb_of 997 (by decide +kernel) rfl
theorem wd_998 : (Jvm.Cond.code ({ cls := "AgesTensModel", name := "numberOf", desc := "(III)I" } : Jvm.MethodName) prog_13_method_11_code (5 : Nat) (Option.some Jvm.ClassFile.FieldType.int)) ∈ TB := tb_of 998 (by decide +kernel) rfl
theorem wd_999 : (Jvm.Cond.methodLink "AgesTensModel" (76 : Nat) ({ cls := "AgesTensModel", name := "yearBegin", desc := "(I)I" } : Jvm.MethodName)) ∈ TB := tb_of 999 (by decide +kernel) rfl
theorem wd_1000 : (Jvm.Cond.static ({ cls := "AgesTensModel", name := "yearBegin", desc := "(I)I" } : Jvm.MethodName)) ∈ TB := tb_of 1000 (by decide +kernel) rfl
theorem wd_1001 : (Jvm.Cond.code ({ cls := "AgesTensModel", name := "yearBegin", desc := "(I)I" } : Jvm.MethodName) prog_13_method_10_code (3 : Nat) (Option.some Jvm.ClassFile.FieldType.int)) ∈ TB := tb_of 1001 (by decide +kernel) rfl
theorem wd_1002 : (Jvm.Cond.methodLink "AgesTensModel" (103 : Nat) ({ cls := "AgesTensModel", name := "bad", desc := "(I)I" } : Jvm.MethodName)) ∈ TB := tb_of 1002 (by decide +kernel) rfl
theorem wd_1004 : (Jvm.Cond.instanceMethod ({ cls := "AgesTensModel", name := "bad", desc := "(I)I" } : Jvm.MethodName)) ∈ TB := tb_of 1004 (by decide +kernel) rfl
theorem wd_1005 : (Jvm.Cond.code ({ cls := "AgesTensModel", name := "bad", desc := "(I)I" } : Jvm.MethodName) prog_13_method_4_code (2 : Nat) (Option.some Jvm.ClassFile.FieldType.int)) ∈ TB := tb_of 1005 (by decide +kernel) rfl
theorem wd_1006 : (Jvm.Cond.methodLink "AgesTensLaw" (22 : Nat) ({ cls := "AgesTensModel", name := "date", desc := "(II)I" } : Jvm.MethodName)) ∈ TB := tb_of 1006 (by decide +kernel) rfl
theorem wd_1007 : (Jvm.Cond.instanceMethod ({ cls := "AgesTensModel", name := "date", desc := "(II)I" } : Jvm.MethodName)) ∈ TB := tb_of 1007 (by decide +kernel) rfl
theorem wd_1008 : (Jvm.Cond.selects "AgesTensModel" ({ cls := "AgesTensModel", name := "date", desc := "(II)I" } : Jvm.MethodName) ({ cls := "AgesTensModel", name := "date", desc := "(II)I" } : Jvm.MethodName)) ∈ TB := tb_of 1008 (by decide +kernel) rfl
theorem wd_1009 : (Jvm.Cond.code ({ cls := "AgesTensModel", name := "date", desc := "(II)I" } : Jvm.MethodName) prog_13_method_16_code (3 : Nat) (Option.some Jvm.ClassFile.FieldType.int)) ∈ TB := tb_of 1009 (by decide +kernel) rfl
theorem wd_1010 : (Jvm.Cond.methodLink "AgesTensModel" (106 : Nat) ({ cls := "AgesTensModel", name := "isDay", desc := "(I)Z" } : Jvm.MethodName)) ∈ TB := tb_of 1010 (by decide +kernel) rfl
theorem wd_1011 : (Jvm.Cond.static ({ cls := "AgesTensModel", name := "isDay", desc := "(I)Z" } : Jvm.MethodName)) ∈ TB := tb_of 1011 (by decide +kernel) rfl
theorem wd_1012 : (Jvm.Cond.code ({ cls := "AgesTensModel", name := "isDay", desc := "(I)Z" } : Jvm.MethodName) prog_13_method_14_code (1 : Nat) (Option.some Jvm.ClassFile.FieldType.boolean)) ∈ TB := tb_of 1012 (by decide +kernel) rfl
theorem wd_1013 : (Jvm.Cond.constantLong "AgesTensModel" (93 : Nat) (146096 : Int64)) ∈ TB := tb_of 1013 (by decide +kernel) rfl
theorem wd_1014 : (Jvm.Cond.constantLong "AgesTensModel" (109 : Nat) (2 : Int64)) ∈ TB := tb_of 1014 (by decide +kernel) rfl
theorem wd_1015 : (Jvm.Cond.methodLink "AgesTensModel" (111 : Nat) ({ cls := "AgesTensModel", name := "takeApart", desc := "(I)V" } : Jvm.MethodName)) ∈ TB := tb_of 1015 (by decide +kernel) rfl
theorem wd_1017 : (Jvm.Cond.instanceMethod ({ cls := "AgesTensModel", name := "takeApart", desc := "(I)V" } : Jvm.MethodName)) ∈ TB := tb_of 1017 (by decide +kernel) rfl
theorem wd_1018 : (Jvm.Cond.code ({ cls := "AgesTensModel", name := "takeApart", desc := "(I)V" } : Jvm.MethodName) prog_13_method_13_code (3 : Nat) (Option.none : Option Jvm.ClassFile.FieldType)) ∈ TB := tb_of 1018 (by decide +kernel) rfl
theorem wd_1019 : (Jvm.Cond.methodLink "AgesTensModel" (80 : Nat) ({ cls := "AgesTensModel", name := "yearOf", desc := "(I)I" } : Jvm.MethodName)) ∈ TB := tb_of 1019 (by decide +kernel) rfl
theorem wd_1020 : (Jvm.Cond.static ({ cls := "AgesTensModel", name := "yearOf", desc := "(I)I" } : Jvm.MethodName)) ∈ TB := tb_of 1020 (by decide +kernel) rfl
theorem wd_1021 : (Jvm.Cond.code ({ cls := "AgesTensModel", name := "yearOf", desc := "(I)I" } : Jvm.MethodName) prog_13_method_12_code (2 : Nat) (Option.some Jvm.ClassFile.FieldType.int)) ∈ TB := tb_of 1021 (by decide +kernel) rfl
theorem wd_1022 : (Jvm.Cond.methodLink "AgesTensLaw" (27 : Nat) ({ cls := "AgesTensModel", name := "person", desc := "(I)I" } : Jvm.MethodName)) ∈ TB := tb_of 1022 (by decide +kernel) rfl
theorem wd_1023 : (Jvm.Cond.instanceMethod ({ cls := "AgesTensModel", name := "person", desc := "(I)I" } : Jvm.MethodName)) ∈ TB := tb_of 1023 (by decide +kernel) rfl
theorem wd_1024 : (Jvm.Cond.selects "AgesTensModel" ({ cls := "AgesTensModel", name := "person", desc := "(I)I" } : Jvm.MethodName) ({ cls := "AgesTensModel", name := "person", desc := "(I)I" } : Jvm.MethodName)) ∈ TB := tb_of 1024 (by decide +kernel) rfl
theorem wd_1025 : (Jvm.Cond.code ({ cls := "AgesTensModel", name := "person", desc := "(I)I" } : Jvm.MethodName) prog_13_method_19_code (2 : Nat) (Option.some Jvm.ClassFile.FieldType.int)) ∈ TB := tb_of 1025 (by decide +kernel) rfl
theorem wd_1026 : (Jvm.Cond.methodLink "AgesTensModel" (115 : Nat) ({ cls := "AgesTensModel", name := "full", desc := "()I" } : Jvm.MethodName)) ∈ TB := tb_of 1026 (by decide +kernel) rfl
theorem wd_1028 : (Jvm.Cond.instanceMethod ({ cls := "AgesTensModel", name := "full", desc := "()I" } : Jvm.MethodName)) ∈ TB := tb_of 1028 (by decide +kernel) rfl
theorem wd_1029 : (Jvm.Cond.code ({ cls := "AgesTensModel", name := "full", desc := "()I" } : Jvm.MethodName) prog_13_method_6_code (1 : Nat) (Option.some Jvm.ClassFile.FieldType.int)) ∈ TB := tb_of 1029 (by decide +kernel) rfl
theorem wd_1030 : (Jvm.Cond.methodLink "AgesTensLaw" (31 : Nat) ({ cls := "AgesTensModel", name := "gate", desc := "(II)I" } : Jvm.MethodName)) ∈ TB := tb_of 1030 (by decide +kernel) rfl
theorem wd_1031 : (Jvm.Cond.instanceMethod ({ cls := "AgesTensModel", name := "gate", desc := "(II)I" } : Jvm.MethodName)) ∈ TB := tb_of 1031 (by decide +kernel) rfl
theorem wd_1032 : (Jvm.Cond.selects "AgesTensModel" ({ cls := "AgesTensModel", name := "gate", desc := "(II)I" } : Jvm.MethodName) ({ cls := "AgesTensModel", name := "gate", desc := "(II)I" } : Jvm.MethodName)) ∈ TB := tb_of 1032 (by decide +kernel) rfl
theorem wd_1033 : (Jvm.Cond.code ({ cls := "AgesTensModel", name := "gate", desc := "(II)I" } : Jvm.MethodName) prog_13_method_20_code (3 : Nat) (Option.some Jvm.ClassFile.FieldType.int)) ∈ TB := tb_of 1033 (by decide +kernel) rfl
theorem wd_1034 : (Jvm.Cond.constantLong "AgesTensModel" (119 : Nat) (4 : Int64)) ∈ TB := tb_of 1034 (by decide +kernel) rfl
theorem wd_1035 : (Jvm.Cond.constantLong "AgesTensModel" (121 : Nat) (8 : Int64)) ∈ TB := tb_of 1035 (by decide +kernel) rfl
theorem wd_1036 : (Jvm.Cond.methodLink "AgesTensLaw" (35 : Nat) ({ cls := "AgesTensModel", name := "pair", desc := "(III)I" } : Jvm.MethodName)) ∈ TB := tb_of 1036 (by decide +kernel) rfl
theorem wd_1037 : (Jvm.Cond.instanceMethod ({ cls := "AgesTensModel", name := "pair", desc := "(III)I" } : Jvm.MethodName)) ∈ TB := tb_of 1037 (by decide +kernel) rfl
theorem wd_1038 : (Jvm.Cond.selects "AgesTensModel" ({ cls := "AgesTensModel", name := "pair", desc := "(III)I" } : Jvm.MethodName) ({ cls := "AgesTensModel", name := "pair", desc := "(III)I" } : Jvm.MethodName)) ∈ TB := tb_of 1038 (by decide +kernel) rfl
theorem wd_1039 : (Jvm.Cond.code ({ cls := "AgesTensModel", name := "pair", desc := "(III)I" } : Jvm.MethodName) prog_13_method_21_code (5 : Nat) (Option.some Jvm.ClassFile.FieldType.int)) ∈ TB := tb_of 1039 (by decide +kernel) rfl
theorem wd_1040 : (Jvm.Cond.methodLink "AgesTensModel" (123 : Nat) ({ cls := "AgesTensModel", name := "isPerson", desc := "(I)Z" } : Jvm.MethodName)) ∈ TB := tb_of 1040 (by decide +kernel) rfl
theorem wd_1042 : (Jvm.Cond.instanceMethod ({ cls := "AgesTensModel", name := "isPerson", desc := "(I)Z" } : Jvm.MethodName)) ∈ TB := tb_of 1042 (by decide +kernel) rfl
theorem wd_1043 : (Jvm.Cond.code ({ cls := "AgesTensModel", name := "isPerson", desc := "(I)Z" } : Jvm.MethodName) prog_13_method_17_code (2 : Nat) (Option.some Jvm.ClassFile.FieldType.boolean)) ∈ TB := tb_of 1043 (by decide +kernel) rfl
theorem wd_1044 : (Jvm.Cond.methodLink "AgesTensModel" (126 : Nat) ({ cls := "AgesTensModel", name := "has", desc := "(II)Z" } : Jvm.MethodName)) ∈ TB := tb_of 1044 (by decide +kernel) rfl
theorem wd_1045 : (Jvm.Cond.static ({ cls := "AgesTensModel", name := "has", desc := "(II)Z" } : Jvm.MethodName)) ∈ TB := tb_of 1045 (by decide +kernel) rfl
theorem wd_1046 : (Jvm.Cond.code ({ cls := "AgesTensModel", name := "has", desc := "(II)Z" } : Jvm.MethodName) prog_13_method_3_code (2 : Nat) (Option.some Jvm.ClassFile.FieldType.boolean)) ∈ TB := tb_of 1046 (by decide +kernel) rfl
theorem wd_1047 : (Jvm.Cond.methodLink "AgesTensModel" (130 : Nat) ({ cls := "AgesTensModel", name := "no", desc := "()I" } : Jvm.MethodName)) ∈ TB := tb_of 1047 (by decide +kernel) rfl
theorem wd_1049 : (Jvm.Cond.instanceMethod ({ cls := "AgesTensModel", name := "no", desc := "()I" } : Jvm.MethodName)) ∈ TB := tb_of 1049 (by decide +kernel) rfl
theorem wd_1050 : (Jvm.Cond.code ({ cls := "AgesTensModel", name := "no", desc := "()I" } : Jvm.MethodName) prog_13_method_5_code (1 : Nat) (Option.some Jvm.ClassFile.FieldType.int)) ∈ TB := tb_of 1050 (by decide +kernel) rfl
theorem wd_1051 : (Jvm.Cond.methodLink "AgesTensLaw" (39 : Nat) ({ cls := "AgesTensModel", name := "age", desc := "(II)I" } : Jvm.MethodName)) ∈ TB := tb_of 1051 (by decide +kernel) rfl
theorem wd_1052 : (Jvm.Cond.instanceMethod ({ cls := "AgesTensModel", name := "age", desc := "(II)I" } : Jvm.MethodName)) ∈ TB := tb_of 1052 (by decide +kernel) rfl
theorem wd_1053 : (Jvm.Cond.selects "AgesTensModel" ({ cls := "AgesTensModel", name := "age", desc := "(II)I" } : Jvm.MethodName) ({ cls := "AgesTensModel", name := "age", desc := "(II)I" } : Jvm.MethodName)) ∈ TB := tb_of 1053 (by decide +kernel) rfl
theorem wd_1054 : (Jvm.Cond.code ({ cls := "AgesTensModel", name := "age", desc := "(II)I" } : Jvm.MethodName) prog_13_method_25_code (3 : Nat) (Option.some Jvm.ClassFile.FieldType.int)) ∈ TB := tb_of 1054 (by decide +kernel) rfl
theorem wd_1055 : (Jvm.Cond.methodLink "AgesTensModel" (139 : Nat) ({ cls := "AgesTensModel", name := "look", desc := "(I)V" } : Jvm.MethodName)) ∈ TB := tb_of 1055 (by decide +kernel) rfl
theorem wd_1057 : (Jvm.Cond.instanceMethod ({ cls := "AgesTensModel", name := "look", desc := "(I)V" } : Jvm.MethodName)) ∈ TB := tb_of 1057 (by decide +kernel) rfl
theorem wd_1058 : (Jvm.Cond.code ({ cls := "AgesTensModel", name := "look", desc := "(I)V" } : Jvm.MethodName) prog_13_method_24_code (2 : Nat) (Option.none : Option Jvm.ClassFile.FieldType)) ∈ TB := tb_of 1058 (by decide +kernel) rfl
theorem wd_1059 : (Jvm.Cond.methodLink "AgesTensModel" (133 : Nat) ({ cls := "AgesTensModel", name := "layBirths", desc := "()V" } : Jvm.MethodName)) ∈ TB := tb_of 1059 (by decide +kernel) rfl
theorem wd_1061 : (Jvm.Cond.instanceMethod ({ cls := "AgesTensModel", name := "layBirths", desc := "()V" } : Jvm.MethodName)) ∈ TB := tb_of 1061 (by decide +kernel) rfl
theorem wd_1062 : (Jvm.Cond.code ({ cls := "AgesTensModel", name := "layBirths", desc := "()V" } : Jvm.MethodName) prog_13_method_22_code (2 : Nat) (Option.none : Option Jvm.ClassFile.FieldType)) ∈ TB := tb_of 1062 (by decide +kernel) rfl
theorem wd_1063 : (Jvm.Cond.methodLink "AgesTensModel" (136 : Nat) ({ cls := "AgesTensModel", name := "layAges", desc := "(I)V" } : Jvm.MethodName)) ∈ TB := tb_of 1063 (by decide +kernel) rfl
theorem wd_1065 : (Jvm.Cond.instanceMethod ({ cls := "AgesTensModel", name := "layAges", desc := "(I)V" } : Jvm.MethodName)) ∈ TB := tb_of 1065 (by decide +kernel) rfl
theorem wd_1066 : (Jvm.Cond.code ({ cls := "AgesTensModel", name := "layAges", desc := "(I)V" } : Jvm.MethodName) prog_13_method_23_code (4 : Nat) (Option.none : Option Jvm.ClassFile.FieldType)) ∈ TB := tb_of 1066 (by decide +kernel) rfl
theorem wd_1067 : (Jvm.Cond.methodLink "AgesTensLaw" (43 : Nat) ({ cls := "AgesTensModel", name := "why", desc := "(III)I" } : Jvm.MethodName)) ∈ TB := tb_of 1067 (by decide +kernel) rfl
theorem wd_1068 : (Jvm.Cond.instanceMethod ({ cls := "AgesTensModel", name := "why", desc := "(III)I" } : Jvm.MethodName)) ∈ TB := tb_of 1068 (by decide +kernel) rfl
theorem wd_1069 : (Jvm.Cond.selects "AgesTensModel" ({ cls := "AgesTensModel", name := "why", desc := "(III)I" } : Jvm.MethodName) ({ cls := "AgesTensModel", name := "why", desc := "(III)I" } : Jvm.MethodName)) ∈ TB := tb_of 1069 (by decide +kernel) rfl
theorem wd_1070 : (Jvm.Cond.code ({ cls := "AgesTensModel", name := "why", desc := "(III)I" } : Jvm.MethodName) prog_13_method_30_code (4 : Nat) (Option.some Jvm.ClassFile.FieldType.int)) ∈ TB := tb_of 1070 (by decide +kernel) rfl
theorem wd_1071 : (Jvm.Cond.methodLink "AgesTensModel" (148 : Nat) ({ cls := "AgesTensModel", name := "isCompany", desc := "(I)Z" } : Jvm.MethodName)) ∈ TB := tb_of 1071 (by decide +kernel) rfl
theorem wd_1073 : (Jvm.Cond.instanceMethod ({ cls := "AgesTensModel", name := "isCompany", desc := "(I)Z" } : Jvm.MethodName)) ∈ TB := tb_of 1073 (by decide +kernel) rfl
theorem wd_1074 : (Jvm.Cond.code ({ cls := "AgesTensModel", name := "isCompany", desc := "(I)Z" } : Jvm.MethodName) prog_13_method_29_code (2 : Nat) (Option.some Jvm.ClassFile.FieldType.boolean)) ∈ TB := tb_of 1074 (by decide +kernel) rfl
theorem wd_1075 : (Jvm.Cond.methodLink "AgesTensModel" (151 : Nat) ({ cls := "AgesTensModel", name := "isGate", desc := "(I)Z" } : Jvm.MethodName)) ∈ TB := tb_of 1075 (by decide +kernel) rfl
theorem wd_1077 : (Jvm.Cond.instanceMethod ({ cls := "AgesTensModel", name := "isGate", desc := "(I)Z" } : Jvm.MethodName)) ∈ TB := tb_of 1077 (by decide +kernel) rfl
theorem wd_1078 : (Jvm.Cond.code ({ cls := "AgesTensModel", name := "isGate", desc := "(I)Z" } : Jvm.MethodName) prog_13_method_18_code (2 : Nat) (Option.some Jvm.ClassFile.FieldType.boolean)) ∈ TB := tb_of 1078 (by decide +kernel) rfl
theorem wd_1079 : (Jvm.Cond.methodLink "AgesTensModel" (154 : Nat) ({ cls := "AgesTensModel", name := "whyNot", desc := "(II)I" } : Jvm.MethodName)) ∈ TB := tb_of 1079 (by decide +kernel) rfl
theorem wd_1081 : (Jvm.Cond.instanceMethod ({ cls := "AgesTensModel", name := "whyNot", desc := "(II)I" } : Jvm.MethodName)) ∈ TB := tb_of 1081 (by decide +kernel) rfl
theorem wd_1082 : (Jvm.Cond.code ({ cls := "AgesTensModel", name := "whyNot", desc := "(II)I" } : Jvm.MethodName) prog_13_method_28_code (7 : Nat) (Option.some Jvm.ClassFile.FieldType.int)) ∈ TB := tb_of 1082 (by decide +kernel) rfl
theorem wd_1083 : (Jvm.Cond.methodLink "AgesTensModel" (142 : Nat) ({ cls := "AgesTensModel", name := "bits", desc := "(I)I" } : Jvm.MethodName)) ∈ TB := tb_of 1083 (by decide +kernel) rfl
theorem wd_1084 : (Jvm.Cond.static ({ cls := "AgesTensModel", name := "bits", desc := "(I)I" } : Jvm.MethodName)) ∈ TB := tb_of 1084 (by decide +kernel) rfl
theorem wd_1085 : (Jvm.Cond.code ({ cls := "AgesTensModel", name := "bits", desc := "(I)I" } : Jvm.MethodName) prog_13_method_26_code (3 : Nat) (Option.some Jvm.ClassFile.FieldType.int)) ∈ TB := tb_of 1085 (by decide +kernel) rfl
theorem wd_1086 : (Jvm.Cond.methodLink "AgesTensModel" (145 : Nat) ({ cls := "AgesTensModel", name := "isByLaw", desc := "(II)Z" } : Jvm.MethodName)) ∈ TB := tb_of 1086 (by decide +kernel) rfl
theorem wd_1088 : (Jvm.Cond.instanceMethod ({ cls := "AgesTensModel", name := "isByLaw", desc := "(II)Z" } : Jvm.MethodName)) ∈ TB := tb_of 1088 (by decide +kernel) rfl
theorem wd_1089 : (Jvm.Cond.code ({ cls := "AgesTensModel", name := "isByLaw", desc := "(II)Z" } : Jvm.MethodName) prog_13_method_27_code (7 : Nat) (Option.some Jvm.ClassFile.FieldType.boolean)) ∈ TB := tb_of 1089 (by decide +kernel) rfl
theorem wd_1090 : (Jvm.Cond.methodLink "AgesTensLaw" (50 : Nat) ({ cls := "AgesTensModel", name := "type", desc := "(JI)I" } : Jvm.MethodName)) ∈ TB := tb_of 1090 (by decide +kernel) rfl
theorem wd_1091 : (Jvm.Cond.instanceMethod ({ cls := "AgesTensModel", name := "type", desc := "(JI)I" } : Jvm.MethodName)) ∈ TB := tb_of 1091 (by decide +kernel) rfl
theorem wd_1092 : (Jvm.Cond.selects "AgesTensModel" ({ cls := "AgesTensModel", name := "type", desc := "(JI)I" } : Jvm.MethodName) ({ cls := "AgesTensModel", name := "type", desc := "(JI)I" } : Jvm.MethodName)) ∈ TB := tb_of 1092 (by decide +kernel) rfl
theorem wd_1093 : (Jvm.Cond.code ({ cls := "AgesTensModel", name := "type", desc := "(JI)I" } : Jvm.MethodName) prog_13_method_31_code (5 : Nat) (Option.some Jvm.ClassFile.FieldType.int)) ∈ TB := tb_of 1093 (by decide +kernel) rfl
theorem wd_1094 : (Jvm.Cond.constantLong "AgesTensModel" (157 : Nat) (255 : Int64)) ∈ TB := tb_of 1094 (by decide +kernel) rfl
theorem wd_1095 : (Jvm.Cond.methodLink "AgesTensLaw" (55 : Nat) ({ cls := "AgesTensModel", name := "clear", desc := "()I" } : Jvm.MethodName)) ∈ TB := tb_of 1095 (by decide +kernel) rfl
theorem wd_1096 : (Jvm.Cond.instanceMethod ({ cls := "AgesTensModel", name := "clear", desc := "()I" } : Jvm.MethodName)) ∈ TB := tb_of 1096 (by decide +kernel) rfl
theorem wd_1097 : (Jvm.Cond.selects "AgesTensModel" ({ cls := "AgesTensModel", name := "clear", desc := "()I" } : Jvm.MethodName) ({ cls := "AgesTensModel", name := "clear", desc := "()I" } : Jvm.MethodName)) ∈ TB := tb_of 1097 (by decide +kernel) rfl
theorem wd_1098 : (Jvm.Cond.code ({ cls := "AgesTensModel", name := "clear", desc := "()I" } : Jvm.MethodName) prog_13_method_32_code (2 : Nat) (Option.some Jvm.ClassFile.FieldType.int)) ∈ TB := tb_of 1098 (by decide +kernel) rfl
theorem wd_1099 : (Jvm.Cond.methodLink "AgesTensLaw" (59 : Nat) ({ cls := "AgesTensModel", name := "read", desc := "()I" } : Jvm.MethodName)) ∈ TB := tb_of 1099 (by decide +kernel) rfl
theorem wd_1100 : (Jvm.Cond.instanceMethod ({ cls := "AgesTensModel", name := "read", desc := "()I" } : Jvm.MethodName)) ∈ TB := tb_of 1100 (by decide +kernel) rfl
theorem wd_1101 : (Jvm.Cond.selects "AgesTensModel" ({ cls := "AgesTensModel", name := "read", desc := "()I" } : Jvm.MethodName) ({ cls := "AgesTensModel", name := "read", desc := "()I" } : Jvm.MethodName)) ∈ TB := tb_of 1101 (by decide +kernel) rfl
theorem wd_1102 : (Jvm.Cond.code ({ cls := "AgesTensModel", name := "read", desc := "()I" } : Jvm.MethodName) prog_13_method_40_code (3 : Nat) (Option.some Jvm.ClassFile.FieldType.int)) ∈ TB := tb_of 1102 (by decide +kernel) rfl
theorem wd_1103 : (Jvm.Cond.methodLink "AgesTensModel" (190 : Nat) ({ cls := "AgesTensModel", name := "nextToken", desc := "()V" } : Jvm.MethodName)) ∈ TB := tb_of 1103 (by decide +kernel) rfl
theorem wd_1105 : (Jvm.Cond.instanceMethod ({ cls := "AgesTensModel", name := "nextToken", desc := "()V" } : Jvm.MethodName)) ∈ TB := tb_of 1105 (by decide +kernel) rfl
theorem wd_1106 : (Jvm.Cond.code ({ cls := "AgesTensModel", name := "nextToken", desc := "()V" } : Jvm.MethodName) prog_13_method_34_code (1 : Nat) (Option.none : Option Jvm.ClassFile.FieldType)) ∈ TB := tb_of 1106 (by decide +kernel) rfl
theorem wd_1107 : (Jvm.Cond.methodLink "AgesTensModel" (165 : Nat) ({ cls := "AgesTensModel", name := "byteAt", desc := "(I)I" } : Jvm.MethodName)) ∈ TB := tb_of 1107 (by decide +kernel) rfl
theorem wd_1109 : (Jvm.Cond.instanceMethod ({ cls := "AgesTensModel", name := "byteAt", desc := "(I)I" } : Jvm.MethodName)) ∈ TB := tb_of 1109 (by decide +kernel) rfl
theorem wd_1110 : (Jvm.Cond.code ({ cls := "AgesTensModel", name := "byteAt", desc := "(I)I" } : Jvm.MethodName) prog_13_method_33_code (2 : Nat) (Option.some Jvm.ClassFile.FieldType.int)) ∈ TB := tb_of 1110 (by decide +kernel) rfl
theorem wd_1111 : (Jvm.Cond.constantLong "AgesTensModel" (174 : Nat) (97 : Int64)) ∈ TB := tb_of 1111 (by decide +kernel) rfl
theorem wd_1112 : (Jvm.Cond.constantLong "AgesTensModel" (176 : Nat) (122 : Int64)) ∈ TB := tb_of 1112 (by decide +kernel) rfl
theorem wd_1113 : (Jvm.Cond.constantLong "AgesTensModel" (178 : Nat) (27 : Int64)) ∈ TB := tb_of 1113 (by decide +kernel) rfl
theorem wd_1114 : (Jvm.Cond.constantLong "AgesTensModel" (180 : Nat) (96 : Int64)) ∈ TB := tb_of 1114 (by decide +kernel) rfl
theorem wd_1115 : (Jvm.Cond.constantLong "AgesTensModel" (182 : Nat) (-1 : Int64)) ∈ TB := tb_of 1115 (by decide +kernel) rfl
theorem wd_1116 : (Jvm.Cond.constantLong "AgesTensModel" (184 : Nat) (48 : Int64)) ∈ TB := tb_of 1116 (by decide +kernel) rfl
theorem wd_1117 : (Jvm.Cond.constantLong "AgesTensModel" (186 : Nat) (57 : Int64)) ∈ TB := tb_of 1117 (by decide +kernel) rfl
theorem wd_1118 : (Jvm.Cond.constantLong "AgesTensModel" (188 : Nat) (10 : Int64)) ∈ TB := tb_of 1118 (by decide +kernel) rfl
theorem wd_1119 : (Jvm.Cond.methodLink "AgesTensModel" (214 : Nat) ({ cls := "AgesTensModel", name := "readItem", desc := "()Z" } : Jvm.MethodName)) ∈ TB := tb_of 1119 (by decide +kernel) rfl
theorem wd_1121 : (Jvm.Cond.instanceMethod ({ cls := "AgesTensModel", name := "readItem", desc := "()Z" } : Jvm.MethodName)) ∈ TB := tb_of 1121 (by decide +kernel) rfl
theorem wd_1122 : (Jvm.Cond.code ({ cls := "AgesTensModel", name := "readItem", desc := "()Z" } : Jvm.MethodName) prog_13_method_39_code (2 : Nat) (Option.some Jvm.ClassFile.FieldType.boolean)) ∈ TB := tb_of 1122 (by decide +kernel) rfl
theorem wd_1123 : (Jvm.Cond.constantLong "AgesTensModel" (196 : Nat) (232608281 : Int64)) ∈ TB := tb_of 1123 (by decide +kernel) rfl
theorem wd_1124 : (Jvm.Cond.methodLink "AgesTensModel" (198 : Nat) ({ cls := "AgesTensModel", name := "readPerson", desc := "()Z" } : Jvm.MethodName)) ∈ TB := tb_of 1124 (by decide +kernel) rfl
theorem wd_1126 : (Jvm.Cond.instanceMethod ({ cls := "AgesTensModel", name := "readPerson", desc := "()Z" } : Jvm.MethodName)) ∈ TB := tb_of 1126 (by decide +kernel) rfl
theorem wd_1127 : (Jvm.Cond.code ({ cls := "AgesTensModel", name := "readPerson", desc := "()Z" } : Jvm.MethodName) prog_13_method_36_code (3 : Nat) (Option.some Jvm.ClassFile.FieldType.boolean)) ∈ TB := tb_of 1127 (by decide +kernel) rfl
theorem wd_1128 : (Jvm.Cond.methodLink "AgesTensModel" (193 : Nat) ({ cls := "AgesTensModel", name := "isNumber", desc := "(II)Z" } : Jvm.MethodName)) ∈ TB := tb_of 1128 (by decide +kernel) rfl
theorem wd_1130 : (Jvm.Cond.instanceMethod ({ cls := "AgesTensModel", name := "isNumber", desc := "(II)Z" } : Jvm.MethodName)) ∈ TB := tb_of 1130 (by decide +kernel) rfl
theorem wd_1131 : (Jvm.Cond.code ({ cls := "AgesTensModel", name := "isNumber", desc := "(II)Z" } : Jvm.MethodName) prog_13_method_35_code (3 : Nat) (Option.some Jvm.ClassFile.FieldType.boolean)) ∈ TB := tb_of 1131 (by decide +kernel) rfl
theorem wd_1132 : (Jvm.Cond.constantLong "AgesTensModel" (202 : Nat) (139055 : Int64)) ∈ TB := tb_of 1132 (by decide +kernel) rfl
theorem wd_1133 : (Jvm.Cond.methodLink "AgesTensModel" (204 : Nat) ({ cls := "AgesTensModel", name := "readGate", desc := "()Z" } : Jvm.MethodName)) ∈ TB := tb_of 1133 (by decide +kernel) rfl
theorem wd_1135 : (Jvm.Cond.instanceMethod ({ cls := "AgesTensModel", name := "readGate", desc := "()Z" } : Jvm.MethodName)) ∈ TB := tb_of 1135 (by decide +kernel) rfl
theorem wd_1136 : (Jvm.Cond.code ({ cls := "AgesTensModel", name := "readGate", desc := "()Z" } : Jvm.MethodName) prog_13_method_37_code (1 : Nat) (Option.some Jvm.ClassFile.FieldType.boolean)) ∈ TB := tb_of 1136 (by decide +kernel) rfl
theorem wd_1137 : (Jvm.Cond.constantLong "AgesTensModel" (207 : Nat) (459818 : Int64)) ∈ TB := tb_of 1137 (by decide +kernel) rfl
theorem wd_1138 : (Jvm.Cond.methodLink "AgesTensModel" (209 : Nat) ({ cls := "AgesTensModel", name := "readPair", desc := "(I)Z" } : Jvm.MethodName)) ∈ TB := tb_of 1138 (by decide +kernel) rfl
theorem wd_1140 : (Jvm.Cond.instanceMethod ({ cls := "AgesTensModel", name := "readPair", desc := "(I)Z" } : Jvm.MethodName)) ∈ TB := tb_of 1140 (by decide +kernel) rfl
theorem wd_1141 : (Jvm.Cond.code ({ cls := "AgesTensModel", name := "readPair", desc := "(I)Z" } : Jvm.MethodName) prog_13_method_38_code (3 : Nat) (Option.some Jvm.ClassFile.FieldType.boolean)) ∈ TB := tb_of 1141 (by decide +kernel) rfl
theorem wd_1142 : (Jvm.Cond.constantLong "AgesTensModel" (212 : Nat) (847604 : Int64)) ∈ TB := tb_of 1142 (by decide +kernel) rfl
theorem wd_1143 : (Jvm.Cond.methodLink "AgesTensLaw" (64 : Nat) ({ cls := "AgesTensModel", name := "can", desc := "(IIII)I" } : Jvm.MethodName)) ∈ TB := tb_of 1143 (by decide +kernel) rfl
theorem wd_1144 : (Jvm.Cond.instanceMethod ({ cls := "AgesTensModel", name := "can", desc := "(IIII)I" } : Jvm.MethodName)) ∈ TB := tb_of 1144 (by decide +kernel) rfl
theorem wd_1145 : (Jvm.Cond.selects "AgesTensModel" ({ cls := "AgesTensModel", name := "can", desc := "(IIII)I" } : Jvm.MethodName) ({ cls := "AgesTensModel", name := "can", desc := "(IIII)I" } : Jvm.MethodName)) ∈ TB := tb_of 1145 (by decide +kernel) rfl
theorem wd_1146 : (Jvm.Cond.code ({ cls := "AgesTensModel", name := "can", desc := "(IIII)I" } : Jvm.MethodName) prog_13_method_41_code (7 : Nat) (Option.some Jvm.ClassFile.FieldType.int)) ∈ TB := tb_of 1146 (by decide +kernel) rfl
theorem wd_1147 : (Jvm.Cond.methodLink "AgesTensLaw" (68 : Nat) ({ cls := "AgesTensModel", name := "over", desc := "(IIII)I" } : Jvm.MethodName)) ∈ TB := tb_of 1147 (by decide +kernel) rfl
theorem wd_1148 : (Jvm.Cond.instanceMethod ({ cls := "AgesTensModel", name := "over", desc := "(IIII)I" } : Jvm.MethodName)) ∈ TB := tb_of 1148 (by decide +kernel) rfl
theorem wd_1149 : (Jvm.Cond.selects "AgesTensModel" ({ cls := "AgesTensModel", name := "over", desc := "(IIII)I" } : Jvm.MethodName) ({ cls := "AgesTensModel", name := "over", desc := "(IIII)I" } : Jvm.MethodName)) ∈ TB := tb_of 1149 (by decide +kernel) rfl
theorem wd_1150 : (Jvm.Cond.code ({ cls := "AgesTensModel", name := "over", desc := "(IIII)I" } : Jvm.MethodName) prog_13_method_48_code (5 : Nat) (Option.some Jvm.ClassFile.FieldType.int)) ∈ TB := tb_of 1150 (by decide +kernel) rfl
theorem wd_1151 : (Jvm.Cond.methodLink "AgesTensModel" (232 : Nat) ({ cls := "AgesTensModel", name := "isLook", desc := "(III)Z" } : Jvm.MethodName)) ∈ TB := tb_of 1151 (by decide +kernel) rfl
theorem wd_1153 : (Jvm.Cond.instanceMethod ({ cls := "AgesTensModel", name := "isLook", desc := "(III)Z" } : Jvm.MethodName)) ∈ TB := tb_of 1153 (by decide +kernel) rfl
theorem wd_1154 : (Jvm.Cond.code ({ cls := "AgesTensModel", name := "isLook", desc := "(III)Z" } : Jvm.MethodName) prog_13_method_47_code (4 : Nat) (Option.some Jvm.ClassFile.FieldType.boolean)) ∈ TB := tb_of 1154 (by decide +kernel) rfl
theorem wd_1155 : (Jvm.Cond.methodLink "AgesTensModel" (229 : Nat) ({ cls := "AgesTensModel", name := "isSet", desc := "(I)Z" } : Jvm.MethodName)) ∈ TB := tb_of 1155 (by decide +kernel) rfl
theorem wd_1157 : (Jvm.Cond.instanceMethod ({ cls := "AgesTensModel", name := "isSet", desc := "(I)Z" } : Jvm.MethodName)) ∈ TB := tb_of 1157 (by decide +kernel) rfl
theorem wd_1158 : (Jvm.Cond.code ({ cls := "AgesTensModel", name := "isSet", desc := "(I)Z" } : Jvm.MethodName) prog_13_method_46_code (2 : Nat) (Option.some Jvm.ClassFile.FieldType.boolean)) ∈ TB := tb_of 1158 (by decide +kernel) rfl
theorem wd_1159 : (Jvm.Cond.methodLink "AgesTensModel" (235 : Nat) ({ cls := "AgesTensModel", name := "layParts", desc := "(II)V" } : Jvm.MethodName)) ∈ TB := tb_of 1159 (by decide +kernel) rfl
theorem wd_1161 : (Jvm.Cond.instanceMethod ({ cls := "AgesTensModel", name := "layParts", desc := "(II)V" } : Jvm.MethodName)) ∈ TB := tb_of 1161 (by decide +kernel) rfl
theorem wd_1162 : (Jvm.Cond.code ({ cls := "AgesTensModel", name := "layParts", desc := "(II)V" } : Jvm.MethodName) prog_13_method_44_code (6 : Nat) (Option.none : Option Jvm.ClassFile.FieldType)) ∈ TB := tb_of 1162 (by decide +kernel) rfl
theorem wd_1163 : (Jvm.Cond.methodLink "AgesTensModel" (217 : Nat) ({ cls := "AgesTensModel", name := "isPart", desc := "(II)Z" } : Jvm.MethodName)) ∈ TB := tb_of 1163 (by decide +kernel) rfl
theorem wd_1164 : (Jvm.Cond.static ({ cls := "AgesTensModel", name := "isPart", desc := "(II)Z" } : Jvm.MethodName)) ∈ TB := tb_of 1164 (by decide +kernel) rfl
theorem wd_1165 : (Jvm.Cond.code ({ cls := "AgesTensModel", name := "isPart", desc := "(II)Z" } : Jvm.MethodName) prog_13_method_43_code (2 : Nat) (Option.some Jvm.ClassFile.FieldType.boolean)) ∈ TB := tb_of 1165 (by decide +kernel) rfl
theorem wd_1166 : (Jvm.Cond.methodLink "AgesTensModel" (220 : Nat) ({ cls := "AgesTensModel", name := "least", desc := "(I)I" } : Jvm.MethodName)) ∈ TB := tb_of 1166 (by decide +kernel) rfl
theorem wd_1167 : (Jvm.Cond.static ({ cls := "AgesTensModel", name := "least", desc := "(I)I" } : Jvm.MethodName)) ∈ TB := tb_of 1167 (by decide +kernel) rfl
theorem wd_1168 : (Jvm.Cond.code ({ cls := "AgesTensModel", name := "least", desc := "(I)I" } : Jvm.MethodName) prog_13_method_42_code (2 : Nat) (Option.some Jvm.ClassFile.FieldType.int)) ∈ TB := tb_of 1168 (by decide +kernel) rfl
theorem wd_1169 : (Jvm.Cond.methodLink "AgesTensModel" (239 : Nat) ({ cls := "AgesTensModel", name := "takeParts", desc := "(I)V" } : Jvm.MethodName)) ∈ TB := tb_of 1169 (by decide +kernel) rfl
theorem wd_1171 : (Jvm.Cond.instanceMethod ({ cls := "AgesTensModel", name := "takeParts", desc := "(I)V" } : Jvm.MethodName)) ∈ TB := tb_of 1171 (by decide +kernel) rfl
theorem wd_1172 : (Jvm.Cond.code ({ cls := "AgesTensModel", name := "takeParts", desc := "(I)V" } : Jvm.MethodName) prog_13_method_45_code (6 : Nat) (Option.none : Option Jvm.ClassFile.FieldType)) ∈ TB := tb_of 1172 (by decide +kernel) rfl
theorem wd_1173 : (Jvm.Cond.methodLink "AgesTensLaw" (72 : Nat) ({ cls := "AgesTensModel", name := "parts", desc := "(IIII)I" } : Jvm.MethodName)) ∈ TB := tb_of 1173 (by decide +kernel) rfl
theorem wd_1174 : (Jvm.Cond.instanceMethod ({ cls := "AgesTensModel", name := "parts", desc := "(IIII)I" } : Jvm.MethodName)) ∈ TB := tb_of 1174 (by decide +kernel) rfl
theorem wd_1175 : (Jvm.Cond.selects "AgesTensModel" ({ cls := "AgesTensModel", name := "parts", desc := "(IIII)I" } : Jvm.MethodName) ({ cls := "AgesTensModel", name := "parts", desc := "(IIII)I" } : Jvm.MethodName)) ∈ TB := tb_of 1175 (by decide +kernel) rfl
theorem wd_1176 : (Jvm.Cond.code ({ cls := "AgesTensModel", name := "parts", desc := "(IIII)I" } : Jvm.MethodName) prog_13_method_49_code (5 : Nat) (Option.some Jvm.ClassFile.FieldType.int)) ∈ TB := tb_of 1176 (by decide +kernel) rfl
theorem wd_1177 : (Jvm.Cond.methodLink "AgesTensLaw" (76 : Nat) ({ cls := "AgesTensModel", name := "lent", desc := "(III)I" } : Jvm.MethodName)) ∈ TB := tb_of 1177 (by decide +kernel) rfl
theorem wd_1178 : (Jvm.Cond.instanceMethod ({ cls := "AgesTensModel", name := "lent", desc := "(III)I" } : Jvm.MethodName)) ∈ TB := tb_of 1178 (by decide +kernel) rfl
theorem wd_1179 : (Jvm.Cond.selects "AgesTensModel" ({ cls := "AgesTensModel", name := "lent", desc := "(III)I" } : Jvm.MethodName) ({ cls := "AgesTensModel", name := "lent", desc := "(III)I" } : Jvm.MethodName)) ∈ TB := tb_of 1179 (by decide +kernel) rfl
theorem wd_1180 : (Jvm.Cond.code ({ cls := "AgesTensModel", name := "lent", desc := "(III)I" } : Jvm.MethodName) prog_13_method_50_code (7 : Nat) (Option.some Jvm.ClassFile.FieldType.int)) ∈ TB := tb_of 1180 (by decide +kernel) rfl
theorem wd_1181 : (Jvm.Cond.methodLink "AgesTensLaw" (80 : Nat) ({ cls := "AgesTensModel", name := "worth", desc := "(III)I" } : Jvm.MethodName)) ∈ TB := tb_of 1181 (by decide +kernel) rfl
theorem wd_1182 : (Jvm.Cond.instanceMethod ({ cls := "AgesTensModel", name := "worth", desc := "(III)I" } : Jvm.MethodName)) ∈ TB := tb_of 1182 (by decide +kernel) rfl
theorem wd_1183 : (Jvm.Cond.selects "AgesTensModel" ({ cls := "AgesTensModel", name := "worth", desc := "(III)I" } : Jvm.MethodName) ({ cls := "AgesTensModel", name := "worth", desc := "(III)I" } : Jvm.MethodName)) ∈ TB := tb_of 1183 (by decide +kernel) rfl
theorem wd_1184 : (Jvm.Cond.code ({ cls := "AgesTensModel", name := "worth", desc := "(III)I" } : Jvm.MethodName) prog_13_method_51_code (6 : Nat) (Option.some Jvm.ClassFile.FieldType.int)) ∈ TB := tb_of 1184 (by decide +kernel) rfl
theorem wd_1185 : (Jvm.Cond.methodLink "AgesTensLaw" (84 : Nat) ({ cls := "AgesTensModel", name := "dates", desc := "(III)I" } : Jvm.MethodName)) ∈ TB := tb_of 1185 (by decide +kernel) rfl
theorem wd_1186 : (Jvm.Cond.instanceMethod ({ cls := "AgesTensModel", name := "dates", desc := "(III)I" } : Jvm.MethodName)) ∈ TB := tb_of 1186 (by decide +kernel) rfl
theorem wd_1187 : (Jvm.Cond.selects "AgesTensModel" ({ cls := "AgesTensModel", name := "dates", desc := "(III)I" } : Jvm.MethodName) ({ cls := "AgesTensModel", name := "dates", desc := "(III)I" } : Jvm.MethodName)) ∈ TB := tb_of 1187 (by decide +kernel) rfl
theorem wd_1188 : (Jvm.Cond.code ({ cls := "AgesTensModel", name := "dates", desc := "(III)I" } : Jvm.MethodName) prog_13_method_52_code (7 : Nat) (Option.some Jvm.ClassFile.FieldType.int)) ∈ TB := tb_of 1188 (by decide +kernel) rfl
theorem wd_1189 : (Jvm.Cond.methodLink "AgesTensLaw" (88 : Nat) ({ cls := "AgesTensModel", name := "next", desc := "(III)I" } : Jvm.MethodName)) ∈ TB := tb_of 1189 (by decide +kernel) rfl
theorem wd_1190 : (Jvm.Cond.instanceMethod ({ cls := "AgesTensModel", name := "next", desc := "(III)I" } : Jvm.MethodName)) ∈ TB := tb_of 1190 (by decide +kernel) rfl
theorem wd_1191 : (Jvm.Cond.selects "AgesTensModel" ({ cls := "AgesTensModel", name := "next", desc := "(III)I" } : Jvm.MethodName) ({ cls := "AgesTensModel", name := "next", desc := "(III)I" } : Jvm.MethodName)) ∈ TB := tb_of 1191 (by decide +kernel) rfl
theorem wd_1192 : (Jvm.Cond.code ({ cls := "AgesTensModel", name := "next", desc := "(III)I" } : Jvm.MethodName) prog_13_method_53_code (5 : Nat) (Option.some Jvm.ClassFile.FieldType.int)) ∈ TB := tb_of 1192 (by decide +kernel) rfl
theorem wd_1193 : (Jvm.Cond.constant "AgesTensModel" (242 : Nat) (146097 : Int32)) ∈ TB := tb_of 1193 (by decide +kernel) rfl
theorem wd_1194 : (Jvm.Cond.methodLink "AgesTensLaw" (92 : Nat) ({ cls := "AgesTensModel", name := "wedding", desc := "(IIII)I" } : Jvm.MethodName)) ∈ TB := tb_of 1194 (by decide +kernel) rfl
theorem wd_1195 : (Jvm.Cond.instanceMethod ({ cls := "AgesTensModel", name := "wedding", desc := "(IIII)I" } : Jvm.MethodName)) ∈ TB := tb_of 1195 (by decide +kernel) rfl
theorem wd_1196 : (Jvm.Cond.selects "AgesTensModel" ({ cls := "AgesTensModel", name := "wedding", desc := "(IIII)I" } : Jvm.MethodName) ({ cls := "AgesTensModel", name := "wedding", desc := "(IIII)I" } : Jvm.MethodName)) ∈ TB := tb_of 1196 (by decide +kernel) rfl
theorem wd_1197 : (Jvm.Cond.code ({ cls := "AgesTensModel", name := "wedding", desc := "(IIII)I" } : Jvm.MethodName) prog_13_method_56_code (7 : Nat) (Option.some Jvm.ClassFile.FieldType.int)) ∈ TB := tb_of 1197 (by decide +kernel) rfl
theorem wd_1198 : (Jvm.Cond.methodLink "AgesTensModel" (243 : Nat) ({ cls := "AgesTensModel", name := "areOther", desc := "()Z" } : Jvm.MethodName)) ∈ TB := tb_of 1198 (by decide +kernel) rfl
theorem wd_1200 : (Jvm.Cond.instanceMethod ({ cls := "AgesTensModel", name := "areOther", desc := "()Z" } : Jvm.MethodName)) ∈ TB := tb_of 1200 (by decide +kernel) rfl
theorem wd_1201 : (Jvm.Cond.code ({ cls := "AgesTensModel", name := "areOther", desc := "()Z" } : Jvm.MethodName) prog_13_method_54_code (3 : Nat) (Option.some Jvm.ClassFile.FieldType.boolean)) ∈ TB := tb_of 1201 (by decide +kernel) rfl
theorem wd_1202 : (Jvm.Cond.methodLink "AgesTensModel" (246 : Nat) ({ cls := "AgesTensModel", name := "leavesNobody", desc := "(II)Z" } : Jvm.MethodName)) ∈ TB := tb_of 1202 (by decide +kernel) rfl
theorem wd_1204 : (Jvm.Cond.instanceMethod ({ cls := "AgesTensModel", name := "leavesNobody", desc := "(II)Z" } : Jvm.MethodName)) ∈ TB := tb_of 1204 (by decide +kernel) rfl
theorem wd_1205 : (Jvm.Cond.code ({ cls := "AgesTensModel", name := "leavesNobody", desc := "(II)Z" } : Jvm.MethodName) prog_13_method_55_code (3 : Nat) (Option.some Jvm.ClassFile.FieldType.boolean)) ∈ TB := tb_of 1205 (by decide +kernel) rfl
theorem wd_1206 : (Jvm.Cond.methodLink "AgesTensLaw" (96 : Nat) ({ cls := "AgesTensModel", name := "crowd", desc := "(II)I" } : Jvm.MethodName)) ∈ TB := tb_of 1206 (by decide +kernel) rfl
theorem wd_1207 : (Jvm.Cond.instanceMethod ({ cls := "AgesTensModel", name := "crowd", desc := "(II)I" } : Jvm.MethodName)) ∈ TB := tb_of 1207 (by decide +kernel) rfl
theorem wd_1208 : (Jvm.Cond.selects "AgesTensModel" ({ cls := "AgesTensModel", name := "crowd", desc := "(II)I" } : Jvm.MethodName) ({ cls := "AgesTensModel", name := "crowd", desc := "(II)I" } : Jvm.MethodName)) ∈ TB := tb_of 1208 (by decide +kernel) rfl
theorem wd_1209 : (Jvm.Cond.code ({ cls := "AgesTensModel", name := "crowd", desc := "(II)I" } : Jvm.MethodName) prog_13_method_57_code (4 : Nat) (Option.some Jvm.ClassFile.FieldType.int)) ∈ TB := tb_of 1209 (by decide +kernel) rfl
theorem wd_1210 : (Jvm.Cond.constantLong "AgesTensModel" (249 : Nat) (9 : Int64)) ∈ TB := tb_of 1210 (by decide +kernel) rfl
theorem wd_1211 : (Jvm.Cond.constantLong "AgesTensModel" (251 : Nat) (6 : Int64)) ∈ TB := tb_of 1211 (by decide +kernel) rfl
theorem wd_1212 : (Jvm.Cond.methodLink "AgesTensLaw" (101 : Nat) ({ cls := "AgesTensModel", name := "tens", desc := "(I)J" } : Jvm.MethodName)) ∈ TB := tb_of 1212 (by decide +kernel) rfl
theorem wd_1213 : (Jvm.Cond.instanceMethod ({ cls := "AgesTensModel", name := "tens", desc := "(I)J" } : Jvm.MethodName)) ∈ TB := tb_of 1213 (by decide +kernel) rfl
theorem wd_1214 : (Jvm.Cond.selects "AgesTensModel" ({ cls := "AgesTensModel", name := "tens", desc := "(I)J" } : Jvm.MethodName) ({ cls := "AgesTensModel", name := "tens", desc := "(I)J" } : Jvm.MethodName)) ∈ TB := tb_of 1214 (by decide +kernel) rfl
theorem wd_1215 : (Jvm.Cond.code ({ cls := "AgesTensModel", name := "tens", desc := "(I)J" } : Jvm.MethodName) prog_13_method_60_code (2 : Nat) (Option.some Jvm.ClassFile.FieldType.long)) ∈ TB := tb_of 1215 (by decide +kernel) rfl
theorem wd_1216 : (Jvm.Cond.constantLong "AgesTensModel" (256 : Nat) (60 : Int64)) ∈ TB := tb_of 1216 (by decide +kernel) rfl
theorem wd_1217 : (Jvm.Cond.methodLink "AgesTensModel" (258 : Nat) ({ cls := "AgesTensModel", name := "layWays", desc := "()V" } : Jvm.MethodName)) ∈ TB := tb_of 1217 (by decide +kernel) rfl
theorem wd_1219 : (Jvm.Cond.instanceMethod ({ cls := "AgesTensModel", name := "layWays", desc := "()V" } : Jvm.MethodName)) ∈ TB := tb_of 1219 (by decide +kernel) rfl
theorem wd_1220 : (Jvm.Cond.code ({ cls := "AgesTensModel", name := "layWays", desc := "()V" } : Jvm.MethodName) prog_13_method_59_code (5 : Nat) (Option.none : Option Jvm.ClassFile.FieldType)) ∈ TB := tb_of 1220 (by decide +kernel) rfl
theorem wd_1221 : (Jvm.Cond.methodLink "AgesTensModel" (253 : Nat) ({ cls := "AgesTensModel", name := "choose", desc := "(II)I" } : Jvm.MethodName)) ∈ TB := tb_of 1221 (by decide +kernel) rfl
theorem wd_1222 : (Jvm.Cond.static ({ cls := "AgesTensModel", name := "choose", desc := "(II)I" } : Jvm.MethodName)) ∈ TB := tb_of 1222 (by decide +kernel) rfl
theorem wd_1223 : (Jvm.Cond.code ({ cls := "AgesTensModel", name := "choose", desc := "(II)I" } : Jvm.MethodName) prog_13_method_58_code (4 : Nat) (Option.some Jvm.ClassFile.FieldType.int)) ∈ TB := tb_of 1223 (by decide +kernel) rfl
theorem wd_1224 : (Jvm.Cond.methodLink "AgesTensLaw" (105 : Nat) ({ cls := "AgesTensModel", name := "spare", desc := "()I" } : Jvm.MethodName)) ∈ TB := tb_of 1224 (by decide +kernel) rfl
theorem wd_1225 : (Jvm.Cond.instanceMethod ({ cls := "AgesTensModel", name := "spare", desc := "()I" } : Jvm.MethodName)) ∈ TB := tb_of 1225 (by decide +kernel) rfl
theorem wd_1226 : (Jvm.Cond.selects "AgesTensModel" ({ cls := "AgesTensModel", name := "spare", desc := "()I" } : Jvm.MethodName) ({ cls := "AgesTensModel", name := "spare", desc := "()I" } : Jvm.MethodName)) ∈ TB := tb_of 1226 (by decide +kernel) rfl
theorem wd_1227 : (Jvm.Cond.code ({ cls := "AgesTensModel", name := "spare", desc := "()I" } : Jvm.MethodName) prog_13_method_61_code (3 : Nat) (Option.some Jvm.ClassFile.FieldType.int)) ∈ TB := tb_of 1227 (by decide +kernel) rfl
theorem wd_1228 : (Jvm.Cond.methodLink "AgesTensLaw" (110 : Nat) ({ cls := "AgesTensModel", name := "passing", desc := "(IIZ)I" } : Jvm.MethodName)) ∈ TB := tb_of 1228 (by decide +kernel) rfl
theorem wd_1229 : (Jvm.Cond.instanceMethod ({ cls := "AgesTensModel", name := "passing", desc := "(IIZ)I" } : Jvm.MethodName)) ∈ TB := tb_of 1229 (by decide +kernel) rfl
theorem wd_1230 : (Jvm.Cond.selects "AgesTensModel" ({ cls := "AgesTensModel", name := "passing", desc := "(IIZ)I" } : Jvm.MethodName) ({ cls := "AgesTensModel", name := "passing", desc := "(IIZ)I" } : Jvm.MethodName)) ∈ TB := tb_of 1230 (by decide +kernel) rfl
theorem wd_1231 : (Jvm.Cond.code ({ cls := "AgesTensModel", name := "passing", desc := "(IIZ)I" } : Jvm.MethodName) prog_13_method_62_code (5 : Nat) (Option.some Jvm.ClassFile.FieldType.int)) ∈ TB := tb_of 1231 (by decide +kernel) rfl
theorem wd_1232 : (Jvm.Cond.constantLong "AgesTensModel" (261 : Nat) (31 : Int64)) ∈ TB := tb_of 1232 (by decide +kernel) rfl
theorem wd_1233 : (Jvm.Cond.constantLong "AgesTensModel" (263 : Nat) (99 : Int64)) ∈ TB := tb_of 1233 (by decide +kernel) rfl
theorem wd_1234 : (Jvm.Cond.methodLink "AgesTensLaw" (114 : Nat) ({ cls := "AgesTensModel", name := "forget", desc := "()I" } : Jvm.MethodName)) ∈ TB := tb_of 1234 (by decide +kernel) rfl
theorem wd_1235 : (Jvm.Cond.instanceMethod ({ cls := "AgesTensModel", name := "forget", desc := "()I" } : Jvm.MethodName)) ∈ TB := tb_of 1235 (by decide +kernel) rfl
theorem wd_1236 : (Jvm.Cond.selects "AgesTensModel" ({ cls := "AgesTensModel", name := "forget", desc := "()I" } : Jvm.MethodName) ({ cls := "AgesTensModel", name := "forget", desc := "()I" } : Jvm.MethodName)) ∈ TB := tb_of 1236 (by decide +kernel) rfl
theorem wd_1237 : (Jvm.Cond.code ({ cls := "AgesTensModel", name := "forget", desc := "()I" } : Jvm.MethodName) prog_13_method_63_code (2 : Nat) (Option.some Jvm.ClassFile.FieldType.int)) ∈ TB := tb_of 1237 (by decide +kernel) rfl
theorem wd_1238 : (Jvm.Cond.methodLink "AgesTensLaw" (118 : Nat) ({ cls := "AgesTensModel", name := "liars", desc := "(I)I" } : Jvm.MethodName)) ∈ TB := tb_of 1238 (by decide +kernel) rfl
theorem wd_1239 : (Jvm.Cond.instanceMethod ({ cls := "AgesTensModel", name := "liars", desc := "(I)I" } : Jvm.MethodName)) ∈ TB := tb_of 1239 (by decide +kernel) rfl
theorem wd_1240 : (Jvm.Cond.selects "AgesTensModel" ({ cls := "AgesTensModel", name := "liars", desc := "(I)I" } : Jvm.MethodName) ({ cls := "AgesTensModel", name := "liars", desc := "(I)I" } : Jvm.MethodName)) ∈ TB := tb_of 1240 (by decide +kernel) rfl
theorem wd_1241 : (Jvm.Cond.code ({ cls := "AgesTensModel", name := "liars", desc := "(I)I" } : Jvm.MethodName) prog_13_method_64_code (3 : Nat) (Option.some Jvm.ClassFile.FieldType.int)) ∈ TB := tb_of 1241 (by decide +kernel) rfl
theorem wd_1242 : (Jvm.Cond.constantLong "AgesTensModel" (265 : Nat) (3 : Int64)) ∈ TB := tb_of 1242 (by decide +kernel) rfl
theorem wd_1243 : (Jvm.Cond.methodLink "AgesTensLaw" (122 : Nat) ({ cls := "AgesTensModel", name := "fits", desc := "(I)I" } : Jvm.MethodName)) ∈ TB := tb_of 1243 (by decide +kernel) rfl
theorem wd_1244 : (Jvm.Cond.instanceMethod ({ cls := "AgesTensModel", name := "fits", desc := "(I)I" } : Jvm.MethodName)) ∈ TB := tb_of 1244 (by decide +kernel) rfl
theorem wd_1245 : (Jvm.Cond.selects "AgesTensModel" ({ cls := "AgesTensModel", name := "fits", desc := "(I)I" } : Jvm.MethodName) ({ cls := "AgesTensModel", name := "fits", desc := "(I)I" } : Jvm.MethodName)) ∈ TB := tb_of 1245 (by decide +kernel) rfl
theorem wd_1246 : (Jvm.Cond.code ({ cls := "AgesTensModel", name := "fits", desc := "(I)I" } : Jvm.MethodName) prog_13_method_67_code (4 : Nat) (Option.some Jvm.ClassFile.FieldType.int)) ∈ TB := tb_of 1246 (by decide +kernel) rfl
theorem wd_1247 : (Jvm.Cond.constant "AgesTensModel" (270 : Nat) (100000 : Int32)) ∈ TB := tb_of 1247 (by decide +kernel) rfl
theorem wd_1248 : (Jvm.Cond.methodLink "AgesTensModel" (271 : Nat) ({ cls := "AgesTensModel", name := "fitsAll", desc := "(I)Z" } : Jvm.MethodName)) ∈ TB := tb_of 1248 (by decide +kernel) rfl
theorem wd_1250 : (Jvm.Cond.instanceMethod ({ cls := "AgesTensModel", name := "fitsAll", desc := "(I)Z" } : Jvm.MethodName)) ∈ TB := tb_of 1250 (by decide +kernel) rfl
theorem wd_1251 : (Jvm.Cond.code ({ cls := "AgesTensModel", name := "fitsAll", desc := "(I)Z" } : Jvm.MethodName) prog_13_method_66_code (6 : Nat) (Option.some Jvm.ClassFile.FieldType.boolean)) ∈ TB := tb_of 1251 (by decide +kernel) rfl
theorem wd_1252 : (Jvm.Cond.methodLink "AgesTensModel" (267 : Nat) ({ cls := "AgesTensModel", name := "figure", desc := "(II)I" } : Jvm.MethodName)) ∈ TB := tb_of 1252 (by decide +kernel) rfl
theorem wd_1253 : (Jvm.Cond.static ({ cls := "AgesTensModel", name := "figure", desc := "(II)I" } : Jvm.MethodName)) ∈ TB := tb_of 1253 (by decide +kernel) rfl
theorem wd_1254 : (Jvm.Cond.code ({ cls := "AgesTensModel", name := "figure", desc := "(II)I" } : Jvm.MethodName) prog_13_method_65_code (4 : Nat) (Option.some Jvm.ClassFile.FieldType.int)) ∈ TB := tb_of 1254 (by decide +kernel) rfl
theorem wd_1255 : (Jvm.Cond.methodLink "AgesTensLaw" (126 : Nat) ({ cls := "AgesTensModel", name := "untold", desc := "(II)I" } : Jvm.MethodName)) ∈ TB := tb_of 1255 (by decide +kernel) rfl
theorem wd_1256 : (Jvm.Cond.instanceMethod ({ cls := "AgesTensModel", name := "untold", desc := "(II)I" } : Jvm.MethodName)) ∈ TB := tb_of 1256 (by decide +kernel) rfl
theorem wd_1257 : (Jvm.Cond.selects "AgesTensModel" ({ cls := "AgesTensModel", name := "untold", desc := "(II)I" } : Jvm.MethodName) ({ cls := "AgesTensModel", name := "untold", desc := "(II)I" } : Jvm.MethodName)) ∈ TB := tb_of 1257 (by decide +kernel) rfl
theorem wd_1258 : (Jvm.Cond.code ({ cls := "AgesTensModel", name := "untold", desc := "(II)I" } : Jvm.MethodName) prog_13_method_68_code (8 : Nat) (Option.some Jvm.ClassFile.FieldType.int)) ∈ TB := tb_of 1258 (by decide +kernel) rfl
theorem wd_1259 : (Jvm.Cond.methodLink "AgesTensLaw" (130 : Nat) ({ cls := "AgesTensModel", name := "part", desc := "(I)I" } : Jvm.MethodName)) ∈ TB := tb_of 1259 (by decide +kernel) rfl
theorem wd_1260 : (Jvm.Cond.instanceMethod ({ cls := "AgesTensModel", name := "part", desc := "(I)I" } : Jvm.MethodName)) ∈ TB := tb_of 1260 (by decide +kernel) rfl
theorem wd_1261 : (Jvm.Cond.selects "AgesTensModel" ({ cls := "AgesTensModel", name := "part", desc := "(I)I" } : Jvm.MethodName) ({ cls := "AgesTensModel", name := "part", desc := "(I)I" } : Jvm.MethodName)) ∈ TB := tb_of 1261 (by decide +kernel) rfl
theorem wd_1262 : (Jvm.Cond.code ({ cls := "AgesTensModel", name := "part", desc := "(I)I" } : Jvm.MethodName) prog_13_method_69_code (2 : Nat) (Option.some Jvm.ClassFile.FieldType.int)) ∈ TB := tb_of 1262 (by decide +kernel) rfl
theorem wd_1263 : (Jvm.Cond.methodLink "AgesTensLaw" (134 : Nat) ({ cls := "AgesTensModel", name := "image", desc := "(I)I" } : Jvm.MethodName)) ∈ TB := tb_of 1263 (by decide +kernel) rfl
theorem wd_1264 : (Jvm.Cond.instanceMethod ({ cls := "AgesTensModel", name := "image", desc := "(I)I" } : Jvm.MethodName)) ∈ TB := tb_of 1264 (by decide +kernel) rfl
theorem wd_1265 : (Jvm.Cond.selects "AgesTensModel" ({ cls := "AgesTensModel", name := "image", desc := "(I)I" } : Jvm.MethodName) ({ cls := "AgesTensModel", name := "image", desc := "(I)I" } : Jvm.MethodName)) ∈ TB := tb_of 1265 (by decide +kernel) rfl
theorem wd_1266 : (Jvm.Cond.code ({ cls := "AgesTensModel", name := "image", desc := "(I)I" } : Jvm.MethodName) prog_13_method_70_code (3 : Nat) (Option.some Jvm.ClassFile.FieldType.int)) ∈ TB := tb_of 1266 (by decide +kernel) rfl
theorem wd_1267 : (Jvm.Cond.methodLink "AgesTensLaw" (138 : Nat) ({ cls := "AgesTensModel", name := "from", desc := "(I)I" } : Jvm.MethodName)) ∈ TB := tb_of 1267 (by decide +kernel) rfl
theorem wd_1268 : (Jvm.Cond.instanceMethod ({ cls := "AgesTensModel", name := "from", desc := "(I)I" } : Jvm.MethodName)) ∈ TB := tb_of 1268 (by decide +kernel) rfl
theorem wd_1269 : (Jvm.Cond.selects "AgesTensModel" ({ cls := "AgesTensModel", name := "from", desc := "(I)I" } : Jvm.MethodName) ({ cls := "AgesTensModel", name := "from", desc := "(I)I" } : Jvm.MethodName)) ∈ TB := tb_of 1269 (by decide +kernel) rfl
theorem wd_1270 : (Jvm.Cond.code ({ cls := "AgesTensModel", name := "from", desc := "(I)I" } : Jvm.MethodName) prog_13_method_71_code (3 : Nat) (Option.some Jvm.ClassFile.FieldType.int)) ∈ TB := tb_of 1270 (by decide +kernel) rfl
theorem wd_1271 : (Jvm.Cond.methodLink "AgesTensLaw" (142 : Nat) ({ cls := "AgesTensModel", name := "status", desc := "(I)I" } : Jvm.MethodName)) ∈ TB := tb_of 1271 (by decide +kernel) rfl
theorem wd_1272 : (Jvm.Cond.instanceMethod ({ cls := "AgesTensModel", name := "status", desc := "(I)I" } : Jvm.MethodName)) ∈ TB := tb_of 1272 (by decide +kernel) rfl
theorem wd_1273 : (Jvm.Cond.selects "AgesTensModel" ({ cls := "AgesTensModel", name := "status", desc := "(I)I" } : Jvm.MethodName) ({ cls := "AgesTensModel", name := "status", desc := "(I)I" } : Jvm.MethodName)) ∈ TB := tb_of 1273 (by decide +kernel) rfl
theorem wd_1274 : (Jvm.Cond.code ({ cls := "AgesTensModel", name := "status", desc := "(I)I" } : Jvm.MethodName) prog_13_method_72_code (2 : Nat) (Option.some Jvm.ClassFile.FieldType.int)) ∈ TB := tb_of 1274 (by decide +kernel) rfl
theorem wd_1275 : (Jvm.Cond.methodLink "AgesTensLaw" (146 : Nat) ({ cls := "AgesTensModel", name := "count", desc := "(I)I" } : Jvm.MethodName)) ∈ TB := tb_of 1275 (by decide +kernel) rfl
theorem wd_1276 : (Jvm.Cond.instanceMethod ({ cls := "AgesTensModel", name := "count", desc := "(I)I" } : Jvm.MethodName)) ∈ TB := tb_of 1276 (by decide +kernel) rfl
theorem wd_1277 : (Jvm.Cond.selects "AgesTensModel" ({ cls := "AgesTensModel", name := "count", desc := "(I)I" } : Jvm.MethodName) ({ cls := "AgesTensModel", name := "count", desc := "(I)I" } : Jvm.MethodName)) ∈ TB := tb_of 1277 (by decide +kernel) rfl
theorem wd_1278 : (Jvm.Cond.code ({ cls := "AgesTensModel", name := "count", desc := "(I)I" } : Jvm.MethodName) prog_13_method_73_code (2 : Nat) (Option.some Jvm.ClassFile.FieldType.int)) ∈ TB := tb_of 1278 (by decide +kernel) rfl
theorem wd_1279 : (Jvm.Cond.methodLink "AgesTensLaw" (151 : Nat) ({ cls := "AgesTensModel", name := "digest", desc := "()J" } : Jvm.MethodName)) ∈ TB := tb_of 1279 (by decide +kernel) rfl
theorem wd_1280 : (Jvm.Cond.instanceMethod ({ cls := "AgesTensModel", name := "digest", desc := "()J" } : Jvm.MethodName)) ∈ TB := tb_of 1280 (by decide +kernel) rfl
theorem wd_1281 : (Jvm.Cond.selects "AgesTensModel" ({ cls := "AgesTensModel", name := "digest", desc := "()J" } : Jvm.MethodName) ({ cls := "AgesTensModel", name := "digest", desc := "()J" } : Jvm.MethodName)) ∈ TB := tb_of 1281 (by decide +kernel) rfl
theorem wd_1282 : (Jvm.Cond.code ({ cls := "AgesTensModel", name := "digest", desc := "()J" } : Jvm.MethodName) prog_13_method_74_code (4 : Nat) (Option.some Jvm.ClassFile.FieldType.long)) ∈ TB := tb_of 1282 (by decide +kernel) rfl
theorem wd_1283 : (Jvm.Cond.constantLong "AgesTensModel" (284 : Nat) (641 : Int64)) ∈ TB := tb_of 1283 (by decide +kernel) rfl
theorem wd_1284 : (Jvm.Cond.constantLong "AgesTensLaw" (44 : Nat) (4294967295 : Int64)) ∈ TB := tb_of 1284 (by decide +kernel) rfl
theorem wd_1285 : (Jvm.Cond.fieldLink "java/lang/String" (9 : Nat) "java/lang/String" "value" "[B") ∈ TB := tb_of 1285 (by decide +kernel) rfl
theorem wd_1286 : (Jvm.Cond.fieldLink "java/lang/String" (15 : Nat) "java/lang/String" "coder" "B") ∈ TB := tb_of 1286 (by decide +kernel) rfl
