/-! WORDS of the tables, by program -/
theorem wd_0 : (Jvm.Cond.classLink "QueryTablesLaw" (7 : Nat) "QueryTables") ∈ sm_tbl := sm_m0 19 rfl rfl
theorem wd_1 : (Jvm.Cond.methodLink "QueryTablesLaw" (9 : Nat) ({ cls := "QueryTables", name := "<init>", desc := "()V" } : Jvm.MethodName)) ∈ sm_tbl := sm_m0 21 rfl rfl
theorem wd_2 : (Jvm.Cond.classLink "QueryTablesLaw" (10 : Nat) "QueryTablesModel") ∈ sm_tbl := sm_m4 55 rfl rfl
theorem wd_3 : (Jvm.Cond.methodLink "QueryTablesLaw" (12 : Nat) ({ cls := "QueryTablesModel", name := "<init>", desc := "()V" } : Jvm.MethodName)) ∈ sm_tbl := sm_m4 57 rfl rfl
theorem wd_4 : (Jvm.Cond.methodLink "QueryTablesLaw" (13 : Nat) ({ cls := "QueryTables", name := "type", desc := "(C)Z" } : Jvm.MethodName)) ∈ sm_tbl := sm_m1 151 rfl rfl
theorem wd_5 : (Jvm.Cond.methodLink "QueryTablesLaw" (17 : Nat) ({ cls := "QueryTablesModel", name := "type", desc := "(C)Z" } : Jvm.MethodName)) ∈ sm_tbl := sm_m4 239 rfl rfl
theorem wd_6 : (Jvm.Cond.methodLink "QueryTablesLaw" (18 : Nat) ({ cls := "QueryTables", name := "erase", desc := "()Z" } : Jvm.MethodName)) ∈ sm_tbl := sm_m1 155 rfl rfl
theorem wd_7 : (Jvm.Cond.methodLink "QueryTablesLaw" (22 : Nat) ({ cls := "QueryTablesModel", name := "erase", desc := "()Z" } : Jvm.MethodName)) ∈ sm_tbl := sm_m5 3 rfl rfl
theorem wd_8 : (Jvm.Cond.methodLink "QueryTablesLaw" (23 : Nat) ({ cls := "QueryTables", name := "run", desc := "()I" } : Jvm.MethodName)) ∈ sm_tbl := sm_m1 159 rfl rfl
theorem wd_9 : (Jvm.Cond.methodLink "QueryTablesLaw" (27 : Nat) ({ cls := "QueryTablesModel", name := "run", desc := "()I" } : Jvm.MethodName)) ∈ sm_tbl := sm_m5 11 rfl rfl
theorem wd_10 : (Jvm.Cond.methodLink "QueryTablesLaw" (28 : Nat) ({ cls := "QueryTables", name := "length", desc := "()I" } : Jvm.MethodName)) ∈ sm_tbl := sm_m4 4 rfl rfl
theorem wd_11 : (Jvm.Cond.methodLink "QueryTablesLaw" (31 : Nat) ({ cls := "QueryTablesModel", name := "length", desc := "()I" } : Jvm.MethodName)) ∈ sm_tbl := sm_m5 7 rfl rfl
theorem wd_12 : (Jvm.Cond.methodLink "QueryTablesLaw" (32 : Nat) ({ cls := "QueryTables", name := "rows", desc := "()I" } : Jvm.MethodName)) ∈ sm_tbl := sm_m4 8 rfl rfl
theorem wd_13 : (Jvm.Cond.methodLink "QueryTablesLaw" (35 : Nat) ({ cls := "QueryTablesModel", name := "rows", desc := "()I" } : Jvm.MethodName)) ∈ sm_tbl := sm_m5 216 rfl rfl
theorem wd_14 : (Jvm.Cond.methodLink "QueryTablesLaw" (36 : Nat) ({ cls := "QueryTables", name := "width", desc := "()I" } : Jvm.MethodName)) ∈ sm_tbl := sm_m4 12 rfl rfl
theorem wd_15 : (Jvm.Cond.methodLink "QueryTablesLaw" (39 : Nat) ({ cls := "QueryTablesModel", name := "width", desc := "()I" } : Jvm.MethodName)) ∈ sm_tbl := sm_m5 220 rfl rfl
theorem wd_16 : (Jvm.Cond.methodLink "QueryTablesLaw" (40 : Nat) ({ cls := "QueryTables", name := "value", desc := "(II)J" } : Jvm.MethodName)) ∈ sm_tbl := sm_m4 16 rfl rfl
theorem wd_17 : (Jvm.Cond.methodLink "QueryTablesLaw" (44 : Nat) ({ cls := "QueryTablesModel", name := "value", desc := "(II)J" } : Jvm.MethodName)) ∈ sm_tbl := sm_m5 224 rfl rfl
theorem wd_18 : (Jvm.Cond.methodLink "QueryTablesLaw" (45 : Nat) ({ cls := "QueryTables", name := "reads", desc := "()I" } : Jvm.MethodName)) ∈ sm_tbl := sm_m4 21 rfl rfl
theorem wd_19 : (Jvm.Cond.methodLink "QueryTablesLaw" (48 : Nat) ({ cls := "QueryTablesModel", name := "reads", desc := "()I" } : Jvm.MethodName)) ∈ sm_tbl := sm_m5 229 rfl rfl
theorem wd_20 : (Jvm.Cond.methodLink "QueryTablesLaw" (49 : Nat) ({ cls := "QueryTables", name := "plan", desc := "()I" } : Jvm.MethodName)) ∈ sm_tbl := sm_m4 25 rfl rfl
theorem wd_21 : (Jvm.Cond.methodLink "QueryTablesLaw" (52 : Nat) ({ cls := "QueryTablesModel", name := "plan", desc := "()I" } : Jvm.MethodName)) ∈ sm_tbl := sm_m5 233 rfl rfl
theorem wd_22 : (Jvm.Cond.methodLink "QueryTablesLaw" (53 : Nat) ({ cls := "QueryTables", name := "columns", desc := "(I)I" } : Jvm.MethodName)) ∈ sm_tbl := sm_m4 29 rfl rfl
theorem wd_23 : (Jvm.Cond.methodLink "QueryTablesLaw" (57 : Nat) ({ cls := "QueryTablesModel", name := "columns", desc := "(I)I" } : Jvm.MethodName)) ∈ sm_tbl := sm_m5 237 rfl rfl
theorem wd_24 : (Jvm.Cond.methodLink "QueryTablesLaw" (58 : Nat) ({ cls := "QueryTables", name := "size", desc := "(I)I" } : Jvm.MethodName)) ∈ sm_tbl := sm_m4 36 rfl rfl
theorem wd_25 : (Jvm.Cond.methodLink "QueryTablesLaw" (61 : Nat) ({ cls := "QueryTablesModel", name := "size", desc := "(I)I" } : Jvm.MethodName)) ∈ sm_tbl := sm_m6 4 rfl rfl
theorem wd_26 : (Jvm.Cond.methodLink "QueryTablesLaw" (62 : Nat) ({ cls := "QueryTables", name := "indexed", desc := "(II)Z" } : Jvm.MethodName)) ∈ sm_tbl := sm_m4 40 rfl rfl
theorem wd_27 : (Jvm.Cond.methodLink "QueryTablesLaw" (66 : Nat) ({ cls := "QueryTablesModel", name := "indexed", desc := "(II)Z" } : Jvm.MethodName)) ∈ sm_tbl := sm_m6 8 rfl rfl
theorem wd_28 : (Jvm.Cond.methodLink "QueryTablesLaw" (67 : Nat) ({ cls := "QueryTables", name := "cell", desc := "(III)J" } : Jvm.MethodName)) ∈ sm_tbl := sm_m4 45 rfl rfl
theorem wd_29 : (Jvm.Cond.methodLink "QueryTablesLaw" (71 : Nat) ({ cls := "QueryTablesModel", name := "cell", desc := "(III)J" } : Jvm.MethodName)) ∈ sm_tbl := sm_m6 12 rfl rfl
theorem wd_30 : (Jvm.Cond.constantLong "QueryTablesLaw" (72 : Nat) (4294967295 : Int64)) ∈ sm_tbl := sm_m6 20 rfl rfl
theorem wd_31 : (Jvm.Cond.methodLink "QueryTablesLaw" (74 : Nat) ({ cls := "QueryTables", name := "count", desc := "(IIJ)I" } : Jvm.MethodName)) ∈ sm_tbl := sm_m4 50 rfl rfl
theorem wd_32 : (Jvm.Cond.methodLink "QueryTablesLaw" (78 : Nat) ({ cls := "QueryTablesModel", name := "count", desc := "(IIJ)I" } : Jvm.MethodName)) ∈ sm_tbl := sm_m6 16 rfl rfl
theorem wd_33 : (Jvm.Cond.methodLink "QueryTables" (1 : Nat) ({ cls := "java/lang/Object", name := "<init>", desc := "()V" } : Jvm.MethodName)) ∈ sm_tbl := sm_m0 24 rfl rfl
theorem wd_34 : (Jvm.Cond.instanceMethod ({ cls := "java/lang/Object", name := "<init>", desc := "()V" } : Jvm.MethodName)) ∈ sm_tbl := sm_m0 25 rfl rfl
theorem wd_35 : (Jvm.Cond.code ({ cls := "java/lang/Object", name := "<init>", desc := "()V" } : Jvm.MethodName) object_method_1_code (1 : Nat) (Option.none : Option Jvm.ClassFile.FieldType)) ∈ sm_tbl := sm_m0 26 rfl rfl
theorem wd_36 : (Jvm.Cond.arrayClass Jvm.ClassFile.FieldType.char) ∈ sm_tbl := sm_m0 52 rfl rfl
theorem wd_37 : (Jvm.Cond.fieldLink "QueryTables" (9 : Nat) "QueryTables" "text" "[C") ∈ sm_tbl := sm_m1 105 rfl rfl
theorem wd_38 : (Jvm.Cond.classLink "QueryTables" (13 : Nat) "QueryTables$Table") ∈ sm_tbl := sm_m0 27 rfl rfl
theorem wd_39 : (Jvm.Cond.arrayOver (Jvm.ClassFile.FieldType.object "QueryTables$Table")) ∈ sm_tbl := sm_m0 28 rfl rfl
theorem wd_40 : (Jvm.Cond.fieldLink "QueryTables" (15 : Nat) "QueryTables" "tables" "[LQueryTables$Table;") ∈ sm_tbl := sm_m1 106 rfl rfl
theorem wd_41 : (Jvm.Cond.methodLinkNest "QueryTables" (19 : Nat) ({ cls := "QueryTables$Table", name := "<init>", desc := "()V" } : Jvm.MethodName) "QueryTables") ∈ sm_tbl := sm_m0 30 rfl rfl
theorem wd_42 : (Jvm.Cond.classLink "QueryTables" (20 : Nat) "QueryTables$Statement") ∈ sm_tbl := sm_m0 55 rfl rfl
theorem wd_43 : (Jvm.Cond.methodLinkNest "QueryTables" (22 : Nat) ({ cls := "QueryTables$Statement", name := "<init>", desc := "()V" } : Jvm.MethodName) "QueryTables") ∈ sm_tbl := sm_m0 57 rfl rfl
theorem wd_44 : (Jvm.Cond.fieldLink "QueryTables" (23 : Nat) "QueryTables" "statement" "LQueryTables$Statement;") ∈ sm_tbl := sm_m1 107 rfl rfl
theorem wd_45 : (Jvm.Cond.classLink "QueryTables" (27 : Nat) "QueryTables$Code") ∈ sm_tbl := sm_m0 152 rfl rfl
theorem wd_46 : (Jvm.Cond.methodLinkNest "QueryTables" (29 : Nat) ({ cls := "QueryTables$Code", name := "<init>", desc := "()V" } : Jvm.MethodName) "QueryTables") ∈ sm_tbl := sm_m0 154 rfl rfl
theorem wd_47 : (Jvm.Cond.fieldLink "QueryTables" (30 : Nat) "QueryTables" "code" "LQueryTables$Code;") ∈ sm_tbl := sm_m1 108 rfl rfl
theorem wd_48 : (Jvm.Cond.classLink "QueryTables" (34 : Nat) "QueryTables$Pair") ∈ sm_tbl := sm_m0 182 rfl rfl
theorem wd_49 : (Jvm.Cond.methodLink "QueryTables" (36 : Nat) ({ cls := "QueryTables$Pair", name := "<init>", desc := "(LQueryTables$Table;)V" } : Jvm.MethodName)) ∈ sm_tbl := sm_m0 184 rfl rfl
theorem wd_50 : (Jvm.Cond.fieldLink "QueryTables" (39 : Nat) "QueryTables" "pair" "LQueryTables$Pair;") ∈ sm_tbl := sm_m1 109 rfl rfl
theorem wd_51 : (Jvm.Cond.classLink "QueryTables" (43 : Nat) "QueryTables$Parser") ∈ sm_tbl := sm_m0 198 rfl rfl
theorem wd_52 : (Jvm.Cond.methodLink "QueryTables" (45 : Nat) ({ cls := "QueryTables$Parser", name := "<init>", desc := "(LQueryTables$Statement;LQueryTables$Code;)V" } : Jvm.MethodName)) ∈ sm_tbl := sm_m0 200 rfl rfl
theorem wd_53 : (Jvm.Cond.fieldLink "QueryTables" (48 : Nat) "QueryTables" "parser" "LQueryTables$Parser;") ∈ sm_tbl := sm_m1 110 rfl rfl
theorem wd_54 : (Jvm.Cond.classLink "QueryTables" (52 : Nat) "QueryTables$Checker") ∈ sm_tbl := sm_m0 236 rfl rfl
theorem wd_55 : (Jvm.Cond.methodLink "QueryTables" (54 : Nat) ({ cls := "QueryTables$Checker", name := "<init>", desc := "([LQueryTables$Table;LQueryTables$Statement;LQueryTables$Code;)V" } : Jvm.MethodName)) ∈ sm_tbl := sm_m0 238 rfl rfl
theorem wd_56 : (Jvm.Cond.fieldLink "QueryTables" (57 : Nat) "QueryTables" "checker" "LQueryTables$Checker;") ∈ sm_tbl := sm_m1 111 rfl rfl
theorem wd_57 : (Jvm.Cond.classLink "QueryTables" (61 : Nat) "QueryTables$Search") ∈ sm_tbl := sm_m1 12 rfl rfl
theorem wd_58 : (Jvm.Cond.methodLink "QueryTables" (63 : Nat) ({ cls := "QueryTables$Search", name := "<init>", desc := "(LQueryTables$Statement;LQueryTables$Code;LQueryTables$Pair;)V" } : Jvm.MethodName)) ∈ sm_tbl := sm_m1 14 rfl rfl
theorem wd_59 : (Jvm.Cond.fieldLink "QueryTables" (66 : Nat) "QueryTables" "search" "LQueryTables$Search;") ∈ sm_tbl := sm_m1 112 rfl rfl
theorem wd_60 : (Jvm.Cond.arrayClass Jvm.ClassFile.FieldType.long) ∈ sm_tbl := sm_m0 53 rfl rfl
theorem wd_61 : (Jvm.Cond.fieldLink "QueryTables" (70 : Nat) "QueryTables" "results" "[J") ∈ sm_tbl := sm_m1 113 rfl rfl
theorem wd_62 : (Jvm.Cond.fieldLink "QueryTables" (74 : Nat) "QueryTables" "line" "[J") ∈ sm_tbl := sm_m1 114 rfl rfl
theorem wd_63 : (Jvm.Cond.fieldLink "QueryTables" (77 : Nat) "QueryTables" "typed" "I") ∈ sm_tbl := sm_m1 115 rfl rfl
theorem wd_64 : (Jvm.Cond.methodLink "QueryTables" (81 : Nat) ({ cls := "QueryTables", name := "forgetAnswers", desc := "()V" } : Jvm.MethodName)) ∈ sm_tbl := sm_m1 163 rfl rfl
theorem wd_65 : (Jvm.Cond.methodLink "QueryTables" (84 : Nat) ({ cls := "QueryTables$Parser", name := "begin", desc := "([CI)Z" } : Jvm.MethodName)) ∈ sm_tbl := sm_m1 167 rfl rfl
theorem wd_66 : (Jvm.Cond.methodLink "QueryTables" (88 : Nat) ({ cls := "QueryTables$Parser", name := "wholeStatement", desc := "()Z" } : Jvm.MethodName)) ∈ sm_tbl := sm_m2 101 rfl rfl
theorem wd_67 : (Jvm.Cond.methodLink "QueryTables" (92 : Nat) ({ cls := "QueryTables$Parser", name := "isAtEnd", desc := "()Z" } : Jvm.MethodName)) ∈ sm_tbl := sm_m2 211 rfl rfl
theorem wd_68 : (Jvm.Cond.methodLink "QueryTables" (95 : Nat) ({ cls := "QueryTables", name := "carryOut", desc := "()I" } : Jvm.MethodName)) ∈ sm_tbl := sm_m2 215 rfl rfl
theorem wd_69 : (Jvm.Cond.fieldLink "QueryTables" (99 : Nat) "QueryTables" "answeredRows" "I") ∈ sm_tbl := sm_m1 116 rfl rfl
theorem wd_70 : (Jvm.Cond.fieldLink "QueryTables" (102 : Nat) "QueryTables" "answeredWidth" "I") ∈ sm_tbl := sm_m1 117 rfl rfl
theorem wd_71 : (Jvm.Cond.constantLong "QueryTables" (105 : Nat) (2199023255552 : Int64)) ∈ sm_tbl := sm_m4 20 rfl rfl
theorem wd_72 : (Jvm.Cond.fieldLink "QueryTables" (107 : Nat) "QueryTables" "answeredReads" "I") ∈ sm_tbl := sm_m1 118 rfl rfl
theorem wd_73 : (Jvm.Cond.fieldLink "QueryTables" (110 : Nat) "QueryTables" "answeredPlan" "I") ∈ sm_tbl := sm_m1 119 rfl rfl
theorem wd_74 : (Jvm.Cond.methodLink "QueryTables" (113 : Nat) ({ cls := "QueryTables", name := "isTable", desc := "(I)Z" } : Jvm.MethodName)) ∈ sm_tbl := sm_m4 33 rfl rfl
theorem wd_75 : (Jvm.Cond.fieldLinkNest "QueryTables" (117 : Nat) "QueryTables$Table" "across" "I" "QueryTables") ∈ sm_tbl := sm_m0 38 rfl rfl
theorem wd_76 : (Jvm.Cond.fieldLinkNest "QueryTables" (120 : Nat) "QueryTables$Table" "down" "I" "QueryTables") ∈ sm_tbl := sm_m0 42 rfl rfl
theorem wd_77 : (Jvm.Cond.methodLink "QueryTables" (123 : Nat) ({ cls := "QueryTables$Table", name := "hasIndex", desc := "(I)Z" } : Jvm.MethodName)) ∈ sm_tbl := sm_m4 44 rfl rfl
theorem wd_78 : (Jvm.Cond.methodLink "QueryTables" (126 : Nat) ({ cls := "QueryTables$Table", name := "get", desc := "(II)J" } : Jvm.MethodName)) ∈ sm_tbl := sm_m4 49 rfl rfl
theorem wd_79 : (Jvm.Cond.methodLink "QueryTables" (130 : Nat) ({ cls := "QueryTables$Table", name := "hasColumn", desc := "(I)Z" } : Jvm.MethodName)) ∈ sm_tbl := sm_m4 54 rfl rfl
theorem wd_80 : (Jvm.Cond.methodLink "QueryTables" (133 : Nat) ({ cls := "QueryTables$Table", name := "rowsWith", desc := "(IJ)I" } : Jvm.MethodName)) ∈ sm_tbl := sm_m3 187 rfl rfl
theorem wd_81 : (Jvm.Cond.methodLink "QueryTables" (137 : Nat) ({ cls := "QueryTables$Checker", name := "fault", desc := "()I" } : Jvm.MethodName)) ∈ sm_tbl := sm_m2 219 rfl rfl
theorem wd_82 : (Jvm.Cond.fieldLinkNest "QueryTables" (140 : Nat) "QueryTables$Statement" "first" "I" "QueryTables") ∈ sm_tbl := sm_m0 77 rfl rfl
theorem wd_83 : (Jvm.Cond.methodLink "QueryTables" (143 : Nat) ({ cls := "QueryTables$Statement", name := "hasPlan", desc := "()Z" } : Jvm.MethodName)) ∈ sm_tbl := sm_m3 24 rfl rfl
theorem wd_84 : (Jvm.Cond.fieldLinkNest "QueryTables" (146 : Nat) "QueryTables$Statement" "second" "I" "QueryTables") ∈ sm_tbl := sm_m0 82 rfl rfl
theorem wd_85 : (Jvm.Cond.methodLink "QueryTables" (149 : Nat) ({ cls := "QueryTables$Pair", name := "stand", desc := "(LQueryTables$Table;LQueryTables$Table;)V" } : Jvm.MethodName)) ∈ sm_tbl := sm_m3 28 rfl rfl
theorem wd_86 : (Jvm.Cond.methodLink "QueryTables" (153 : Nat) ({ cls := "QueryTables$Search", name := "choosePlan", desc := "()V" } : Jvm.MethodName)) ∈ sm_tbl := sm_m3 32 rfl rfl
theorem wd_87 : (Jvm.Cond.methodLink "QueryTables" (156 : Nat) ({ cls := "QueryTables$Search", name := "findAll", desc := "()V" } : Jvm.MethodName)) ∈ sm_tbl := sm_m3 73 rfl rfl
theorem wd_88 : (Jvm.Cond.methodLink "QueryTables" (159 : Nat) ({ cls := "QueryTables", name := "effect", desc := "(LQueryTables$Table;)I" } : Jvm.MethodName)) ∈ sm_tbl := sm_m3 161 rfl rfl
theorem wd_89 : (Jvm.Cond.fieldLinkNest "QueryTables" (163 : Nat) "QueryTables$Search" "fetched" "I" "QueryTables") ∈ sm_tbl := sm_m1 69 rfl rfl
theorem wd_90 : (Jvm.Cond.methodLink "QueryTables" (166 : Nat) ({ cls := "QueryTables$Search", name := "planNumber", desc := "()I" } : Jvm.MethodName)) ∈ sm_tbl := sm_m3 239 rfl rfl
theorem wd_91 : (Jvm.Cond.fieldLinkNest "QueryTables" (169 : Nat) "QueryTables$Statement" "verb" "I" "QueryTables") ∈ sm_tbl := sm_m0 73 rfl rfl
theorem wd_92 : (Jvm.Cond.fieldLinkNest "QueryTables" (172 : Nat) "QueryTables$Statement" "number" "I" "QueryTables") ∈ sm_tbl := sm_m0 90 rfl rfl
theorem wd_93 : (Jvm.Cond.methodLink "QueryTables" (175 : Nat) ({ cls := "QueryTables$Table", name := "make", desc := "(I)V" } : Jvm.MethodName)) ∈ sm_tbl := sm_m3 165 rfl rfl
theorem wd_94 : (Jvm.Cond.fieldLinkNest "QueryTables" (179 : Nat) "QueryTables$Statement" "column" "I" "QueryTables") ∈ sm_tbl := sm_m0 86 rfl rfl
theorem wd_95 : (Jvm.Cond.methodLink "QueryTables" (182 : Nat) ({ cls := "QueryTables$Table", name := "addIndex", desc := "(I)V" } : Jvm.MethodName)) ∈ sm_tbl := sm_m3 169 rfl rfl
theorem wd_96 : (Jvm.Cond.methodLink "QueryTables" (185 : Nat) ({ cls := "QueryTables", name := "insert", desc := "(LQueryTables$Table;)I" } : Jvm.MethodName)) ∈ sm_tbl := sm_m3 173 rfl rfl
theorem wd_97 : (Jvm.Cond.methodLink "QueryTables" (188 : Nat) ({ cls := "QueryTables", name := "update", desc := "(LQueryTables$Table;)I" } : Jvm.MethodName)) ∈ sm_tbl := sm_m3 203 rfl rfl
theorem wd_98 : (Jvm.Cond.methodLink "QueryTables" (191 : Nat) ({ cls := "QueryTables", name := "delete", desc := "(LQueryTables$Table;)I" } : Jvm.MethodName)) ∈ sm_tbl := sm_m3 223 rfl rfl
theorem wd_99 : (Jvm.Cond.methodLink "QueryTables" (194 : Nat) ({ cls := "QueryTables", name := "select", desc := "()I" } : Jvm.MethodName)) ∈ sm_tbl := sm_m3 234 rfl rfl
theorem wd_100 : (Jvm.Cond.fieldLinkNest "QueryTables" (197 : Nat) "QueryTables$Statement" "listed" "I" "QueryTables") ∈ sm_tbl := sm_m0 94 rfl rfl
theorem wd_101 : (Jvm.Cond.methodLink "QueryTables" (200 : Nat) ({ cls := "QueryTables$Statement", name := "listFrom", desc := "(I)I" } : Jvm.MethodName)) ∈ sm_tbl := sm_m3 177 rfl rfl
theorem wd_102 : (Jvm.Cond.methodLink "QueryTables" (204 : Nat) ({ cls := "QueryTables$Statement", name := "listTo", desc := "(I)I" } : Jvm.MethodName)) ∈ sm_tbl := sm_m3 181 rfl rfl
theorem wd_103 : (Jvm.Cond.methodLink "QueryTables" (207 : Nat) ({ cls := "QueryTables$Code", name := "work", desc := "(IILQueryTables$Pair;)J" } : Jvm.MethodName)) ∈ sm_tbl := sm_m3 185 rfl rfl
theorem wd_104 : (Jvm.Cond.constantLong "QueryTables" (211 : Nat) (1099511627776 : Int64)) ∈ sm_tbl := sm_m3 186 rfl rfl
theorem wd_105 : (Jvm.Cond.methodLink "QueryTables" (213 : Nat) ({ cls := "QueryTables$Table", name := "addRow", desc := "([J)V" } : Jvm.MethodName)) ∈ sm_tbl := sm_m3 191 rfl rfl
theorem wd_106 : (Jvm.Cond.methodLink "QueryTables" (217 : Nat) ({ cls := "QueryTables$Table", name := "copyColumn", desc := "(I[J)V" } : Jvm.MethodName)) ∈ sm_tbl := sm_m3 207 rfl rfl
theorem wd_107 : (Jvm.Cond.fieldLinkNest "QueryTables" (221 : Nat) "QueryTables$Search" "found" "I" "QueryTables") ∈ sm_tbl := sm_m1 71 rfl rfl
theorem wd_108 : (Jvm.Cond.methodLink "QueryTables" (224 : Nat) ({ cls := "QueryTables$Search", name := "goTo", desc := "(I)V" } : Jvm.MethodName)) ∈ sm_tbl := sm_m3 211 rfl rfl
theorem wd_109 : (Jvm.Cond.methodLink "QueryTables" (227 : Nat) ({ cls := "QueryTables$Pair", name := "rowOf", desc := "(I)I" } : Jvm.MethodName)) ∈ sm_tbl := sm_m3 215 rfl rfl
theorem wd_110 : (Jvm.Cond.methodLink "QueryTables" (230 : Nat) ({ cls := "QueryTables", name := "areKeys", desc := "([JI)Z" } : Jvm.MethodName)) ∈ sm_tbl := sm_m3 216 rfl rfl
theorem wd_111 : (Jvm.Cond.methodLink "QueryTables" (234 : Nat) ({ cls := "QueryTables$Table", name := "putColumn", desc := "(I[J)V" } : Jvm.MethodName)) ∈ sm_tbl := sm_m3 219 rfl rfl
theorem wd_112 : (Jvm.Cond.methodLink "QueryTables" (237 : Nat) ({ cls := "QueryTables$Table", name := "removeRow", desc := "(I)V" } : Jvm.MethodName)) ∈ sm_tbl := sm_m3 227 rfl rfl
theorem wd_113 : (Jvm.Cond.fieldLinkNest "QueryTables" (240 : Nat) "QueryTables$Statement" "limit" "I" "QueryTables") ∈ sm_tbl := sm_m0 112 rfl rfl
theorem wd_114 : (Jvm.Cond.methodLink "QueryTables" (243 : Nat) ({ cls := "java/lang/Math", name := "min", desc := "(II)I" } : Jvm.MethodName)) ∈ sm_tbl := sm_m3 238 rfl rfl
theorem wd_115 : (Jvm.Cond.static ({ cls := "java/lang/Math", name := "min", desc := "(II)I" } : Jvm.MethodName)) ∈ sm_tbl := sm_m2 61 rfl rfl
theorem wd_116 : (Jvm.Cond.initialized "java/lang/Math") ∈ sm_tbl := sm_m0 16 rfl rfl
theorem wd_117 : (Jvm.Cond.code ({ cls := "java/lang/Math", name := "min", desc := "(II)I" } : Jvm.MethodName) prog_14_method_69_code (2 : Nat) (Option.some Jvm.ClassFile.FieldType.int)) ∈ sm_tbl := sm_m2 62 rfl rfl
theorem wd_118 : (Jvm.Cond.methodLink "QueryTables$Table" (3 : Nat) ({ cls := "java/lang/Object", name := "<init>", desc := "()V" } : Jvm.MethodName)) ∈ sm_tbl := sm_m0 33 rfl rfl
theorem wd_119 : (Jvm.Cond.fieldLink "QueryTables$Table" (9 : Nat) "QueryTables$Table" "cells" "[J") ∈ sm_tbl := sm_m0 34 rfl rfl
theorem wd_120 : (Jvm.Cond.arrayClass Jvm.ClassFile.FieldType.boolean) ∈ sm_tbl := sm_m0 54 rfl rfl
theorem wd_121 : (Jvm.Cond.fieldLink "QueryTables$Table" (15 : Nat) "QueryTables$Table" "indexes" "[Z") ∈ sm_tbl := sm_m0 35 rfl rfl
theorem wd_122 : (Jvm.Cond.fieldLink "QueryTables$Table" (19 : Nat) "QueryTables$Table" "across" "I") ∈ sm_tbl := sm_m0 36 rfl rfl
theorem wd_123 : (Jvm.Cond.methodLink "QueryTables$Table" (23 : Nat) ({ cls := "QueryTables$Table", name := "hasColumn", desc := "(I)Z" } : Jvm.MethodName)) ∈ sm_tbl := sm_m3 3 rfl rfl
theorem wd_124 : (Jvm.Cond.fieldLink "QueryTables$Table" (27 : Nat) "QueryTables$Table" "down" "I") ∈ sm_tbl := sm_m0 39 rfl rfl
theorem wd_125 : (Jvm.Cond.constantLong "QueryTables$Table" (30 : Nat) (2199023255552 : Int64)) ∈ sm_tbl := sm_m3 103 rfl rfl
theorem wd_126 : (Jvm.Cond.methodLink "QueryTables$Table" (32 : Nat) ({ cls := "QueryTables$Table", name := "sink", desc := "(I)V" } : Jvm.MethodName)) ∈ sm_tbl := sm_m3 195 rfl rfl
theorem wd_127 : (Jvm.Cond.methodLink "QueryTables$Table" (36 : Nat) ({ cls := "java/lang/System", name := "arraycopy", desc := "(Ljava/lang/Object;ILjava/lang/Object;II)V" } : Jvm.MethodName)) ∈ sm_tbl := sm_m3 231 rfl rfl
theorem wd_128 : (Jvm.Cond.native ({ cls := "java/lang/System", name := "arraycopy", desc := "(Ljava/lang/Object;ILjava/lang/Object;II)V" } : Jvm.MethodName)) ∈ sm_tbl := sm_m3 233 rfl rfl
theorem wd_129 : (Jvm.Cond.static ({ cls := "java/lang/System", name := "arraycopy", desc := "(Ljava/lang/Object;ILjava/lang/Object;II)V" } : Jvm.MethodName)) ∈ sm_tbl := sm_m3 232 rfl rfl
theorem wd_130 : (Jvm.Cond.initialized "java/lang/System") ∈ sm_tbl := sm_m0 18 rfl rfl
theorem wd_131 : (Jvm.Cond.methodLink "QueryTables$Table" (42 : Nat) ({ cls := "QueryTables$Table", name := "swapWithEarlier", desc := "(I)V" } : Jvm.MethodName)) ∈ sm_tbl := sm_m3 199 rfl rfl
theorem wd_132 : (Jvm.Cond.methodLink "QueryTables$Pair" (1 : Nat) ({ cls := "java/lang/Object", name := "<init>", desc := "()V" } : Jvm.MethodName)) ∈ sm_tbl := sm_m0 187 rfl rfl
theorem wd_133 : (Jvm.Cond.arrayClass Jvm.ClassFile.FieldType.int) ∈ sm_tbl := sm_m0 151 rfl rfl
theorem wd_134 : (Jvm.Cond.fieldLink "QueryTables$Pair" (7 : Nat) "QueryTables$Pair" "rows" "[I") ∈ sm_tbl := sm_m0 188 rfl rfl
theorem wd_135 : (Jvm.Cond.fieldLink "QueryTables$Pair" (13 : Nat) "QueryTables$Pair" "first" "LQueryTables$Table;") ∈ sm_tbl := sm_m0 189 rfl rfl
theorem wd_136 : (Jvm.Cond.fieldLink "QueryTables$Pair" (17 : Nat) "QueryTables$Pair" "second" "LQueryTables$Table;") ∈ sm_tbl := sm_m0 190 rfl rfl
theorem wd_137 : (Jvm.Cond.methodLink "QueryTables$Code" (3 : Nat) ({ cls := "java/lang/Object", name := "<init>", desc := "()V" } : Jvm.MethodName)) ∈ sm_tbl := sm_m0 157 rfl rfl
theorem wd_138 : (Jvm.Cond.fieldLink "QueryTables$Code" (9 : Nat) "QueryTables$Code" "steps" "[I") ∈ sm_tbl := sm_m0 158 rfl rfl
theorem wd_139 : (Jvm.Cond.fieldLink "QueryTables$Code" (15 : Nat) "QueryTables$Code" "numbers" "[I") ∈ sm_tbl := sm_m0 159 rfl rfl
theorem wd_140 : (Jvm.Cond.fieldLink "QueryTables$Code" (18 : Nat) "QueryTables$Code" "owners" "[I") ∈ sm_tbl := sm_m0 161 rfl rfl
theorem wd_141 : (Jvm.Cond.fieldLink "QueryTables$Code" (21 : Nat) "QueryTables$Code" "sides" "[I") ∈ sm_tbl := sm_m0 163 rfl rfl
theorem wd_142 : (Jvm.Cond.fieldLink "QueryTables$Code" (24 : Nat) "QueryTables$Code" "stack" "[J") ∈ sm_tbl := sm_m0 165 rfl rfl
theorem wd_143 : (Jvm.Cond.fieldLink "QueryTables$Code" (28 : Nat) "QueryTables$Code" "used" "I") ∈ sm_tbl := sm_m0 166 rfl rfl
theorem wd_144 : (Jvm.Cond.methodLink "QueryTables$Code" (32 : Nat) ({ cls := "QueryTables$Code", name := "add", desc := "(III)V" } : Jvm.MethodName)) ∈ sm_tbl := sm_m2 153 rfl rfl
theorem wd_145 : (Jvm.Cond.methodLink "QueryTables$Code" (38 : Nat) ({ cls := "QueryTables$Code", name := "isColumn", desc := "(I)Z" } : Jvm.MethodName)) ∈ sm_tbl := sm_m3 48 rfl rfl
theorem wd_146 : (Jvm.Cond.methodLink "QueryTables$Code" (42 : Nat) ({ cls := "java/lang/Math", name := "max", desc := "(II)I" } : Jvm.MethodName)) ∈ sm_tbl := sm_m3 86 rfl rfl
theorem wd_147 : (Jvm.Cond.static ({ cls := "java/lang/Math", name := "max", desc := "(II)I" } : Jvm.MethodName)) ∈ sm_tbl := sm_m2 58 rfl rfl
theorem wd_148 : (Jvm.Cond.code ({ cls := "java/lang/Math", name := "max", desc := "(II)I" } : Jvm.MethodName) prog_14_method_65_code (2 : Nat) (Option.some Jvm.ClassFile.FieldType.int)) ∈ sm_tbl := sm_m2 59 rfl rfl
theorem wd_149 : (Jvm.Cond.methodLink "QueryTables$Code" (48 : Nat) ({ cls := "QueryTables$Code", name := "operandsOf", desc := "(I)I" } : Jvm.MethodName)) ∈ sm_tbl := sm_m3 87 rfl rfl
theorem wd_150 : (Jvm.Cond.methodLink "QueryTables$Code" (52 : Nat) ({ cls := "QueryTables$Code", name := "leaf", desc := "(ILQueryTables$Pair;)J" } : Jvm.MethodName)) ∈ sm_tbl := sm_m3 90 rfl rfl
theorem wd_151 : (Jvm.Cond.methodLink "QueryTables$Code" (56 : Nat) ({ cls := "QueryTables$Code", name := "turned", desc := "(IJ)J" } : Jvm.MethodName)) ∈ sm_tbl := sm_m3 105 rfl rfl
theorem wd_152 : (Jvm.Cond.methodLink "QueryTables$Code" (60 : Nat) ({ cls := "QueryTables$Code", name := "joined", desc := "(IJJ)J" } : Jvm.MethodName)) ∈ sm_tbl := sm_m3 109 rfl rfl
theorem wd_153 : (Jvm.Cond.constantLong "QueryTables$Code" (64 : Nat) (1099511627776 : Int64)) ∈ sm_tbl := sm_m3 104 rfl rfl
theorem wd_154 : (Jvm.Cond.methodLink "QueryTables$Code" (66 : Nat) ({ cls := "QueryTables$Pair", name := "tableOf", desc := "(I)LQueryTables$Table;" } : Jvm.MethodName)) ∈ sm_tbl := sm_m3 94 rfl rfl
theorem wd_155 : (Jvm.Cond.methodLink "QueryTables$Code" (72 : Nat) ({ cls := "QueryTables$Pair", name := "rowOf", desc := "(I)I" } : Jvm.MethodName)) ∈ sm_tbl := sm_m3 95 rfl rfl
theorem wd_156 : (Jvm.Cond.methodLink "QueryTables$Code" (75 : Nat) ({ cls := "QueryTables$Table", name := "get", desc := "(II)J" } : Jvm.MethodName)) ∈ sm_tbl := sm_m3 99 rfl rfl
theorem wd_157 : (Jvm.Cond.constantLong "QueryTables$Code" (81 : Nat) (2 : Int64)) ∈ sm_tbl := sm_m3 108 rfl rfl
theorem wd_158 : (Jvm.Cond.methodLink "QueryTables$Code" (83 : Nat) ({ cls := "java/lang/Math", name := "min", desc := "(JJ)J" } : Jvm.MethodName)) ∈ sm_tbl := sm_m3 112 rfl rfl
theorem wd_159 : (Jvm.Cond.static ({ cls := "java/lang/Math", name := "min", desc := "(JJ)J" } : Jvm.MethodName)) ∈ sm_tbl := sm_m3 113 rfl rfl
theorem wd_160 : (Jvm.Cond.code ({ cls := "java/lang/Math", name := "min", desc := "(JJ)J" } : Jvm.MethodName) prog_14_method_70_code (4 : Nat) (Option.some Jvm.ClassFile.FieldType.long)) ∈ sm_tbl := sm_m3 114 rfl rfl
theorem wd_161 : (Jvm.Cond.methodLink "QueryTables$Code" (87 : Nat) ({ cls := "java/lang/Math", name := "max", desc := "(JJ)J" } : Jvm.MethodName)) ∈ sm_tbl := sm_m3 115 rfl rfl
theorem wd_162 : (Jvm.Cond.static ({ cls := "java/lang/Math", name := "max", desc := "(JJ)J" } : Jvm.MethodName)) ∈ sm_tbl := sm_m3 116 rfl rfl
theorem wd_163 : (Jvm.Cond.code ({ cls := "java/lang/Math", name := "max", desc := "(JJ)J" } : Jvm.MethodName) prog_14_method_66_code (4 : Nat) (Option.some Jvm.ClassFile.FieldType.long)) ∈ sm_tbl := sm_m3 117 rfl rfl
theorem wd_164 : (Jvm.Cond.methodLink "QueryTables$Code" (89 : Nat) ({ cls := "QueryTables$Code", name := "compared", desc := "(IJJ)J" } : Jvm.MethodName)) ∈ sm_tbl := sm_m3 118 rfl rfl
theorem wd_165 : (Jvm.Cond.methodLink "QueryTables$Code" (92 : Nat) ({ cls := "QueryTables$Code", name := "reckoned", desc := "(III)J" } : Jvm.MethodName)) ∈ sm_tbl := sm_m3 121 rfl rfl
theorem wd_166 : (Jvm.Cond.methodLink "QueryTables$Statement" (3 : Nat) ({ cls := "java/lang/Object", name := "<init>", desc := "()V" } : Jvm.MethodName)) ∈ sm_tbl := sm_m0 60 rfl rfl
theorem wd_167 : (Jvm.Cond.fieldLink "QueryTables$Statement" (9 : Nat) "QueryTables$Statement" "listEnds" "[I") ∈ sm_tbl := sm_m0 61 rfl rfl
theorem wd_168 : (Jvm.Cond.fieldLink "QueryTables$Statement" (15 : Nat) "QueryTables$Statement" "partFrom" "[I") ∈ sm_tbl := sm_m0 62 rfl rfl
theorem wd_169 : (Jvm.Cond.fieldLink "QueryTables$Statement" (18 : Nat) "QueryTables$Statement" "partMiddle" "[I") ∈ sm_tbl := sm_m0 65 rfl rfl
theorem wd_170 : (Jvm.Cond.fieldLink "QueryTables$Statement" (21 : Nat) "QueryTables$Statement" "partTo" "[I") ∈ sm_tbl := sm_m0 67 rfl rfl
theorem wd_171 : (Jvm.Cond.fieldLink "QueryTables$Statement" (26 : Nat) "QueryTables$Statement" "verb" "I") ∈ sm_tbl := sm_m0 70 rfl rfl
theorem wd_172 : (Jvm.Cond.fieldLink "QueryTables$Statement" (30 : Nat) "QueryTables$Statement" "first" "I") ∈ sm_tbl := sm_m0 74 rfl rfl
theorem wd_173 : (Jvm.Cond.fieldLink "QueryTables$Statement" (33 : Nat) "QueryTables$Statement" "second" "I") ∈ sm_tbl := sm_m0 78 rfl rfl
theorem wd_174 : (Jvm.Cond.fieldLink "QueryTables$Statement" (36 : Nat) "QueryTables$Statement" "column" "I") ∈ sm_tbl := sm_m0 83 rfl rfl
theorem wd_175 : (Jvm.Cond.fieldLink "QueryTables$Statement" (39 : Nat) "QueryTables$Statement" "number" "I") ∈ sm_tbl := sm_m0 87 rfl rfl
theorem wd_176 : (Jvm.Cond.fieldLink "QueryTables$Statement" (42 : Nat) "QueryTables$Statement" "listed" "I") ∈ sm_tbl := sm_m0 91 rfl rfl
theorem wd_177 : (Jvm.Cond.fieldLink "QueryTables$Statement" (45 : Nat) "QueryTables$Statement" "whereFrom" "I") ∈ sm_tbl := sm_m0 95 rfl rfl
theorem wd_178 : (Jvm.Cond.fieldLink "QueryTables$Statement" (48 : Nat) "QueryTables$Statement" "whereTo" "I") ∈ sm_tbl := sm_m0 98 rfl rfl
theorem wd_179 : (Jvm.Cond.fieldLink "QueryTables$Statement" (51 : Nat) "QueryTables$Statement" "orderFrom" "I") ∈ sm_tbl := sm_m0 101 rfl rfl
theorem wd_180 : (Jvm.Cond.fieldLink "QueryTables$Statement" (54 : Nat) "QueryTables$Statement" "orderTo" "I") ∈ sm_tbl := sm_m0 104 rfl rfl
theorem wd_181 : (Jvm.Cond.fieldLink "QueryTables$Statement" (57 : Nat) "QueryTables$Statement" "descending" "Z") ∈ sm_tbl := sm_m0 107 rfl rfl
theorem wd_182 : (Jvm.Cond.constant "QueryTables$Statement" (63 : Nat) (2147483647 : Int32)) ∈ sm_tbl := sm_m1 175 rfl rfl
theorem wd_183 : (Jvm.Cond.fieldLink "QueryTables$Statement" (64 : Nat) "QueryTables$Statement" "limit" "I") ∈ sm_tbl := sm_m0 110 rfl rfl
theorem wd_184 : (Jvm.Cond.fieldLink "QueryTables$Statement" (67 : Nat) "QueryTables$Statement" "parts" "I") ∈ sm_tbl := sm_m0 114 rfl rfl
theorem wd_185 : (Jvm.Cond.methodLink "QueryTables$Statement" (70 : Nat) ({ cls := "QueryTables$Statement", name := "addPart", desc := "(III)V" } : Jvm.MethodName)) ∈ sm_tbl := sm_m2 198 rfl rfl
theorem wd_186 : (Jvm.Cond.methodLink "QueryTables$Tokens" (3 : Nat) ({ cls := "java/lang/Object", name := "<init>", desc := "()V" } : Jvm.MethodName)) ∈ sm_tbl := sm_m0 209 rfl rfl
theorem wd_187 : (Jvm.Cond.fieldLink "QueryTables$Tokens" (9 : Nat) "QueryTables$Tokens" "kinds" "[I") ∈ sm_tbl := sm_m0 210 rfl rfl
theorem wd_188 : (Jvm.Cond.fieldLink "QueryTables$Tokens" (15 : Nat) "QueryTables$Tokens" "numbers" "[I") ∈ sm_tbl := sm_m0 211 rfl rfl
theorem wd_189 : (Jvm.Cond.fieldLink "QueryTables$Tokens" (18 : Nat) "QueryTables$Tokens" "amount" "I") ∈ sm_tbl := sm_m0 212 rfl rfl
theorem wd_190 : (Jvm.Cond.fieldLink "QueryTables$Tokens" (22 : Nat) "QueryTables$Tokens" "at" "I") ∈ sm_tbl := sm_m0 213 rfl rfl
theorem wd_191 : (Jvm.Cond.methodLink "QueryTables$Tokens" (25 : Nat) ({ cls := "QueryTables$Tokens", name := "goesOn", desc := "([CI)Z" } : Jvm.MethodName)) ∈ sm_tbl := sm_m1 184 rfl rfl
theorem wd_192 : (Jvm.Cond.methodLink "QueryTables$Tokens" (29 : Nat) ({ cls := "QueryTables$Tokens", name := "addToken", desc := "([CII)Z" } : Jvm.MethodName)) ∈ sm_tbl := sm_m1 193 rfl rfl
theorem wd_193 : (Jvm.Cond.methodLink "QueryTables$Tokens" (33 : Nat) ({ cls := "QueryTables$Tokens", name := "isLetter", desc := "(C)Z" } : Jvm.MethodName)) ∈ sm_tbl := sm_m1 187 rfl rfl
theorem wd_194 : (Jvm.Cond.methodLink "QueryTables$Tokens" (37 : Nat) ({ cls := "QueryTables$Tokens", name := "isDigit", desc := "(C)Z" } : Jvm.MethodName)) ∈ sm_tbl := sm_m1 190 rfl rfl
theorem wd_195 : (Jvm.Cond.methodLink "QueryTables$Tokens" (40 : Nat) ({ cls := "QueryTables$Tokens", name := "addWord", desc := "([CII)Z" } : Jvm.MethodName)) ∈ sm_tbl := sm_m1 197 rfl rfl
theorem wd_196 : (Jvm.Cond.methodLink "QueryTables$Tokens" (43 : Nat) ({ cls := "QueryTables$Tokens", name := "addNumber", desc := "([CII)Z" } : Jvm.MethodName)) ∈ sm_tbl := sm_m2 37 rfl rfl
theorem wd_197 : (Jvm.Cond.methodLink "QueryTables$Tokens" (46 : Nat) ({ cls := "QueryTables$Tokens", name := "keep", desc := "(II)Z" } : Jvm.MethodName)) ∈ sm_tbl := sm_m1 201 rfl rfl
theorem wd_198 : (Jvm.Cond.methodLink "QueryTables$Tokens" (52 : Nat) ({ cls := "java/lang/String", name := "indexOf", desc := "(I)I" } : Jvm.MethodName)) ∈ sm_tbl := sm_m2 42 rfl rfl
theorem wd_199 : (Jvm.Cond.methodLink "QueryTables$Tokens" (58 : Nat) ({ cls := "QueryTables$Tokens", name := "verbKind", desc := "([CII)I" } : Jvm.MethodName)) ∈ sm_tbl := sm_m1 205 rfl rfl
theorem wd_200 : (Jvm.Cond.methodLink "QueryTables$Tokens" (62 : Nat) ({ cls := "QueryTables$Tokens", name := "innerWordKind", desc := "([CII)I" } : Jvm.MethodName)) ∈ sm_tbl := sm_m2 25 rfl rfl
theorem wd_201 : (Jvm.Cond.methodLink "QueryTables$Tokens" (67 : Nat) ({ cls := "QueryTables$Tokens", name := "spells", desc := "([CIILjava/lang/String;)Z" } : Jvm.MethodName)) ∈ sm_tbl := sm_m1 209 rfl rfl
theorem wd_202 : (Jvm.Cond.methodLink "QueryTables$Tokens" (99 : Nat) ({ cls := "java/lang/String", name := "length", desc := "()I" } : Jvm.MethodName)) ∈ sm_tbl := sm_m1 212 rfl rfl
theorem wd_203 : (Jvm.Cond.methodLink "QueryTables$Tokens" (103 : Nat) ({ cls := "java/lang/String", name := "charAt", desc := "(I)C" } : Jvm.MethodName)) ∈ sm_tbl := sm_m1 222 rfl rfl
theorem wd_204 : (Jvm.Cond.methodLink "QueryTables$Parser" (3 : Nat) ({ cls := "java/lang/Object", name := "<init>", desc := "()V" } : Jvm.MethodName)) ∈ sm_tbl := sm_m0 203 rfl rfl
theorem wd_205 : (Jvm.Cond.classLink "QueryTables$Parser" (9 : Nat) "QueryTables$Tokens") ∈ sm_tbl := sm_m0 204 rfl rfl
theorem wd_206 : (Jvm.Cond.methodLinkNest "QueryTables$Parser" (11 : Nat) ({ cls := "QueryTables$Tokens", name := "<init>", desc := "()V" } : Jvm.MethodName) "QueryTables") ∈ sm_tbl := sm_m0 206 rfl rfl
theorem wd_207 : (Jvm.Cond.fieldLink "QueryTables$Parser" (12 : Nat) "QueryTables$Parser" "tokens" "LQueryTables$Tokens;") ∈ sm_tbl := sm_m0 223 rfl rfl
theorem wd_208 : (Jvm.Cond.fieldLink "QueryTables$Parser" (18 : Nat) "QueryTables$Parser" "middle" "I") ∈ sm_tbl := sm_m0 226 rfl rfl
theorem wd_209 : (Jvm.Cond.fieldLink "QueryTables$Parser" (22 : Nat) "QueryTables$Parser" "statement" "LQueryTables$Statement;") ∈ sm_tbl := sm_m0 224 rfl rfl
theorem wd_210 : (Jvm.Cond.fieldLink "QueryTables$Parser" (26 : Nat) "QueryTables$Parser" "code" "LQueryTables$Code;") ∈ sm_tbl := sm_m0 225 rfl rfl
theorem wd_211 : (Jvm.Cond.methodLink "QueryTables$Parser" (30 : Nat) ({ cls := "QueryTables$Statement", name := "clear", desc := "()V" } : Jvm.MethodName)) ∈ sm_tbl := sm_m1 171 rfl rfl
theorem wd_212 : (Jvm.Cond.methodLink "QueryTables$Parser" (35 : Nat) ({ cls := "QueryTables$Code", name := "clear", desc := "()V" } : Jvm.MethodName)) ∈ sm_tbl := sm_m1 176 rfl rfl
theorem wd_213 : (Jvm.Cond.methodLink "QueryTables$Parser" (38 : Nat) ({ cls := "QueryTables$Tokens", name := "split", desc := "([CI)Z" } : Jvm.MethodName)) ∈ sm_tbl := sm_m1 180 rfl rfl
theorem wd_214 : (Jvm.Cond.methodLink "QueryTables$Parser" (42 : Nat) ({ cls := "QueryTables$Tokens", name := "next", desc := "()I" } : Jvm.MethodName)) ∈ sm_tbl := sm_m2 105 rfl rfl
theorem wd_215 : (Jvm.Cond.fieldLinkNest "QueryTables$Parser" (46 : Nat) "QueryTables$Statement" "verb" "I" "QueryTables") ∈ sm_tbl := sm_m0 72 rfl rfl
theorem wd_216 : (Jvm.Cond.methodLink "QueryTables$Parser" (49 : Nat) ({ cls := "QueryTables$Tokens", name := "accept", desc := "(I)Z" } : Jvm.MethodName)) ∈ sm_tbl := sm_m2 109 rfl rfl
theorem wd_217 : (Jvm.Cond.methodLink "QueryTables$Parser" (53 : Nat) ({ cls := "QueryTables$Parser", name := "firstTable", desc := "()Z" } : Jvm.MethodName)) ∈ sm_tbl := sm_m2 113 rfl rfl
theorem wd_218 : (Jvm.Cond.methodLink "QueryTables$Parser" (57 : Nat) ({ cls := "QueryTables$Parser", name := "number", desc := "()Z" } : Jvm.MethodName)) ∈ sm_tbl := sm_m2 121 rfl rfl
theorem wd_219 : (Jvm.Cond.methodLink "QueryTables$Parser" (60 : Nat) ({ cls := "QueryTables$Parser", name := "column", desc := "()Z" } : Jvm.MethodName)) ∈ sm_tbl := sm_m2 125 rfl rfl
theorem wd_220 : (Jvm.Cond.methodLink "QueryTables$Parser" (63 : Nat) ({ cls := "QueryTables$Parser", name := "list", desc := "()Z" } : Jvm.MethodName)) ∈ sm_tbl := sm_m2 129 rfl rfl
theorem wd_221 : (Jvm.Cond.methodLink "QueryTables$Parser" (66 : Nat) ({ cls := "QueryTables$Parser", name := "listed", desc := "()Z" } : Jvm.MethodName)) ∈ sm_tbl := sm_m2 133 rfl rfl
theorem wd_222 : (Jvm.Cond.methodLink "QueryTables$Parser" (69 : Nat) ({ cls := "QueryTables$Parser", name := "where", desc := "()Z" } : Jvm.MethodName)) ∈ sm_tbl := sm_m2 166 rfl rfl
theorem wd_223 : (Jvm.Cond.fieldLinkNest "QueryTables$Parser" (72 : Nat) "QueryTables$Statement" "listed" "I" "QueryTables") ∈ sm_tbl := sm_m0 92 rfl rfl
theorem wd_224 : (Jvm.Cond.methodLink "QueryTables$Parser" (74 : Nat) ({ cls := "QueryTables$Parser", name := "secondTable", desc := "()Z" } : Jvm.MethodName)) ∈ sm_tbl := sm_m2 199 rfl rfl
theorem wd_225 : (Jvm.Cond.methodLink "QueryTables$Parser" (77 : Nat) ({ cls := "QueryTables$Parser", name := "order", desc := "()Z" } : Jvm.MethodName)) ∈ sm_tbl := sm_m2 203 rfl rfl
theorem wd_226 : (Jvm.Cond.methodLink "QueryTables$Parser" (80 : Nat) ({ cls := "QueryTables$Parser", name := "limit", desc := "()Z" } : Jvm.MethodName)) ∈ sm_tbl := sm_m2 207 rfl rfl
theorem wd_227 : (Jvm.Cond.methodLink "QueryTables$Parser" (83 : Nat) ({ cls := "QueryTables$Tokens", name := "taken", desc := "()I" } : Jvm.MethodName)) ∈ sm_tbl := sm_m2 117 rfl rfl
theorem wd_228 : (Jvm.Cond.fieldLinkNest "QueryTables$Parser" (86 : Nat) "QueryTables$Statement" "first" "I" "QueryTables") ∈ sm_tbl := sm_m0 76 rfl rfl
theorem wd_229 : (Jvm.Cond.fieldLinkNest "QueryTables$Parser" (89 : Nat) "QueryTables$Statement" "second" "I" "QueryTables") ∈ sm_tbl := sm_m0 81 rfl rfl
theorem wd_230 : (Jvm.Cond.fieldLinkNest "QueryTables$Parser" (92 : Nat) "QueryTables$Statement" "number" "I" "QueryTables") ∈ sm_tbl := sm_m0 88 rfl rfl
theorem wd_231 : (Jvm.Cond.fieldLinkNest "QueryTables$Parser" (94 : Nat) "QueryTables$Statement" "column" "I" "QueryTables") ∈ sm_tbl := sm_m0 85 rfl rfl
theorem wd_232 : (Jvm.Cond.methodLink "QueryTables$Parser" (96 : Nat) ({ cls := "QueryTables$Parser", name := "expression", desc := "(I)Z" } : Jvm.MethodName)) ∈ sm_tbl := sm_m2 137 rfl rfl
theorem wd_233 : (Jvm.Cond.fieldLinkNest "QueryTables$Parser" (99 : Nat) "QueryTables$Code" "used" "I" "QueryTables") ∈ sm_tbl := sm_m0 168 rfl rfl
theorem wd_234 : (Jvm.Cond.methodLink "QueryTables$Parser" (102 : Nat) ({ cls := "QueryTables$Statement", name := "addListed", desc := "(I)V" } : Jvm.MethodName)) ∈ sm_tbl := sm_m2 162 rfl rfl
theorem wd_235 : (Jvm.Cond.fieldLinkNest "QueryTables$Parser" (106 : Nat) "QueryTables$Statement" "whereFrom" "I" "QueryTables") ∈ sm_tbl := sm_m0 97 rfl rfl
theorem wd_236 : (Jvm.Cond.methodLink "QueryTables$Parser" (109 : Nat) ({ cls := "QueryTables$Parser", name := "condition", desc := "(I)Z" } : Jvm.MethodName)) ∈ sm_tbl := sm_m2 170 rfl rfl
theorem wd_237 : (Jvm.Cond.fieldLinkNest "QueryTables$Parser" (112 : Nat) "QueryTables$Statement" "whereTo" "I" "QueryTables") ∈ sm_tbl := sm_m0 100 rfl rfl
theorem wd_238 : (Jvm.Cond.fieldLinkNest "QueryTables$Parser" (115 : Nat) "QueryTables$Statement" "orderFrom" "I" "QueryTables") ∈ sm_tbl := sm_m0 103 rfl rfl
theorem wd_239 : (Jvm.Cond.fieldLinkNest "QueryTables$Parser" (118 : Nat) "QueryTables$Statement" "orderTo" "I" "QueryTables") ∈ sm_tbl := sm_m0 106 rfl rfl
theorem wd_240 : (Jvm.Cond.fieldLinkNest "QueryTables$Parser" (121 : Nat) "QueryTables$Statement" "descending" "Z" "QueryTables") ∈ sm_tbl := sm_m0 109 rfl rfl
theorem wd_241 : (Jvm.Cond.fieldLinkNest "QueryTables$Parser" (125 : Nat) "QueryTables$Statement" "limit" "I" "QueryTables") ∈ sm_tbl := sm_m0 111 rfl rfl
theorem wd_242 : (Jvm.Cond.methodLink "QueryTables$Parser" (127 : Nat) ({ cls := "QueryTables$Parser", name := "product", desc := "(I)Z" } : Jvm.MethodName)) ∈ sm_tbl := sm_m2 141 rfl rfl
theorem wd_243 : (Jvm.Cond.methodLink "QueryTables$Parser" (130 : Nat) ({ cls := "QueryTables$Code", name := "addOperator", desc := "(I)V" } : Jvm.MethodName)) ∈ sm_tbl := sm_m2 149 rfl rfl
theorem wd_244 : (Jvm.Cond.methodLink "QueryTables$Parser" (133 : Nat) ({ cls := "QueryTables$Parser", name := "factor", desc := "(I)Z" } : Jvm.MethodName)) ∈ sm_tbl := sm_m2 145 rfl rfl
theorem wd_245 : (Jvm.Cond.methodLink "QueryTables$Parser" (136 : Nat) ({ cls := "QueryTables$Code", name := "add", desc := "(III)V" } : Jvm.MethodName)) ∈ sm_tbl := sm_m2 157 rfl rfl
theorem wd_246 : (Jvm.Cond.methodLink "QueryTables$Parser" (140 : Nat) ({ cls := "QueryTables$Parser", name := "columnOfTable", desc := "()Z" } : Jvm.MethodName)) ∈ sm_tbl := sm_m2 158 rfl rfl
theorem wd_247 : (Jvm.Cond.methodLink "QueryTables$Parser" (143 : Nat) ({ cls := "QueryTables$Parser", name := "conjunction", desc := "(I)Z" } : Jvm.MethodName)) ∈ sm_tbl := sm_m2 174 rfl rfl
theorem wd_248 : (Jvm.Cond.methodLink "QueryTables$Parser" (146 : Nat) ({ cls := "QueryTables$Statement", name := "setOnlyPart", desc := "(II)V" } : Jvm.MethodName)) ∈ sm_tbl := sm_m2 194 rfl rfl
theorem wd_249 : (Jvm.Cond.methodLink "QueryTables$Parser" (150 : Nat) ({ cls := "QueryTables$Parser", name := "part", desc := "(I)Z" } : Jvm.MethodName)) ∈ sm_tbl := sm_m2 178 rfl rfl
theorem wd_250 : (Jvm.Cond.methodLink "QueryTables$Parser" (153 : Nat) ({ cls := "QueryTables$Parser", name := "negatable", desc := "(I)Z" } : Jvm.MethodName)) ∈ sm_tbl := sm_m2 182 rfl rfl
theorem wd_251 : (Jvm.Cond.methodLink "QueryTables$Parser" (156 : Nat) ({ cls := "QueryTables$Statement", name := "addPart", desc := "(III)V" } : Jvm.MethodName)) ∈ sm_tbl := sm_m2 190 rfl rfl
theorem wd_252 : (Jvm.Cond.methodLink "QueryTables$Parser" (159 : Nat) ({ cls := "QueryTables$Parser", name := "comparison", desc := "(I)Z" } : Jvm.MethodName)) ∈ sm_tbl := sm_m2 186 rfl rfl
theorem wd_253 : (Jvm.Cond.methodLink "QueryTables$Checker" (3 : Nat) ({ cls := "java/lang/Object", name := "<init>", desc := "()V" } : Jvm.MethodName)) ∈ sm_tbl := sm_m1 1 rfl rfl
theorem wd_254 : (Jvm.Cond.fieldLink "QueryTables$Checker" (9 : Nat) "QueryTables$Checker" "tables" "[LQueryTables$Table;") ∈ sm_tbl := sm_m1 2 rfl rfl
theorem wd_255 : (Jvm.Cond.fieldLink "QueryTables$Checker" (15 : Nat) "QueryTables$Checker" "statement" "LQueryTables$Statement;") ∈ sm_tbl := sm_m1 3 rfl rfl
theorem wd_256 : (Jvm.Cond.fieldLink "QueryTables$Checker" (19 : Nat) "QueryTables$Checker" "code" "LQueryTables$Code;") ∈ sm_tbl := sm_m1 4 rfl rfl
theorem wd_257 : (Jvm.Cond.methodLink "QueryTables$Checker" (23 : Nat) ({ cls := "QueryTables$Checker", name := "tablesFit", desc := "()Z" } : Jvm.MethodName)) ∈ sm_tbl := sm_m2 223 rfl rfl
theorem wd_258 : (Jvm.Cond.methodLink "QueryTables$Checker" (27 : Nat) ({ cls := "QueryTables$Checker", name := "columnFits", desc := "()Z" } : Jvm.MethodName)) ∈ sm_tbl := sm_m2 231 rfl rfl
theorem wd_259 : (Jvm.Cond.methodLink "QueryTables$Checker" (30 : Nat) ({ cls := "QueryTables$Checker", name := "findSides", desc := "()Z" } : Jvm.MethodName)) ∈ sm_tbl := sm_m3 4 rfl rfl
theorem wd_260 : (Jvm.Cond.methodLink "QueryTables$Checker" (33 : Nat) ({ cls := "QueryTables$Checker", name := "numbersFit", desc := "()Z" } : Jvm.MethodName)) ∈ sm_tbl := sm_m3 20 rfl rfl
theorem wd_261 : (Jvm.Cond.fieldLinkNest "QueryTables$Checker" (36 : Nat) "QueryTables$Statement" "first" "I" "QueryTables") ∈ sm_tbl := sm_m0 75 rfl rfl
theorem wd_262 : (Jvm.Cond.methodLink "QueryTables$Checker" (42 : Nat) ({ cls := "QueryTables$Table", name := "isThere", desc := "()Z" } : Jvm.MethodName)) ∈ sm_tbl := sm_m2 227 rfl rfl
theorem wd_263 : (Jvm.Cond.fieldLinkNest "QueryTables$Checker" (47 : Nat) "QueryTables$Statement" "verb" "I" "QueryTables") ∈ sm_tbl := sm_m0 71 rfl rfl
theorem wd_264 : (Jvm.Cond.fieldLinkNest "QueryTables$Checker" (52 : Nat) "QueryTables$Statement" "second" "I" "QueryTables") ∈ sm_tbl := sm_m0 79 rfl rfl
theorem wd_265 : (Jvm.Cond.fieldLinkNest "QueryTables$Checker" (55 : Nat) "QueryTables$Statement" "column" "I" "QueryTables") ∈ sm_tbl := sm_m0 84 rfl rfl
theorem wd_266 : (Jvm.Cond.methodLink "QueryTables$Checker" (58 : Nat) ({ cls := "QueryTables$Table", name := "hasColumn", desc := "(I)Z" } : Jvm.MethodName)) ∈ sm_tbl := sm_m2 235 rfl rfl
theorem wd_267 : (Jvm.Cond.methodLink "QueryTables$Checker" (62 : Nat) ({ cls := "QueryTables$Table", name := "hasIndex", desc := "(I)Z" } : Jvm.MethodName)) ∈ sm_tbl := sm_m2 239 rfl rfl
theorem wd_268 : (Jvm.Cond.fieldLinkNest "QueryTables$Checker" (65 : Nat) "QueryTables$Code" "used" "I" "QueryTables") ∈ sm_tbl := sm_m0 167 rfl rfl
theorem wd_269 : (Jvm.Cond.methodLink "QueryTables$Checker" (70 : Nat) ({ cls := "QueryTables$Code", name := "isColumn", desc := "(I)Z" } : Jvm.MethodName)) ∈ sm_tbl := sm_m3 8 rfl rfl
theorem wd_270 : (Jvm.Cond.fieldLinkNest "QueryTables$Checker" (73 : Nat) "QueryTables$Code" "owners" "[I" "QueryTables") ∈ sm_tbl := sm_m0 162 rfl rfl
theorem wd_271 : (Jvm.Cond.fieldLinkNest "QueryTables$Checker" (77 : Nat) "QueryTables$Code" "numbers" "[I" "QueryTables") ∈ sm_tbl := sm_m0 160 rfl rfl
theorem wd_272 : (Jvm.Cond.methodLink "QueryTables$Checker" (80 : Nat) ({ cls := "QueryTables$Checker", name := "sideOf", desc := "(II)I" } : Jvm.MethodName)) ∈ sm_tbl := sm_m3 12 rfl rfl
theorem wd_273 : (Jvm.Cond.fieldLinkNest "QueryTables$Checker" (84 : Nat) "QueryTables$Code" "sides" "[I" "QueryTables") ∈ sm_tbl := sm_m0 164 rfl rfl
theorem wd_274 : (Jvm.Cond.methodLink "QueryTables$Checker" (87 : Nat) ({ cls := "QueryTables$Checker", name := "fits", desc := "(III)Z" } : Jvm.MethodName)) ∈ sm_tbl := sm_m3 16 rfl rfl
theorem wd_275 : (Jvm.Cond.fieldLinkNest "QueryTables$Checker" (91 : Nat) "QueryTables$Statement" "number" "I" "QueryTables") ∈ sm_tbl := sm_m0 89 rfl rfl
theorem wd_276 : (Jvm.Cond.fieldLinkNest "QueryTables$Checker" (94 : Nat) "QueryTables$Statement" "listed" "I" "QueryTables") ∈ sm_tbl := sm_m0 93 rfl rfl
theorem wd_277 : (Jvm.Cond.fieldLinkNest "QueryTables$Checker" (97 : Nat) "QueryTables$Table" "across" "I" "QueryTables") ∈ sm_tbl := sm_m0 37 rfl rfl
theorem wd_278 : (Jvm.Cond.methodLink "QueryTables$Access" (3 : Nat) ({ cls := "java/lang/Object", name := "<init>", desc := "()V" } : Jvm.MethodName)) ∈ sm_tbl := sm_m1 23 rfl rfl
theorem wd_279 : (Jvm.Cond.fieldLink "QueryTables$Access" (11 : Nat) "QueryTables$Access" "kind" "I") ∈ sm_tbl := sm_m1 29 rfl rfl
theorem wd_280 : (Jvm.Cond.fieldLink "QueryTables$Access" (15 : Nat) "QueryTables$Access" "statement" "LQueryTables$Statement;") ∈ sm_tbl := sm_m1 24 rfl rfl
theorem wd_281 : (Jvm.Cond.fieldLink "QueryTables$Access" (19 : Nat) "QueryTables$Access" "code" "LQueryTables$Code;") ∈ sm_tbl := sm_m1 25 rfl rfl
theorem wd_282 : (Jvm.Cond.fieldLink "QueryTables$Access" (23 : Nat) "QueryTables$Access" "side" "I") ∈ sm_tbl := sm_m1 26 rfl rfl
theorem wd_283 : (Jvm.Cond.fieldLink "QueryTables$Access" (26 : Nat) "QueryTables$Access" "before" "I") ∈ sm_tbl := sm_m1 28 rfl rfl
theorem wd_284 : (Jvm.Cond.fieldLinkNest "QueryTables$Access" (29 : Nat) "QueryTables$Statement" "parts" "I" "QueryTables") ∈ sm_tbl := sm_m0 113 rfl rfl
theorem wd_285 : (Jvm.Cond.fieldLinkNest "QueryTables$Access" (34 : Nat) "QueryTables$Statement" "partMiddle" "[I" "QueryTables") ∈ sm_tbl := sm_m0 66 rfl rfl
theorem wd_286 : (Jvm.Cond.fieldLinkNest "QueryTables$Access" (38 : Nat) "QueryTables$Statement" "partFrom" "[I" "QueryTables") ∈ sm_tbl := sm_m0 63 rfl rfl
theorem wd_287 : (Jvm.Cond.fieldLinkNest "QueryTables$Access" (41 : Nat) "QueryTables$Statement" "partTo" "[I" "QueryTables") ∈ sm_tbl := sm_m0 68 rfl rfl
theorem wd_288 : (Jvm.Cond.methodLink "QueryTables$Access" (44 : Nat) ({ cls := "QueryTables$Code", name := "loneColumn", desc := "(III)I" } : Jvm.MethodName)) ∈ sm_tbl := sm_m3 44 rfl rfl
theorem wd_289 : (Jvm.Cond.methodLink "QueryTables$Access" (50 : Nat) ({ cls := "QueryTables$Access", name := "consider", desc := "(LQueryTables$Table;III)V" } : Jvm.MethodName)) ∈ sm_tbl := sm_m3 49 rfl rfl
theorem wd_290 : (Jvm.Cond.methodLink "QueryTables$Access" (54 : Nat) ({ cls := "QueryTables$Code", name := "sidesIn", desc := "(II)I" } : Jvm.MethodName)) ∈ sm_tbl := sm_m3 53 rfl rfl
theorem wd_291 : (Jvm.Cond.methodLink "QueryTables$Access" (58 : Nat) ({ cls := "QueryTables$Access", name := "take", desc := "(IIII)V" } : Jvm.MethodName)) ∈ sm_tbl := sm_m3 57 rfl rfl
theorem wd_292 : (Jvm.Cond.methodLink "QueryTables$Access" (62 : Nat) ({ cls := "QueryTables$Table", name := "hasIndex", desc := "(I)Z" } : Jvm.MethodName)) ∈ sm_tbl := sm_m3 61 rfl rfl
theorem wd_293 : (Jvm.Cond.fieldLink "QueryTables$Access" (68 : Nat) "QueryTables$Access" "column" "I") ∈ sm_tbl := sm_m1 31 rfl rfl
theorem wd_294 : (Jvm.Cond.fieldLink "QueryTables$Access" (71 : Nat) "QueryTables$Access" "from" "I") ∈ sm_tbl := sm_m1 33 rfl rfl
theorem wd_295 : (Jvm.Cond.fieldLink "QueryTables$Access" (74 : Nat) "QueryTables$Access" "to" "I") ∈ sm_tbl := sm_m1 35 rfl rfl
theorem wd_296 : (Jvm.Cond.fieldLinkNest "QueryTables$Access" (77 : Nat) "QueryTables$Table" "down" "I" "QueryTables") ∈ sm_tbl := sm_m0 40 rfl rfl
theorem wd_297 : (Jvm.Cond.methodLink "QueryTables$Search" (3 : Nat) ({ cls := "java/lang/Object", name := "<init>", desc := "()V" } : Jvm.MethodName)) ∈ sm_tbl := sm_m1 17 rfl rfl
theorem wd_298 : (Jvm.Cond.fieldLink "QueryTables$Search" (9 : Nat) "QueryTables$Search" "outerRows" "[I") ∈ sm_tbl := sm_m1 61 rfl rfl
theorem wd_299 : (Jvm.Cond.fieldLink "QueryTables$Search" (15 : Nat) "QueryTables$Search" "innerRows" "[I") ∈ sm_tbl := sm_m1 62 rfl rfl
theorem wd_300 : (Jvm.Cond.fieldLink "QueryTables$Search" (18 : Nat) "QueryTables$Search" "ranks" "[J") ∈ sm_tbl := sm_m1 63 rfl rfl
theorem wd_301 : (Jvm.Cond.fieldLink "QueryTables$Search" (22 : Nat) "QueryTables$Search" "firstRows" "[I") ∈ sm_tbl := sm_m1 64 rfl rfl
theorem wd_302 : (Jvm.Cond.fieldLink "QueryTables$Search" (25 : Nat) "QueryTables$Search" "secondRows" "[I") ∈ sm_tbl := sm_m1 65 rfl rfl
theorem wd_303 : (Jvm.Cond.fieldLink "QueryTables$Search" (28 : Nat) "QueryTables$Search" "statement" "LQueryTables$Statement;") ∈ sm_tbl := sm_m1 54 rfl rfl
theorem wd_304 : (Jvm.Cond.fieldLink "QueryTables$Search" (32 : Nat) "QueryTables$Search" "code" "LQueryTables$Code;") ∈ sm_tbl := sm_m1 55 rfl rfl
theorem wd_305 : (Jvm.Cond.fieldLink "QueryTables$Search" (36 : Nat) "QueryTables$Search" "pair" "LQueryTables$Pair;") ∈ sm_tbl := sm_m1 56 rfl rfl
theorem wd_306 : (Jvm.Cond.classLink "QueryTables$Search" (40 : Nat) "QueryTables$Access") ∈ sm_tbl := sm_m1 18 rfl rfl
theorem wd_307 : (Jvm.Cond.methodLink "QueryTables$Search" (42 : Nat) ({ cls := "QueryTables$Access", name := "<init>", desc := "(LQueryTables$Statement;LQueryTables$Code;II)V" } : Jvm.MethodName)) ∈ sm_tbl := sm_m1 20 rfl rfl
theorem wd_308 : (Jvm.Cond.fieldLink "QueryTables$Search" (45 : Nat) "QueryTables$Search" "firstAlone" "LQueryTables$Access;") ∈ sm_tbl := sm_m1 57 rfl rfl
theorem wd_309 : (Jvm.Cond.fieldLink "QueryTables$Search" (49 : Nat) "QueryTables$Search" "secondAlone" "LQueryTables$Access;") ∈ sm_tbl := sm_m1 58 rfl rfl
theorem wd_310 : (Jvm.Cond.fieldLink "QueryTables$Search" (52 : Nat) "QueryTables$Search" "firstBehind" "LQueryTables$Access;") ∈ sm_tbl := sm_m1 59 rfl rfl
theorem wd_311 : (Jvm.Cond.fieldLink "QueryTables$Search" (55 : Nat) "QueryTables$Search" "secondBehind" "LQueryTables$Access;") ∈ sm_tbl := sm_m1 60 rfl rfl
theorem wd_312 : (Jvm.Cond.fieldLink "QueryTables$Search" (58 : Nat) "QueryTables$Search" "outer" "LQueryTables$Access;") ∈ sm_tbl := sm_m1 66 rfl rfl
theorem wd_313 : (Jvm.Cond.fieldLink "QueryTables$Search" (61 : Nat) "QueryTables$Search" "inner" "LQueryTables$Access;") ∈ sm_tbl := sm_m1 67 rfl rfl
theorem wd_314 : (Jvm.Cond.methodLink "QueryTables$Search" (64 : Nat) ({ cls := "QueryTables$Pair", name := "tableOf", desc := "(I)LQueryTables$Table;" } : Jvm.MethodName)) ∈ sm_tbl := sm_m3 36 rfl rfl
theorem wd_315 : (Jvm.Cond.methodLink "QueryTables$Search" (70 : Nat) ({ cls := "QueryTables$Access", name := "choose", desc := "(LQueryTables$Table;)V" } : Jvm.MethodName)) ∈ sm_tbl := sm_m3 40 rfl rfl
theorem wd_316 : (Jvm.Cond.methodLink "QueryTables$Search" (74 : Nat) ({ cls := "QueryTables$Search", name := "isOfTwo", desc := "()Z" } : Jvm.MethodName)) ∈ sm_tbl := sm_m3 62 rfl rfl
theorem wd_317 : (Jvm.Cond.methodLink "QueryTables$Search" (78 : Nat) ({ cls := "QueryTables$Access", name := "expected", desc := "(LQueryTables$Table;)I" } : Jvm.MethodName)) ∈ sm_tbl := sm_m3 66 rfl rfl
theorem wd_318 : (Jvm.Cond.methodLink "QueryTables$Search" (82 : Nat) ({ cls := "QueryTables$Search", name := "cost", desc := "(II)I" } : Jvm.MethodName)) ∈ sm_tbl := sm_m3 70 rfl rfl
theorem wd_319 : (Jvm.Cond.fieldLinkNest "QueryTables$Search" (86 : Nat) "QueryTables$Statement" "second" "I" "QueryTables") ∈ sm_tbl := sm_m0 80 rfl rfl
theorem wd_320 : (Jvm.Cond.fieldLinkNest "QueryTables$Search" (92 : Nat) "QueryTables$Access" "kind" "I" "QueryTables") ∈ sm_tbl := sm_m1 30 rfl rfl
theorem wd_321 : (Jvm.Cond.fieldLinkNest "QueryTables$Search" (95 : Nat) "QueryTables$Access" "side" "I" "QueryTables") ∈ sm_tbl := sm_m1 27 rfl rfl
theorem wd_322 : (Jvm.Cond.fieldLink "QueryTables$Search" (98 : Nat) "QueryTables$Search" "fetched" "I") ∈ sm_tbl := sm_m1 68 rfl rfl
theorem wd_323 : (Jvm.Cond.fieldLink "QueryTables$Search" (101 : Nat) "QueryTables$Search" "found" "I") ∈ sm_tbl := sm_m1 70 rfl rfl
theorem wd_324 : (Jvm.Cond.methodLink "QueryTables$Search" (104 : Nat) ({ cls := "QueryTables$Search", name := "fetch", desc := "(LQueryTables$Access;[I)I" } : Jvm.MethodName)) ∈ sm_tbl := sm_m3 77 rfl rfl
theorem wd_325 : (Jvm.Cond.methodLink "QueryTables$Search" (108 : Nat) ({ cls := "QueryTables$Pair", name := "move", desc := "(II)V" } : Jvm.MethodName)) ∈ sm_tbl := sm_m3 125 rfl rfl
theorem wd_326 : (Jvm.Cond.methodLink "QueryTables$Search" (112 : Nat) ({ cls := "QueryTables$Search", name := "keepIfFound", desc := "()V" } : Jvm.MethodName)) ∈ sm_tbl := sm_m3 129 rfl rfl
theorem wd_327 : (Jvm.Cond.methodLink "QueryTables$Search" (115 : Nat) ({ cls := "QueryTables$Search", name := "outerRowHolds", desc := "()Z" } : Jvm.MethodName)) ∈ sm_tbl := sm_m3 156 rfl rfl
theorem wd_328 : (Jvm.Cond.constantLong "QueryTables$Search" (118 : Nat) (1099511627776 : Int64)) ∈ sm_tbl := sm_m3 81 rfl rfl
theorem wd_329 : (Jvm.Cond.fieldLinkNest "QueryTables$Search" (120 : Nat) "QueryTables$Access" "from" "I" "QueryTables") ∈ sm_tbl := sm_m1 34 rfl rfl
theorem wd_330 : (Jvm.Cond.fieldLinkNest "QueryTables$Search" (123 : Nat) "QueryTables$Access" "to" "I" "QueryTables") ∈ sm_tbl := sm_m1 36 rfl rfl
theorem wd_331 : (Jvm.Cond.methodLink "QueryTables$Search" (126 : Nat) ({ cls := "QueryTables$Code", name := "work", desc := "(IILQueryTables$Pair;)J" } : Jvm.MethodName)) ∈ sm_tbl := sm_m3 82 rfl rfl
theorem wd_332 : (Jvm.Cond.fieldLinkNest "QueryTables$Search" (132 : Nat) "QueryTables$Table" "down" "I" "QueryTables") ∈ sm_tbl := sm_m0 41 rfl rfl
theorem wd_333 : (Jvm.Cond.fieldLinkNest "QueryTables$Search" (137 : Nat) "QueryTables$Access" "column" "I" "QueryTables") ∈ sm_tbl := sm_m1 32 rfl rfl
theorem wd_334 : (Jvm.Cond.methodLink "QueryTables$Search" (140 : Nat) ({ cls := "QueryTables$Table", name := "get", desc := "(II)J" } : Jvm.MethodName)) ∈ sm_tbl := sm_m3 124 rfl rfl
theorem wd_335 : (Jvm.Cond.fieldLinkNest "QueryTables$Search" (144 : Nat) "QueryTables$Statement" "parts" "I" "QueryTables") ∈ sm_tbl := sm_m0 115 rfl rfl
theorem wd_336 : (Jvm.Cond.fieldLinkNest "QueryTables$Search" (147 : Nat) "QueryTables$Statement" "partFrom" "[I" "QueryTables") ∈ sm_tbl := sm_m0 64 rfl rfl
theorem wd_337 : (Jvm.Cond.fieldLinkNest "QueryTables$Search" (150 : Nat) "QueryTables$Statement" "partTo" "[I" "QueryTables") ∈ sm_tbl := sm_m0 69 rfl rfl
theorem wd_338 : (Jvm.Cond.methodLink "QueryTables$Search" (153 : Nat) ({ cls := "QueryTables$Code", name := "sidesIn", desc := "(II)I" } : Jvm.MethodName)) ∈ sm_tbl := sm_m3 160 rfl rfl
theorem wd_339 : (Jvm.Cond.constantLong "QueryTables$Search" (156 : Nat) (2 : Int64)) ∈ sm_tbl := sm_m3 137 rfl rfl
theorem wd_340 : (Jvm.Cond.methodLink "QueryTables$Search" (158 : Nat) ({ cls := "QueryTables$Statement", name := "hasWhere", desc := "()Z" } : Jvm.MethodName)) ∈ sm_tbl := sm_m3 133 rfl rfl
theorem wd_341 : (Jvm.Cond.fieldLinkNest "QueryTables$Search" (161 : Nat) "QueryTables$Statement" "whereFrom" "I" "QueryTables") ∈ sm_tbl := sm_m0 96 rfl rfl
theorem wd_342 : (Jvm.Cond.fieldLinkNest "QueryTables$Search" (164 : Nat) "QueryTables$Statement" "whereTo" "I" "QueryTables") ∈ sm_tbl := sm_m0 99 rfl rfl
theorem wd_343 : (Jvm.Cond.methodLink "QueryTables$Search" (167 : Nat) ({ cls := "QueryTables$Statement", name := "hasOrder", desc := "()Z" } : Jvm.MethodName)) ∈ sm_tbl := sm_m3 138 rfl rfl
theorem wd_344 : (Jvm.Cond.fieldLinkNest "QueryTables$Search" (170 : Nat) "QueryTables$Statement" "orderFrom" "I" "QueryTables") ∈ sm_tbl := sm_m0 102 rfl rfl
theorem wd_345 : (Jvm.Cond.fieldLinkNest "QueryTables$Search" (173 : Nat) "QueryTables$Statement" "orderTo" "I" "QueryTables") ∈ sm_tbl := sm_m0 105 rfl rfl
theorem wd_346 : (Jvm.Cond.methodLink "QueryTables$Search" (176 : Nat) ({ cls := "QueryTables$Search", name := "rank", desc := "(J)J" } : Jvm.MethodName)) ∈ sm_tbl := sm_m3 142 rfl rfl
theorem wd_347 : (Jvm.Cond.methodLink "QueryTables$Search" (180 : Nat) ({ cls := "QueryTables$Pair", name := "rowOf", desc := "(I)I" } : Jvm.MethodName)) ∈ sm_tbl := sm_m3 147 rfl rfl
theorem wd_348 : (Jvm.Cond.methodLink "QueryTables$Search" (184 : Nat) ({ cls := "QueryTables$Search", name := "putInOrder", desc := "(JII)V" } : Jvm.MethodName)) ∈ sm_tbl := sm_m3 148 rfl rfl
theorem wd_349 : (Jvm.Cond.constantLong "QueryTables$Search" (188 : Nat) (-1099511627776 : Int64)) ∈ sm_tbl := sm_m3 146 rfl rfl
theorem wd_350 : (Jvm.Cond.fieldLinkNest "QueryTables$Search" (190 : Nat) "QueryTables$Statement" "descending" "Z" "QueryTables") ∈ sm_tbl := sm_m0 108 rfl rfl
theorem wd_351 : (Jvm.Cond.methodLink "QueryTables$Search" (194 : Nat) ({ cls := "QueryTables$Search", name := "comesBefore", desc := "(JIII)Z" } : Jvm.MethodName)) ∈ sm_tbl := sm_m3 152 rfl rfl
theorem wd_352 : (Jvm.Cond.methodLink "QueryTablesModel" (1 : Nat) ({ cls := "java/lang/Object", name := "<init>", desc := "()V" } : Jvm.MethodName)) ∈ sm_tbl := sm_m4 60 rfl rfl
theorem wd_353 : (Jvm.Cond.fieldLink "QueryTablesModel" (7 : Nat) "QueryTablesModel" "text" "[C") ∈ sm_tbl := sm_m4 61 rfl rfl
theorem wd_354 : (Jvm.Cond.fieldLink "QueryTablesModel" (13 : Nat) "QueryTablesModel" "kind" "[I") ∈ sm_tbl := sm_m4 64 rfl rfl
theorem wd_355 : (Jvm.Cond.fieldLink "QueryTablesModel" (17 : Nat) "QueryTablesModel" "worth" "[I") ∈ sm_tbl := sm_m4 65 rfl rfl
theorem wd_356 : (Jvm.Cond.fieldLink "QueryTablesModel" (20 : Nat) "QueryTablesModel" "op" "[I") ∈ sm_tbl := sm_m4 69 rfl rfl
theorem wd_357 : (Jvm.Cond.fieldLink "QueryTablesModel" (23 : Nat) "QueryTablesModel" "arg" "[I") ∈ sm_tbl := sm_m4 70 rfl rfl
theorem wd_358 : (Jvm.Cond.fieldLink "QueryTablesModel" (26 : Nat) "QueryTablesModel" "wait" "[I") ∈ sm_tbl := sm_m4 72 rfl rfl
theorem wd_359 : (Jvm.Cond.fieldLink "QueryTablesModel" (29 : Nat) "QueryTablesModel" "hold" "[I") ∈ sm_tbl := sm_m4 75 rfl rfl
theorem wd_360 : (Jvm.Cond.fieldLink "QueryTablesModel" (32 : Nat) "QueryTablesModel" "named" "[I") ∈ sm_tbl := sm_m4 79 rfl rfl
theorem wd_361 : (Jvm.Cond.fieldLink "QueryTablesModel" (35 : Nat) "QueryTablesModel" "termFrom" "[I") ∈ sm_tbl := sm_m4 84 rfl rfl
theorem wd_362 : (Jvm.Cond.fieldLink "QueryTablesModel" (38 : Nat) "QueryTablesModel" "termTo" "[I") ∈ sm_tbl := sm_m4 85 rfl rfl
theorem wd_363 : (Jvm.Cond.fieldLink "QueryTablesModel" (41 : Nat) "QueryTablesModel" "partFrom" "[I") ∈ sm_tbl := sm_m4 96 rfl rfl
theorem wd_364 : (Jvm.Cond.fieldLink "QueryTablesModel" (44 : Nat) "QueryTablesModel" "partTo" "[I") ∈ sm_tbl := sm_m4 97 rfl rfl
theorem wd_365 : (Jvm.Cond.fieldLink "QueryTablesModel" (47 : Nat) "QueryTablesModel" "partMid" "[I") ∈ sm_tbl := sm_m4 98 rfl rfl
theorem wd_366 : (Jvm.Cond.fieldLink "QueryTablesModel" (50 : Nat) "QueryTablesModel" "width" "[I") ∈ sm_tbl := sm_m4 101 rfl rfl
theorem wd_367 : (Jvm.Cond.fieldLink "QueryTablesModel" (53 : Nat) "QueryTablesModel" "count" "[I") ∈ sm_tbl := sm_m4 102 rfl rfl
theorem wd_368 : (Jvm.Cond.fieldLink "QueryTablesModel" (56 : Nat) "QueryTablesModel" "cell" "[J") ∈ sm_tbl := sm_m4 103 rfl rfl
theorem wd_369 : (Jvm.Cond.fieldLink "QueryTablesModel" (60 : Nat) "QueryTablesModel" "index" "[Z") ∈ sm_tbl := sm_m4 104 rfl rfl
theorem wd_370 : (Jvm.Cond.fieldLink "QueryTablesModel" (64 : Nat) "QueryTablesModel" "row" "[I") ∈ sm_tbl := sm_m4 105 rfl rfl
theorem wd_371 : (Jvm.Cond.fieldLink "QueryTablesModel" (67 : Nat) "QueryTablesModel" "stack" "[J") ∈ sm_tbl := sm_m4 106 rfl rfl
theorem wd_372 : (Jvm.Cond.fieldLink "QueryTablesModel" (70 : Nat) "QueryTablesModel" "fresh" "[J") ∈ sm_tbl := sm_m4 107 rfl rfl
theorem wd_373 : (Jvm.Cond.fieldLink "QueryTablesModel" (73 : Nat) "QueryTablesModel" "found" "[Z") ∈ sm_tbl := sm_m4 108 rfl rfl
theorem wd_374 : (Jvm.Cond.fieldLink "QueryTablesModel" (76 : Nat) "QueryTablesModel" "one" "[I") ∈ sm_tbl := sm_m4 110 rfl rfl
theorem wd_375 : (Jvm.Cond.fieldLink "QueryTablesModel" (79 : Nat) "QueryTablesModel" "two" "[I") ∈ sm_tbl := sm_m4 111 rfl rfl
theorem wd_376 : (Jvm.Cond.fieldLink "QueryTablesModel" (82 : Nat) "QueryTablesModel" "by" "[J") ∈ sm_tbl := sm_m4 112 rfl rfl
theorem wd_377 : (Jvm.Cond.fieldLink "QueryTablesModel" (85 : Nat) "QueryTablesModel" "told" "[Z") ∈ sm_tbl := sm_m4 113 rfl rfl
theorem wd_378 : (Jvm.Cond.fieldLink "QueryTablesModel" (88 : Nat) "QueryTablesModel" "result" "[J") ∈ sm_tbl := sm_m4 116 rfl rfl
theorem wd_379 : (Jvm.Cond.fieldLink "QueryTablesModel" (91 : Nat) "QueryTablesModel" "size" "I") ∈ sm_tbl := sm_m4 62 rfl rfl
theorem wd_380 : (Jvm.Cond.fieldLink "QueryTablesModel" (95 : Nat) "QueryTablesModel" "tokens" "I") ∈ sm_tbl := sm_m4 63 rfl rfl
theorem wd_381 : (Jvm.Cond.methodLink "QueryTablesModel" (98 : Nat) ({ cls := "QueryTablesModel", name := "letter", desc := "(C)Z" } : Jvm.MethodName)) ∈ sm_tbl := sm_m5 23 rfl rfl
theorem wd_382 : (Jvm.Cond.methodLink "QueryTablesModel" (102 : Nat) ({ cls := "QueryTablesModel", name := "digit", desc := "(C)Z" } : Jvm.MethodName)) ∈ sm_tbl := sm_m5 26 rfl rfl
theorem wd_383 : (Jvm.Cond.fieldLink "QueryTablesModel" (105 : Nat) "QueryTablesModel" "bad" "Z") ∈ sm_tbl := sm_m4 67 rfl rfl
theorem wd_384 : (Jvm.Cond.methodLink "QueryTablesModel" (109 : Nat) ({ cls := "QueryTablesModel", name := "sign", desc := "(C)Z" } : Jvm.MethodName)) ∈ sm_tbl := sm_m5 29 rfl rfl
theorem wd_385 : (Jvm.Cond.fieldLink "QueryTablesModel" (112 : Nat) "QueryTablesModel" "at" "I") ∈ sm_tbl := sm_m4 66 rfl rfl
theorem wd_386 : (Jvm.Cond.methodLink "QueryTablesModel" (115 : Nat) ({ cls := "QueryTablesModel", name := "isSign", desc := "(I)Z" } : Jvm.MethodName)) ∈ sm_tbl := sm_m5 63 rfl rfl
theorem wd_387 : (Jvm.Cond.methodLink "QueryTablesModel" (119 : Nat) ({ cls := "QueryTablesModel", name := "take", desc := "(I)I" } : Jvm.MethodName)) ∈ sm_tbl := sm_m5 43 rfl rfl
theorem wd_388 : (Jvm.Cond.fieldLink "QueryTablesModel" (123 : Nat) "QueryTablesModel" "codes" "I") ∈ sm_tbl := sm_m4 68 rfl rfl
theorem wd_389 : (Jvm.Cond.fieldLink "QueryTablesModel" (126 : Nat) "QueryTablesModel" "nests" "I") ∈ sm_tbl := sm_m4 73 rfl rfl
theorem wd_390 : (Jvm.Cond.fieldLink "QueryTablesModel" (129 : Nat) "QueryTablesModel" "outer" "I") ∈ sm_tbl := sm_m4 76 rfl rfl
theorem wd_391 : (Jvm.Cond.fieldLink "QueryTablesModel" (132 : Nat) "QueryTablesModel" "waits" "I") ∈ sm_tbl := sm_m4 71 rfl rfl
theorem wd_392 : (Jvm.Cond.methodLink "QueryTablesModel" (135 : Nat) ({ cls := "QueryTablesModel", name := "top", desc := "()I" } : Jvm.MethodName)) ∈ sm_tbl := sm_m5 87 rfl rfl
theorem wd_393 : (Jvm.Cond.methodLink "QueryTablesModel" (139 : Nat) ({ cls := "QueryTablesModel", name := "emit", desc := "(II)V" } : Jvm.MethodName)) ∈ sm_tbl := sm_m5 71 rfl rfl
theorem wd_394 : (Jvm.Cond.fieldLink "QueryTablesModel" (143 : Nat) "QueryTablesModel" "wants" "Z") ∈ sm_tbl := sm_m4 77 rfl rfl
theorem wd_395 : (Jvm.Cond.methodLink "QueryTablesModel" (146 : Nat) ({ cls := "QueryTablesModel", name := "nest", desc := "(I)V" } : Jvm.MethodName)) ∈ sm_tbl := sm_m5 67 rfl rfl
theorem wd_396 : (Jvm.Cond.methodLink "QueryTablesModel" (150 : Nat) ({ cls := "QueryTablesModel", name := "takeSign", desc := "(I)Z" } : Jvm.MethodName)) ∈ sm_tbl := sm_m5 75 rfl rfl
theorem wd_397 : (Jvm.Cond.methodLink "QueryTablesModel" (153 : Nat) ({ cls := "QueryTablesModel", name := "takeColumn", desc := "()I" } : Jvm.MethodName)) ∈ sm_tbl := sm_m5 47 rfl rfl
theorem wd_398 : (Jvm.Cond.methodLink "QueryTablesModel" (156 : Nat) ({ cls := "QueryTablesModel", name := "word", desc := "(IIIIII)I" } : Jvm.MethodName)) ∈ sm_tbl := sm_m5 36 rfl rfl
theorem wd_399 : (Jvm.Cond.methodLink "QueryTablesModel" (160 : Nat) ({ cls := "QueryTablesModel", name := "takeWord", desc := "(I)Z" } : Jvm.MethodName)) ∈ sm_tbl := sm_m5 79 rfl rfl
theorem wd_400 : (Jvm.Cond.methodLink "QueryTablesModel" (163 : Nat) ({ cls := "QueryTablesModel", name := "signs", desc := "()V" } : Jvm.MethodName)) ∈ sm_tbl := sm_m5 83 rfl rfl
theorem wd_401 : (Jvm.Cond.methodLink "QueryTablesModel" (166 : Nat) ({ cls := "QueryTablesModel", name := "operand", desc := "()V" } : Jvm.MethodName)) ∈ sm_tbl := sm_m5 59 rfl rfl
theorem wd_402 : (Jvm.Cond.methodLink "QueryTablesModel" (169 : Nat) ({ cls := "QueryTablesModel", name := "operator", desc := "()Z" } : Jvm.MethodName)) ∈ sm_tbl := sm_m5 91 rfl rfl
theorem wd_403 : (Jvm.Cond.fieldLink "QueryTablesModel" (173 : Nat) "QueryTablesModel" "holds" "I") ∈ sm_tbl := sm_m4 74 rfl rfl
theorem wd_404 : (Jvm.Cond.methodLink "QueryTablesModel" (176 : Nat) ({ cls := "QueryTablesModel", name := "unhold", desc := "()V" } : Jvm.MethodName)) ∈ sm_tbl := sm_m5 115 rfl rfl
theorem wd_405 : (Jvm.Cond.fieldLink "QueryTablesModel" (179 : Nat) "QueryTablesModel" "parts" "I") ∈ sm_tbl := sm_m4 94 rfl rfl
theorem wd_406 : (Jvm.Cond.fieldLink "QueryTablesModel" (182 : Nat) "QueryTablesModel" "begun" "I") ∈ sm_tbl := sm_m4 99 rfl rfl
theorem wd_407 : (Jvm.Cond.fieldLink "QueryTablesModel" (185 : Nat) "QueryTablesModel" "middle" "I") ∈ sm_tbl := sm_m4 100 rfl rfl
theorem wd_408 : (Jvm.Cond.methodLink "QueryTablesModel" (188 : Nat) ({ cls := "QueryTablesModel", name := "keep", desc := "(I)V" } : Jvm.MethodName)) ∈ sm_tbl := sm_m5 107 rfl rfl
theorem wd_409 : (Jvm.Cond.methodLink "QueryTablesModel" (191 : Nat) ({ cls := "QueryTablesModel", name := "expression", desc := "()V" } : Jvm.MethodName)) ∈ sm_tbl := sm_m5 55 rfl rfl
theorem wd_410 : (Jvm.Cond.methodLink "QueryTablesModel" (194 : Nat) ({ cls := "QueryTablesModel", name := "complete", desc := "()V" } : Jvm.MethodName)) ∈ sm_tbl := sm_m5 111 rfl rfl
theorem wd_411 : (Jvm.Cond.fieldLink "QueryTablesModel" (197 : Nat) "QueryTablesModel" "either" "Z") ∈ sm_tbl := sm_m4 95 rfl rfl
theorem wd_412 : (Jvm.Cond.fieldLink "QueryTablesModel" (200 : Nat) "QueryTablesModel" "where" "Z") ∈ sm_tbl := sm_m4 86 rfl rfl
theorem wd_413 : (Jvm.Cond.fieldLink "QueryTablesModel" (203 : Nat) "QueryTablesModel" "whereFrom" "I") ∈ sm_tbl := sm_m4 87 rfl rfl
theorem wd_414 : (Jvm.Cond.methodLink "QueryTablesModel" (206 : Nat) ({ cls := "QueryTablesModel", name := "test", desc := "()V" } : Jvm.MethodName)) ∈ sm_tbl := sm_m5 103 rfl rfl
theorem wd_415 : (Jvm.Cond.methodLink "QueryTablesModel" (209 : Nat) ({ cls := "QueryTablesModel", name := "connect", desc := "()Z" } : Jvm.MethodName)) ∈ sm_tbl := sm_m5 119 rfl rfl
theorem wd_416 : (Jvm.Cond.fieldLink "QueryTablesModel" (212 : Nat) "QueryTablesModel" "whereTo" "I") ∈ sm_tbl := sm_m4 88 rfl rfl
theorem wd_417 : (Jvm.Cond.fieldLink "QueryTablesModel" (215 : Nat) "QueryTablesModel" "terms" "I") ∈ sm_tbl := sm_m4 83 rfl rfl
theorem wd_418 : (Jvm.Cond.fieldLink "QueryTablesModel" (218 : Nat) "QueryTablesModel" "names" "I") ∈ sm_tbl := sm_m4 80 rfl rfl
theorem wd_419 : (Jvm.Cond.fieldLink "QueryTablesModel" (221 : Nat) "QueryTablesModel" "ordered" "Z") ∈ sm_tbl := sm_m4 89 rfl rfl
theorem wd_420 : (Jvm.Cond.fieldLink "QueryTablesModel" (224 : Nat) "QueryTablesModel" "down" "Z") ∈ sm_tbl := sm_m4 90 rfl rfl
theorem wd_421 : (Jvm.Cond.fieldLink "QueryTablesModel" (227 : Nat) "QueryTablesModel" "limit" "I") ∈ sm_tbl := sm_m4 93 rfl rfl
theorem wd_422 : (Jvm.Cond.fieldLink "QueryTablesModel" (230 : Nat) "QueryTablesModel" "column" "I") ∈ sm_tbl := sm_m4 81 rfl rfl
theorem wd_423 : (Jvm.Cond.fieldLink "QueryTablesModel" (233 : Nat) "QueryTablesModel" "amount" "I") ∈ sm_tbl := sm_m4 82 rfl rfl
theorem wd_424 : (Jvm.Cond.fieldLink "QueryTablesModel" (236 : Nat) "QueryTablesModel" "rows" "I") ∈ sm_tbl := sm_m4 114 rfl rfl
theorem wd_425 : (Jvm.Cond.fieldLink "QueryTablesModel" (239 : Nat) "QueryTablesModel" "wide" "I") ∈ sm_tbl := sm_m4 115 rfl rfl
theorem wd_426 : (Jvm.Cond.fieldLink "QueryTablesModel" (242 : Nat) "QueryTablesModel" "reads" "I") ∈ sm_tbl := sm_m4 117 rfl rfl
theorem wd_427 : (Jvm.Cond.fieldLink "QueryTablesModel" (245 : Nat) "QueryTablesModel" "plan" "I") ∈ sm_tbl := sm_m4 118 rfl rfl
theorem wd_428 : (Jvm.Cond.methodLink "QueryTablesModel" (248 : Nat) ({ cls := "QueryTablesModel", name := "condition", desc := "()V" } : Jvm.MethodName)) ∈ sm_tbl := sm_m5 99 rfl rfl
theorem wd_429 : (Jvm.Cond.fieldLink "QueryTablesModel" (251 : Nat) "QueryTablesModel" "verb" "I") ∈ sm_tbl := sm_m4 78 rfl rfl
theorem wd_430 : (Jvm.Cond.methodLink "QueryTablesModel" (254 : Nat) ({ cls := "QueryTablesModel", name := "name", desc := "()V" } : Jvm.MethodName)) ∈ sm_tbl := sm_m5 39 rfl rfl
theorem wd_431 : (Jvm.Cond.methodLink "QueryTablesModel" (257 : Nat) ({ cls := "QueryTablesModel", name := "term", desc := "()V" } : Jvm.MethodName)) ∈ sm_tbl := sm_m5 51 rfl rfl
theorem wd_432 : (Jvm.Cond.methodLink "QueryTablesModel" (260 : Nat) ({ cls := "QueryTablesModel", name := "perhapsWhere", desc := "()V" } : Jvm.MethodName)) ∈ sm_tbl := sm_m5 95 rfl rfl
theorem wd_433 : (Jvm.Cond.methodLink "QueryTablesModel" (263 : Nat) ({ cls := "QueryTablesModel", name := "selection", desc := "()V" } : Jvm.MethodName)) ∈ sm_tbl := sm_m5 123 rfl rfl
theorem wd_434 : (Jvm.Cond.fieldLink "QueryTablesModel" (266 : Nat) "QueryTablesModel" "orderFrom" "I") ∈ sm_tbl := sm_m4 91 rfl rfl
theorem wd_435 : (Jvm.Cond.fieldLink "QueryTablesModel" (269 : Nat) "QueryTablesModel" "orderTo" "I") ∈ sm_tbl := sm_m4 92 rfl rfl
theorem wd_436 : (Jvm.Cond.methodLink "QueryTablesModel" (272 : Nat) ({ cls := "QueryTablesModel", name := "place", desc := "(I)Z" } : Jvm.MethodName)) ∈ sm_tbl := sm_m5 131 rfl rfl
theorem wd_437 : (Jvm.Cond.methodLink "QueryTablesModel" (275 : Nat) ({ cls := "QueryTablesModel", name := "begin", desc := "()V" } : Jvm.MethodName)) ∈ sm_tbl := sm_m5 15 rfl rfl
theorem wd_438 : (Jvm.Cond.methodLink "QueryTablesModel" (278 : Nat) ({ cls := "QueryTablesModel", name := "split", desc := "()V" } : Jvm.MethodName)) ∈ sm_tbl := sm_m5 19 rfl rfl
theorem wd_439 : (Jvm.Cond.methodLink "QueryTablesModel" (281 : Nat) ({ cls := "QueryTablesModel", name := "statement", desc := "()V" } : Jvm.MethodName)) ∈ sm_tbl := sm_m5 32 rfl rfl
theorem wd_440 : (Jvm.Cond.methodLink "QueryTablesModel" (284 : Nat) ({ cls := "QueryTablesModel", name := "known", desc := "()Z" } : Jvm.MethodName)) ∈ sm_tbl := sm_m5 127 rfl rfl
theorem wd_441 : (Jvm.Cond.methodLink "QueryTablesModel" (287 : Nat) ({ cls := "QueryTablesModel", name := "insert", desc := "(I)I" } : Jvm.MethodName)) ∈ sm_tbl := sm_m5 135 rfl rfl
theorem wd_442 : (Jvm.Cond.methodLink "QueryTablesModel" (290 : Nat) ({ cls := "QueryTablesModel", name := "choose", desc := "()I" } : Jvm.MethodName)) ∈ sm_tbl := sm_m5 147 rfl rfl
theorem wd_443 : (Jvm.Cond.methodLink "QueryTablesModel" (293 : Nat) ({ cls := "QueryTablesModel", name := "mark", desc := "(I)V" } : Jvm.MethodName)) ∈ sm_tbl := sm_m5 204 rfl rfl
theorem wd_444 : (Jvm.Cond.methodLink "QueryTablesModel" (296 : Nat) ({ cls := "QueryTablesModel", name := "update", desc := "(I)I" } : Jvm.MethodName)) ∈ sm_tbl := sm_m5 208 rfl rfl
theorem wd_445 : (Jvm.Cond.methodLink "QueryTablesModel" (299 : Nat) ({ cls := "QueryTablesModel", name := "fetchOne", desc := "(I)V" } : Jvm.MethodName)) ∈ sm_tbl := sm_m5 164 rfl rfl
theorem wd_446 : (Jvm.Cond.methodLink "QueryTablesModel" (302 : Nat) ({ cls := "QueryTablesModel", name := "remove", desc := "(I)V" } : Jvm.MethodName)) ∈ sm_tbl := sm_m5 212 rfl rfl
theorem wd_447 : (Jvm.Cond.constantLong "QueryTablesModel" (305 : Nat) (1099511627776 : Int64)) ∈ sm_tbl := sm_m5 143 rfl rfl
theorem wd_448 : (Jvm.Cond.methodLink "QueryTablesModel" (307 : Nat) ({ cls := "QueryTablesModel", name := "joined", desc := "(IJJ)J" } : Jvm.MethodName)) ∈ sm_tbl := sm_m5 144 rfl rfl
theorem wd_449 : (Jvm.Cond.methodLink "QueryTablesModel" (311 : Nat) ({ cls := "QueryTablesModel", name := "worked", desc := "(II)J" } : Jvm.MethodName)) ∈ sm_tbl := sm_m5 139 rfl rfl
theorem wd_450 : (Jvm.Cond.methodLink "QueryTablesModel" (315 : Nat) ({ cls := "QueryTablesModel", name := "side", desc := "(IIIZ)I" } : Jvm.MethodName)) ∈ sm_tbl := sm_m5 176 rfl rfl
theorem wd_451 : (Jvm.Cond.methodLink "QueryTablesModel" (319 : Nat) ({ cls := "QueryTablesModel", name := "only", desc := "(IIIZ)Z" } : Jvm.MethodName)) ∈ sm_tbl := sm_m5 180 rfl rfl
theorem wd_452 : (Jvm.Cond.methodLink "QueryTablesModel" (323 : Nat) ({ cls := "QueryTablesModel", name := "tablesIn", desc := "(II)I" } : Jvm.MethodName)) ∈ sm_tbl := sm_m5 184 rfl rfl
theorem wd_453 : (Jvm.Cond.methodLink "QueryTablesModel" (327 : Nat) ({ cls := "QueryTablesModel", name := "fixing", desc := "(IIZ)I" } : Jvm.MethodName)) ∈ sm_tbl := sm_m5 172 rfl rfl
theorem wd_454 : (Jvm.Cond.fieldLink "QueryTablesModel" (331 : Nat) "QueryTablesModel" "using" "I") ∈ sm_tbl := sm_m4 119 rfl rfl
theorem wd_455 : (Jvm.Cond.methodLink "QueryTablesModel" (334 : Nat) ({ cls := "QueryTablesModel", name := "access", desc := "(II)I" } : Jvm.MethodName)) ∈ sm_tbl := sm_m5 168 rfl rfl
theorem wd_456 : (Jvm.Cond.methodLink "QueryTablesModel" (337 : Nat) ({ cls := "QueryTablesModel", name := "fetched", desc := "(IIIII)Z" } : Jvm.MethodName)) ∈ sm_tbl := sm_m5 188 rfl rfl
theorem wd_457 : (Jvm.Cond.methodLink "QueryTablesModel" (341 : Nat) ({ cls := "QueryTablesModel", name := "cost", desc := "(II)I" } : Jvm.MethodName)) ∈ sm_tbl := sm_m5 196 rfl rfl
theorem wd_458 : (Jvm.Cond.methodLink "QueryTablesModel" (344 : Nat) ({ cls := "QueryTablesModel", name := "fetchBoth", desc := "(II)V" } : Jvm.MethodName)) ∈ sm_tbl := sm_m5 200 rfl rfl
theorem wd_459 : (Jvm.Cond.methodLink "QueryTablesModel" (347 : Nat) ({ cls := "QueryTablesModel", name := "holdsTrue", desc := "()Z" } : Jvm.MethodName)) ∈ sm_tbl := sm_m5 151 rfl rfl
theorem wd_460 : (Jvm.Cond.fieldLink "QueryTablesModel" (350 : Nat) "QueryTablesModel" "pairs" "I") ∈ sm_tbl := sm_m4 109 rfl rfl
theorem wd_461 : (Jvm.Cond.methodLink "QueryTablesModel" (353 : Nat) ({ cls := "QueryTablesModel", name := "next", desc := "(II)I" } : Jvm.MethodName)) ∈ sm_tbl := sm_m5 155 rfl rfl
theorem wd_462 : (Jvm.Cond.methodLink "QueryTablesModel" (356 : Nat) ({ cls := "QueryTablesModel", name := "fetchTwo", desc := "()V" } : Jvm.MethodName)) ∈ sm_tbl := sm_m5 192 rfl rfl
theorem wd_463 : (Jvm.Cond.methodLink "QueryTablesModel" (359 : Nat) ({ cls := "QueryTablesModel", name := "before", desc := "(IIII)Z" } : Jvm.MethodName)) ∈ sm_tbl := sm_m5 159 rfl rfl
theorem wd_464 : (Jvm.Cond.constantLong "QueryTablesModel" (363 : Nat) (-1099511627776 : Int64)) ∈ sm_tbl := sm_m5 163 rfl rfl
theorem wd_465 : (Jvm.Cond.constantLong "QueryTablesModel" (365 : Nat) (2199023255552 : Int64)) ∈ sm_tbl := sm_m5 228 rfl rfl
theorem wd_466 : (Jvm.Cond.methodLink "QueryTablesModel" (367 : Nat) ({ cls := "QueryTablesModel", name := "isTable", desc := "(I)Z" } : Jvm.MethodName)) ∈ sm_tbl := sm_m6 1 rfl rfl
theorem wd_467 : (Jvm.Cond.methodLink "java/lang/String" (492 : Nat) ({ cls := "java/lang/String", name := "isLatin1", desc := "()Z" } : Jvm.MethodName)) ∈ sm_tbl := sm_m1 226 rfl rfl
theorem wd_468 : (Jvm.Cond.fieldLink "java/lang/String" (9 : Nat) "java/lang/String" "value" "[B") ∈ sm_tbl := sm_m6 21 rfl rfl
theorem wd_469 : (Jvm.Cond.methodLink "java/lang/String" (495 : Nat) ({ cls := "java/lang/StringLatin1", name := "charAt", desc := "([BI)C" } : Jvm.MethodName)) ∈ sm_tbl := sm_m1 230 rfl rfl
theorem wd_470 : (Jvm.Cond.fieldLink "java/lang/String" (38 : Nat) "java/lang/String" "COMPACT_STRINGS" "Z") ∈ sm_tbl := sm_m1 220 rfl rfl
theorem wd_471 : (Jvm.Cond.fieldLink "java/lang/String" (15 : Nat) "java/lang/String" "coder" "B") ∈ sm_tbl := sm_m6 22 rfl rfl
theorem wd_472 : (Jvm.Cond.methodLink "java/lang/String" (633 : Nat) ({ cls := "java/lang/String", name := "indexOf", desc := "(II)I" } : Jvm.MethodName)) ∈ sm_tbl := sm_m2 46 rfl rfl
theorem wd_473 : (Jvm.Cond.methodLink "java/lang/String" (505 : Nat) ({ cls := "java/lang/String", name := "length", desc := "()I" } : Jvm.MethodName)) ∈ sm_tbl := sm_m2 50 rfl rfl
theorem wd_474 : (Jvm.Cond.methodLink "java/lang/String" (637 : Nat) ({ cls := "java/lang/StringLatin1", name := "indexOf", desc := "([BIII)I" } : Jvm.MethodName)) ∈ sm_tbl := sm_m2 51 rfl rfl
theorem wd_475 : (Jvm.Cond.methodLink "java/lang/String" (335 : Nat) ({ cls := "java/lang/String", name := "coder", desc := "()B" } : Jvm.MethodName)) ∈ sm_tbl := sm_m1 216 rfl rfl
theorem wd_476 : (Jvm.Cond.fieldLink "java/lang/String" (1053 : Nat) "jdk/internal/util/Preconditions" "SIOOBE_FORMATTER" "Ljava/util/function/BiFunction;") ∈ sm_tbl := sm_m1 236 rfl rfl
theorem wd_477 : (Jvm.Cond.methodLink "java/lang/String" (1059 : Nat) ({ cls := "jdk/internal/util/Preconditions", name := "checkIndex", desc := "(IILjava/util/function/BiFunction;)I" } : Jvm.MethodName)) ∈ sm_tbl := sm_m1 238 rfl rfl
theorem wd_478 : (Jvm.Cond.methodLink "java/lang/StringLatin1" (9 : Nat) ({ cls := "java/lang/String", name := "checkIndex", desc := "(II)V" } : Jvm.MethodName)) ∈ sm_tbl := sm_m1 233 rfl rfl
theorem wd_479 : (Jvm.Cond.methodLink "java/lang/StringLatin1" (88 : Nat) ({ cls := "java/lang/StringLatin1", name := "canEncode", desc := "(I)Z" } : Jvm.MethodName)) ∈ sm_tbl := sm_m2 54 rfl rfl
theorem wd_480 : (Jvm.Cond.methodLink "java/lang/StringLatin1" (92 : Nat) ({ cls := "java/lang/Math", name := "max", desc := "(II)I" } : Jvm.MethodName)) ∈ sm_tbl := sm_m2 57 rfl rfl
theorem wd_481 : (Jvm.Cond.methodLink "java/lang/StringLatin1" (38 : Nat) ({ cls := "java/lang/Math", name := "min", desc := "(II)I" } : Jvm.MethodName)) ∈ sm_tbl := sm_m2 60 rfl rfl
theorem wd_482 : (Jvm.Cond.methodLink "java/lang/StringLatin1" (95 : Nat) ({ cls := "java/lang/StringLatin1", name := "indexOfChar", desc := "([BIII)I" } : Jvm.MethodName)) ∈ sm_tbl := sm_m2 63 rfl rfl
theorem wd_483 : (Jvm.Cond.code ({ cls := "QueryTables", name := "<init>", desc := "()V" } : Jvm.MethodName) prog_1_method_1_code (2 : Nat) (Option.none : Option Jvm.ClassFile.FieldType)) ∈ sm_tbl := sm_m0 23 rfl rfl
theorem wd_484 : (Jvm.Cond.initialized "QueryTables") ∈ sm_tbl := sm_m0 1 rfl rfl
theorem wd_485 : (Jvm.Cond.instanceMethod ({ cls := "QueryTables", name := "<init>", desc := "()V" } : Jvm.MethodName)) ∈ sm_tbl := sm_m0 22 rfl rfl
theorem wd_486 : (Jvm.Cond.code ({ cls := "QueryTables", name := "type", desc := "(C)Z" } : Jvm.MethodName) prog_1_method_2_code (2 : Nat) (Option.some Jvm.ClassFile.FieldType.boolean)) ∈ sm_tbl := sm_m1 154 rfl rfl
theorem wd_487 : (Jvm.Cond.instanceMethod ({ cls := "QueryTables", name := "type", desc := "(C)Z" } : Jvm.MethodName)) ∈ sm_tbl := sm_m1 152 rfl rfl
theorem wd_488 : (Jvm.Cond.selects "QueryTables" ({ cls := "QueryTables", name := "type", desc := "(C)Z" } : Jvm.MethodName) ({ cls := "QueryTables", name := "type", desc := "(C)Z" } : Jvm.MethodName)) ∈ sm_tbl := sm_m1 153 rfl rfl
theorem wd_489 : (Jvm.Cond.code ({ cls := "QueryTables", name := "erase", desc := "()Z" } : Jvm.MethodName) prog_1_method_3_code (1 : Nat) (Option.some Jvm.ClassFile.FieldType.boolean)) ∈ sm_tbl := sm_m1 158 rfl rfl
theorem wd_490 : (Jvm.Cond.instanceMethod ({ cls := "QueryTables", name := "erase", desc := "()Z" } : Jvm.MethodName)) ∈ sm_tbl := sm_m1 156 rfl rfl
theorem wd_491 : (Jvm.Cond.selects "QueryTables" ({ cls := "QueryTables", name := "erase", desc := "()Z" } : Jvm.MethodName) ({ cls := "QueryTables", name := "erase", desc := "()Z" } : Jvm.MethodName)) ∈ sm_tbl := sm_m1 157 rfl rfl
theorem wd_492 : (Jvm.Cond.code ({ cls := "QueryTables", name := "run", desc := "()I" } : Jvm.MethodName) prog_1_method_4_code (2 : Nat) (Option.some Jvm.ClassFile.FieldType.int)) ∈ sm_tbl := sm_m1 162 rfl rfl
theorem wd_493 : (Jvm.Cond.instanceMethod ({ cls := "QueryTables", name := "run", desc := "()I" } : Jvm.MethodName)) ∈ sm_tbl := sm_m1 160 rfl rfl
theorem wd_494 : (Jvm.Cond.selects "QueryTables" ({ cls := "QueryTables", name := "run", desc := "()I" } : Jvm.MethodName) ({ cls := "QueryTables", name := "run", desc := "()I" } : Jvm.MethodName)) ∈ sm_tbl := sm_m1 161 rfl rfl
theorem wd_495 : (Jvm.Cond.code ({ cls := "QueryTables", name := "length", desc := "()I" } : Jvm.MethodName) prog_1_method_5_code (1 : Nat) (Option.some Jvm.ClassFile.FieldType.int)) ∈ sm_tbl := sm_m4 7 rfl rfl
theorem wd_496 : (Jvm.Cond.instanceMethod ({ cls := "QueryTables", name := "length", desc := "()I" } : Jvm.MethodName)) ∈ sm_tbl := sm_m4 5 rfl rfl
theorem wd_497 : (Jvm.Cond.selects "QueryTables" ({ cls := "QueryTables", name := "length", desc := "()I" } : Jvm.MethodName) ({ cls := "QueryTables", name := "length", desc := "()I" } : Jvm.MethodName)) ∈ sm_tbl := sm_m4 6 rfl rfl
theorem wd_498 : (Jvm.Cond.code ({ cls := "QueryTables", name := "rows", desc := "()I" } : Jvm.MethodName) prog_1_method_6_code (1 : Nat) (Option.some Jvm.ClassFile.FieldType.int)) ∈ sm_tbl := sm_m4 11 rfl rfl
theorem wd_499 : (Jvm.Cond.instanceMethod ({ cls := "QueryTables", name := "rows", desc := "()I" } : Jvm.MethodName)) ∈ sm_tbl := sm_m4 9 rfl rfl
theorem wd_500 : (Jvm.Cond.selects "QueryTables" ({ cls := "QueryTables", name := "rows", desc := "()I" } : Jvm.MethodName) ({ cls := "QueryTables", name := "rows", desc := "()I" } : Jvm.MethodName)) ∈ sm_tbl := sm_m4 10 rfl rfl
theorem wd_501 : (Jvm.Cond.code ({ cls := "QueryTables", name := "width", desc := "()I" } : Jvm.MethodName) prog_1_method_7_code (1 : Nat) (Option.some Jvm.ClassFile.FieldType.int)) ∈ sm_tbl := sm_m4 15 rfl rfl
theorem wd_502 : (Jvm.Cond.instanceMethod ({ cls := "QueryTables", name := "width", desc := "()I" } : Jvm.MethodName)) ∈ sm_tbl := sm_m4 13 rfl rfl
theorem wd_503 : (Jvm.Cond.selects "QueryTables" ({ cls := "QueryTables", name := "width", desc := "()I" } : Jvm.MethodName) ({ cls := "QueryTables", name := "width", desc := "()I" } : Jvm.MethodName)) ∈ sm_tbl := sm_m4 14 rfl rfl
theorem wd_504 : (Jvm.Cond.code ({ cls := "QueryTables", name := "value", desc := "(II)J" } : Jvm.MethodName) prog_1_method_8_code (3 : Nat) (Option.some Jvm.ClassFile.FieldType.long)) ∈ sm_tbl := sm_m4 19 rfl rfl
theorem wd_505 : (Jvm.Cond.instanceMethod ({ cls := "QueryTables", name := "value", desc := "(II)J" } : Jvm.MethodName)) ∈ sm_tbl := sm_m4 17 rfl rfl
theorem wd_506 : (Jvm.Cond.selects "QueryTables" ({ cls := "QueryTables", name := "value", desc := "(II)J" } : Jvm.MethodName) ({ cls := "QueryTables", name := "value", desc := "(II)J" } : Jvm.MethodName)) ∈ sm_tbl := sm_m4 18 rfl rfl
theorem wd_507 : (Jvm.Cond.code ({ cls := "QueryTables", name := "reads", desc := "()I" } : Jvm.MethodName) prog_1_method_9_code (1 : Nat) (Option.some Jvm.ClassFile.FieldType.int)) ∈ sm_tbl := sm_m4 24 rfl rfl
theorem wd_508 : (Jvm.Cond.instanceMethod ({ cls := "QueryTables", name := "reads", desc := "()I" } : Jvm.MethodName)) ∈ sm_tbl := sm_m4 22 rfl rfl
theorem wd_509 : (Jvm.Cond.selects "QueryTables" ({ cls := "QueryTables", name := "reads", desc := "()I" } : Jvm.MethodName) ({ cls := "QueryTables", name := "reads", desc := "()I" } : Jvm.MethodName)) ∈ sm_tbl := sm_m4 23 rfl rfl
theorem wd_510 : (Jvm.Cond.code ({ cls := "QueryTables", name := "plan", desc := "()I" } : Jvm.MethodName) prog_1_method_10_code (1 : Nat) (Option.some Jvm.ClassFile.FieldType.int)) ∈ sm_tbl := sm_m4 28 rfl rfl
theorem wd_511 : (Jvm.Cond.instanceMethod ({ cls := "QueryTables", name := "plan", desc := "()I" } : Jvm.MethodName)) ∈ sm_tbl := sm_m4 26 rfl rfl
theorem wd_512 : (Jvm.Cond.selects "QueryTables" ({ cls := "QueryTables", name := "plan", desc := "()I" } : Jvm.MethodName) ({ cls := "QueryTables", name := "plan", desc := "()I" } : Jvm.MethodName)) ∈ sm_tbl := sm_m4 27 rfl rfl
theorem wd_513 : (Jvm.Cond.code ({ cls := "QueryTables", name := "columns", desc := "(I)I" } : Jvm.MethodName) prog_1_method_11_code (2 : Nat) (Option.some Jvm.ClassFile.FieldType.int)) ∈ sm_tbl := sm_m4 32 rfl rfl
theorem wd_514 : (Jvm.Cond.instanceMethod ({ cls := "QueryTables", name := "columns", desc := "(I)I" } : Jvm.MethodName)) ∈ sm_tbl := sm_m4 30 rfl rfl
theorem wd_515 : (Jvm.Cond.selects "QueryTables" ({ cls := "QueryTables", name := "columns", desc := "(I)I" } : Jvm.MethodName) ({ cls := "QueryTables", name := "columns", desc := "(I)I" } : Jvm.MethodName)) ∈ sm_tbl := sm_m4 31 rfl rfl
theorem wd_516 : (Jvm.Cond.code ({ cls := "QueryTables", name := "size", desc := "(I)I" } : Jvm.MethodName) prog_1_method_12_code (2 : Nat) (Option.some Jvm.ClassFile.FieldType.int)) ∈ sm_tbl := sm_m4 39 rfl rfl
theorem wd_517 : (Jvm.Cond.instanceMethod ({ cls := "QueryTables", name := "size", desc := "(I)I" } : Jvm.MethodName)) ∈ sm_tbl := sm_m4 37 rfl rfl
theorem wd_518 : (Jvm.Cond.selects "QueryTables" ({ cls := "QueryTables", name := "size", desc := "(I)I" } : Jvm.MethodName) ({ cls := "QueryTables", name := "size", desc := "(I)I" } : Jvm.MethodName)) ∈ sm_tbl := sm_m4 38 rfl rfl
theorem wd_519 : (Jvm.Cond.code ({ cls := "QueryTables", name := "indexed", desc := "(II)Z" } : Jvm.MethodName) prog_1_method_13_code (3 : Nat) (Option.some Jvm.ClassFile.FieldType.boolean)) ∈ sm_tbl := sm_m4 43 rfl rfl
theorem wd_520 : (Jvm.Cond.instanceMethod ({ cls := "QueryTables", name := "indexed", desc := "(II)Z" } : Jvm.MethodName)) ∈ sm_tbl := sm_m4 41 rfl rfl
theorem wd_521 : (Jvm.Cond.selects "QueryTables" ({ cls := "QueryTables", name := "indexed", desc := "(II)Z" } : Jvm.MethodName) ({ cls := "QueryTables", name := "indexed", desc := "(II)Z" } : Jvm.MethodName)) ∈ sm_tbl := sm_m4 42 rfl rfl
theorem wd_522 : (Jvm.Cond.code ({ cls := "QueryTables", name := "cell", desc := "(III)J" } : Jvm.MethodName) prog_1_method_14_code (4 : Nat) (Option.some Jvm.ClassFile.FieldType.long)) ∈ sm_tbl := sm_m4 48 rfl rfl
theorem wd_523 : (Jvm.Cond.instanceMethod ({ cls := "QueryTables", name := "cell", desc := "(III)J" } : Jvm.MethodName)) ∈ sm_tbl := sm_m4 46 rfl rfl
theorem wd_524 : (Jvm.Cond.selects "QueryTables" ({ cls := "QueryTables", name := "cell", desc := "(III)J" } : Jvm.MethodName) ({ cls := "QueryTables", name := "cell", desc := "(III)J" } : Jvm.MethodName)) ∈ sm_tbl := sm_m4 47 rfl rfl
theorem wd_525 : (Jvm.Cond.code ({ cls := "QueryTables", name := "count", desc := "(IIJ)I" } : Jvm.MethodName) prog_1_method_15_code (5 : Nat) (Option.some Jvm.ClassFile.FieldType.int)) ∈ sm_tbl := sm_m4 53 rfl rfl
theorem wd_526 : (Jvm.Cond.instanceMethod ({ cls := "QueryTables", name := "count", desc := "(IIJ)I" } : Jvm.MethodName)) ∈ sm_tbl := sm_m4 51 rfl rfl
theorem wd_527 : (Jvm.Cond.selects "QueryTables" ({ cls := "QueryTables", name := "count", desc := "(IIJ)I" } : Jvm.MethodName) ({ cls := "QueryTables", name := "count", desc := "(IIJ)I" } : Jvm.MethodName)) ∈ sm_tbl := sm_m4 52 rfl rfl
theorem wd_528 : (Jvm.Cond.code ({ cls := "QueryTables", name := "isTable", desc := "(I)Z" } : Jvm.MethodName) prog_1_method_16_code (1 : Nat) (Option.some Jvm.ClassFile.FieldType.boolean)) ∈ sm_tbl := sm_m4 35 rfl rfl
theorem wd_529 : (Jvm.Cond.static ({ cls := "QueryTables", name := "isTable", desc := "(I)Z" } : Jvm.MethodName)) ∈ sm_tbl := sm_m4 34 rfl rfl
theorem wd_530 : (Jvm.Cond.code ({ cls := "QueryTables", name := "forgetAnswers", desc := "()V" } : Jvm.MethodName) prog_1_method_17_code (1 : Nat) (Option.none : Option Jvm.ClassFile.FieldType)) ∈ sm_tbl := sm_m1 166 rfl rfl
theorem wd_531 : (Jvm.Cond.instanceMethod ({ cls := "QueryTables", name := "forgetAnswers", desc := "()V" } : Jvm.MethodName)) ∈ sm_tbl := sm_m1 165 rfl rfl
theorem wd_532 : (Jvm.Cond.code ({ cls := "QueryTables", name := "carryOut", desc := "()I" } : Jvm.MethodName) prog_1_method_18_code (4 : Nat) (Option.some Jvm.ClassFile.FieldType.int)) ∈ sm_tbl := sm_m2 218 rfl rfl
theorem wd_533 : (Jvm.Cond.instanceMethod ({ cls := "QueryTables", name := "carryOut", desc := "()I" } : Jvm.MethodName)) ∈ sm_tbl := sm_m2 217 rfl rfl
theorem wd_534 : (Jvm.Cond.code ({ cls := "QueryTables", name := "effect", desc := "(LQueryTables$Table;)I" } : Jvm.MethodName) prog_1_method_19_code (2 : Nat) (Option.some Jvm.ClassFile.FieldType.int)) ∈ sm_tbl := sm_m3 164 rfl rfl
theorem wd_535 : (Jvm.Cond.instanceMethod ({ cls := "QueryTables", name := "effect", desc := "(LQueryTables$Table;)I" } : Jvm.MethodName)) ∈ sm_tbl := sm_m3 163 rfl rfl
theorem wd_536 : (Jvm.Cond.code ({ cls := "QueryTables", name := "insert", desc := "(LQueryTables$Table;)I" } : Jvm.MethodName) prog_1_method_20_code (3 : Nat) (Option.some Jvm.ClassFile.FieldType.int)) ∈ sm_tbl := sm_m3 176 rfl rfl
theorem wd_537 : (Jvm.Cond.instanceMethod ({ cls := "QueryTables", name := "insert", desc := "(LQueryTables$Table;)I" } : Jvm.MethodName)) ∈ sm_tbl := sm_m3 175 rfl rfl
theorem wd_538 : (Jvm.Cond.code ({ cls := "QueryTables", name := "update", desc := "(LQueryTables$Table;)I" } : Jvm.MethodName) prog_1_method_21_code (3 : Nat) (Option.some Jvm.ClassFile.FieldType.int)) ∈ sm_tbl := sm_m3 206 rfl rfl
theorem wd_539 : (Jvm.Cond.instanceMethod ({ cls := "QueryTables", name := "update", desc := "(LQueryTables$Table;)I" } : Jvm.MethodName)) ∈ sm_tbl := sm_m3 205 rfl rfl
theorem wd_540 : (Jvm.Cond.code ({ cls := "QueryTables", name := "areKeys", desc := "([JI)Z" } : Jvm.MethodName) prog_1_method_22_code (4 : Nat) (Option.some Jvm.ClassFile.FieldType.boolean)) ∈ sm_tbl := sm_m3 218 rfl rfl
theorem wd_541 : (Jvm.Cond.static ({ cls := "QueryTables", name := "areKeys", desc := "([JI)Z" } : Jvm.MethodName)) ∈ sm_tbl := sm_m3 217 rfl rfl
theorem wd_542 : (Jvm.Cond.code ({ cls := "QueryTables", name := "delete", desc := "(LQueryTables$Table;)I" } : Jvm.MethodName) prog_1_method_23_code (3 : Nat) (Option.some Jvm.ClassFile.FieldType.int)) ∈ sm_tbl := sm_m3 226 rfl rfl
theorem wd_543 : (Jvm.Cond.instanceMethod ({ cls := "QueryTables", name := "delete", desc := "(LQueryTables$Table;)I" } : Jvm.MethodName)) ∈ sm_tbl := sm_m3 225 rfl rfl
theorem wd_544 : (Jvm.Cond.code ({ cls := "QueryTables", name := "select", desc := "()I" } : Jvm.MethodName) prog_1_method_24_code (3 : Nat) (Option.some Jvm.ClassFile.FieldType.int)) ∈ sm_tbl := sm_m3 237 rfl rfl
theorem wd_545 : (Jvm.Cond.instanceMethod ({ cls := "QueryTables", name := "select", desc := "()I" } : Jvm.MethodName)) ∈ sm_tbl := sm_m3 236 rfl rfl
theorem wd_546 : (Jvm.Cond.code ({ cls := "QueryTables$Table", name := "<init>", desc := "()V" } : Jvm.MethodName) prog_9_method_1_code (1 : Nat) (Option.none : Option Jvm.ClassFile.FieldType)) ∈ sm_tbl := sm_m0 32 rfl rfl
theorem wd_547 : (Jvm.Cond.initialized "QueryTables$Table") ∈ sm_tbl := sm_m0 2 rfl rfl
theorem wd_548 : (Jvm.Cond.instanceMethod ({ cls := "QueryTables$Table", name := "<init>", desc := "()V" } : Jvm.MethodName)) ∈ sm_tbl := sm_m0 31 rfl rfl
theorem wd_549 : (Jvm.Cond.code ({ cls := "QueryTables$Table", name := "isThere", desc := "()Z" } : Jvm.MethodName) prog_9_method_2_code (1 : Nat) (Option.some Jvm.ClassFile.FieldType.boolean)) ∈ sm_tbl := sm_m2 230 rfl rfl
theorem wd_550 : (Jvm.Cond.instanceMethod ({ cls := "QueryTables$Table", name := "isThere", desc := "()Z" } : Jvm.MethodName)) ∈ sm_tbl := sm_m2 228 rfl rfl
theorem wd_551 : (Jvm.Cond.selects "QueryTables$Table" ({ cls := "QueryTables$Table", name := "isThere", desc := "()Z" } : Jvm.MethodName) ({ cls := "QueryTables$Table", name := "isThere", desc := "()Z" } : Jvm.MethodName)) ∈ sm_tbl := sm_m2 229 rfl rfl
theorem wd_552 : (Jvm.Cond.code ({ cls := "QueryTables$Table", name := "hasColumn", desc := "(I)Z" } : Jvm.MethodName) prog_9_method_3_code (2 : Nat) (Option.some Jvm.ClassFile.FieldType.boolean)) ∈ sm_tbl := sm_m2 238 rfl rfl
theorem wd_553 : (Jvm.Cond.instanceMethod ({ cls := "QueryTables$Table", name := "hasColumn", desc := "(I)Z" } : Jvm.MethodName)) ∈ sm_tbl := sm_m2 236 rfl rfl
theorem wd_554 : (Jvm.Cond.selects "QueryTables$Table" ({ cls := "QueryTables$Table", name := "hasColumn", desc := "(I)Z" } : Jvm.MethodName) ({ cls := "QueryTables$Table", name := "hasColumn", desc := "(I)Z" } : Jvm.MethodName)) ∈ sm_tbl := sm_m2 237 rfl rfl
theorem wd_555 : (Jvm.Cond.code ({ cls := "QueryTables$Table", name := "hasIndex", desc := "(I)Z" } : Jvm.MethodName) prog_9_method_4_code (2 : Nat) (Option.some Jvm.ClassFile.FieldType.boolean)) ∈ sm_tbl := sm_m3 2 rfl rfl
theorem wd_556 : (Jvm.Cond.instanceMethod ({ cls := "QueryTables$Table", name := "hasIndex", desc := "(I)Z" } : Jvm.MethodName)) ∈ sm_tbl := sm_m3 0 rfl rfl
theorem wd_557 : (Jvm.Cond.selects "QueryTables$Table" ({ cls := "QueryTables$Table", name := "hasIndex", desc := "(I)Z" } : Jvm.MethodName) ({ cls := "QueryTables$Table", name := "hasIndex", desc := "(I)Z" } : Jvm.MethodName)) ∈ sm_tbl := sm_m3 1 rfl rfl
theorem wd_558 : (Jvm.Cond.code ({ cls := "QueryTables$Table", name := "get", desc := "(II)J" } : Jvm.MethodName) prog_9_method_5_code (4 : Nat) (Option.some Jvm.ClassFile.FieldType.long)) ∈ sm_tbl := sm_m3 102 rfl rfl
theorem wd_559 : (Jvm.Cond.instanceMethod ({ cls := "QueryTables$Table", name := "get", desc := "(II)J" } : Jvm.MethodName)) ∈ sm_tbl := sm_m3 100 rfl rfl
theorem wd_560 : (Jvm.Cond.selects "QueryTables$Table" ({ cls := "QueryTables$Table", name := "get", desc := "(II)J" } : Jvm.MethodName) ({ cls := "QueryTables$Table", name := "get", desc := "(II)J" } : Jvm.MethodName)) ∈ sm_tbl := sm_m3 101 rfl rfl
theorem wd_561 : (Jvm.Cond.code ({ cls := "QueryTables$Table", name := "rowsWith", desc := "(IJ)I" } : Jvm.MethodName) prog_9_method_6_code (6 : Nat) (Option.some Jvm.ClassFile.FieldType.int)) ∈ sm_tbl := sm_m3 190 rfl rfl
theorem wd_562 : (Jvm.Cond.instanceMethod ({ cls := "QueryTables$Table", name := "rowsWith", desc := "(IJ)I" } : Jvm.MethodName)) ∈ sm_tbl := sm_m3 188 rfl rfl
theorem wd_563 : (Jvm.Cond.selects "QueryTables$Table" ({ cls := "QueryTables$Table", name := "rowsWith", desc := "(IJ)I" } : Jvm.MethodName) ({ cls := "QueryTables$Table", name := "rowsWith", desc := "(IJ)I" } : Jvm.MethodName)) ∈ sm_tbl := sm_m3 189 rfl rfl
theorem wd_564 : (Jvm.Cond.code ({ cls := "QueryTables$Table", name := "make", desc := "(I)V" } : Jvm.MethodName) prog_9_method_7_code (2 : Nat) (Option.none : Option Jvm.ClassFile.FieldType)) ∈ sm_tbl := sm_m3 168 rfl rfl
theorem wd_565 : (Jvm.Cond.instanceMethod ({ cls := "QueryTables$Table", name := "make", desc := "(I)V" } : Jvm.MethodName)) ∈ sm_tbl := sm_m3 166 rfl rfl
theorem wd_566 : (Jvm.Cond.selects "QueryTables$Table" ({ cls := "QueryTables$Table", name := "make", desc := "(I)V" } : Jvm.MethodName) ({ cls := "QueryTables$Table", name := "make", desc := "(I)V" } : Jvm.MethodName)) ∈ sm_tbl := sm_m3 167 rfl rfl
theorem wd_567 : (Jvm.Cond.code ({ cls := "QueryTables$Table", name := "addIndex", desc := "(I)V" } : Jvm.MethodName) prog_9_method_8_code (2 : Nat) (Option.none : Option Jvm.ClassFile.FieldType)) ∈ sm_tbl := sm_m3 172 rfl rfl
theorem wd_568 : (Jvm.Cond.instanceMethod ({ cls := "QueryTables$Table", name := "addIndex", desc := "(I)V" } : Jvm.MethodName)) ∈ sm_tbl := sm_m3 170 rfl rfl
theorem wd_569 : (Jvm.Cond.selects "QueryTables$Table" ({ cls := "QueryTables$Table", name := "addIndex", desc := "(I)V" } : Jvm.MethodName) ({ cls := "QueryTables$Table", name := "addIndex", desc := "(I)V" } : Jvm.MethodName)) ∈ sm_tbl := sm_m3 171 rfl rfl
theorem wd_570 : (Jvm.Cond.code ({ cls := "QueryTables$Table", name := "addRow", desc := "([J)V" } : Jvm.MethodName) prog_9_method_9_code (3 : Nat) (Option.none : Option Jvm.ClassFile.FieldType)) ∈ sm_tbl := sm_m3 194 rfl rfl
theorem wd_571 : (Jvm.Cond.instanceMethod ({ cls := "QueryTables$Table", name := "addRow", desc := "([J)V" } : Jvm.MethodName)) ∈ sm_tbl := sm_m3 192 rfl rfl
theorem wd_572 : (Jvm.Cond.selects "QueryTables$Table" ({ cls := "QueryTables$Table", name := "addRow", desc := "([J)V" } : Jvm.MethodName) ({ cls := "QueryTables$Table", name := "addRow", desc := "([J)V" } : Jvm.MethodName)) ∈ sm_tbl := sm_m3 193 rfl rfl
theorem wd_573 : (Jvm.Cond.code ({ cls := "QueryTables$Table", name := "removeRow", desc := "(I)V" } : Jvm.MethodName) prog_9_method_10_code (3 : Nat) (Option.none : Option Jvm.ClassFile.FieldType)) ∈ sm_tbl := sm_m3 230 rfl rfl
theorem wd_574 : (Jvm.Cond.instanceMethod ({ cls := "QueryTables$Table", name := "removeRow", desc := "(I)V" } : Jvm.MethodName)) ∈ sm_tbl := sm_m3 228 rfl rfl
theorem wd_575 : (Jvm.Cond.selects "QueryTables$Table" ({ cls := "QueryTables$Table", name := "removeRow", desc := "(I)V" } : Jvm.MethodName) ({ cls := "QueryTables$Table", name := "removeRow", desc := "(I)V" } : Jvm.MethodName)) ∈ sm_tbl := sm_m3 229 rfl rfl
theorem wd_576 : (Jvm.Cond.code ({ cls := "QueryTables$Table", name := "copyColumn", desc := "(I[J)V" } : Jvm.MethodName) prog_9_method_11_code (4 : Nat) (Option.none : Option Jvm.ClassFile.FieldType)) ∈ sm_tbl := sm_m3 210 rfl rfl
theorem wd_577 : (Jvm.Cond.instanceMethod ({ cls := "QueryTables$Table", name := "copyColumn", desc := "(I[J)V" } : Jvm.MethodName)) ∈ sm_tbl := sm_m3 208 rfl rfl
theorem wd_578 : (Jvm.Cond.selects "QueryTables$Table" ({ cls := "QueryTables$Table", name := "copyColumn", desc := "(I[J)V" } : Jvm.MethodName) ({ cls := "QueryTables$Table", name := "copyColumn", desc := "(I[J)V" } : Jvm.MethodName)) ∈ sm_tbl := sm_m3 209 rfl rfl
theorem wd_579 : (Jvm.Cond.code ({ cls := "QueryTables$Table", name := "putColumn", desc := "(I[J)V" } : Jvm.MethodName) prog_9_method_12_code (4 : Nat) (Option.none : Option Jvm.ClassFile.FieldType)) ∈ sm_tbl := sm_m3 222 rfl rfl
theorem wd_580 : (Jvm.Cond.instanceMethod ({ cls := "QueryTables$Table", name := "putColumn", desc := "(I[J)V" } : Jvm.MethodName)) ∈ sm_tbl := sm_m3 220 rfl rfl
theorem wd_581 : (Jvm.Cond.selects "QueryTables$Table" ({ cls := "QueryTables$Table", name := "putColumn", desc := "(I[J)V" } : Jvm.MethodName) ({ cls := "QueryTables$Table", name := "putColumn", desc := "(I[J)V" } : Jvm.MethodName)) ∈ sm_tbl := sm_m3 221 rfl rfl
theorem wd_582 : (Jvm.Cond.code ({ cls := "QueryTables$Table", name := "sink", desc := "(I)V" } : Jvm.MethodName) prog_9_method_13_code (3 : Nat) (Option.none : Option Jvm.ClassFile.FieldType)) ∈ sm_tbl := sm_m3 198 rfl rfl
theorem wd_583 : (Jvm.Cond.instanceMethod ({ cls := "QueryTables$Table", name := "sink", desc := "(I)V" } : Jvm.MethodName)) ∈ sm_tbl := sm_m3 197 rfl rfl
theorem wd_584 : (Jvm.Cond.code ({ cls := "QueryTables$Table", name := "swapWithEarlier", desc := "(I)V" } : Jvm.MethodName) prog_9_method_14_code (5 : Nat) (Option.none : Option Jvm.ClassFile.FieldType)) ∈ sm_tbl := sm_m3 202 rfl rfl
theorem wd_585 : (Jvm.Cond.instanceMethod ({ cls := "QueryTables$Table", name := "swapWithEarlier", desc := "(I)V" } : Jvm.MethodName)) ∈ sm_tbl := sm_m3 201 rfl rfl
theorem wd_586 : (Jvm.Cond.code ({ cls := "QueryTables$Pair", name := "<init>", desc := "(LQueryTables$Table;)V" } : Jvm.MethodName) prog_5_method_1_code (2 : Nat) (Option.none : Option Jvm.ClassFile.FieldType)) ∈ sm_tbl := sm_m0 186 rfl rfl
theorem wd_587 : (Jvm.Cond.initialized "QueryTables$Pair") ∈ sm_tbl := sm_m0 5 rfl rfl
theorem wd_588 : (Jvm.Cond.instanceMethod ({ cls := "QueryTables$Pair", name := "<init>", desc := "(LQueryTables$Table;)V" } : Jvm.MethodName)) ∈ sm_tbl := sm_m0 185 rfl rfl
theorem wd_589 : (Jvm.Cond.code ({ cls := "QueryTables$Pair", name := "stand", desc := "(LQueryTables$Table;LQueryTables$Table;)V" } : Jvm.MethodName) prog_5_method_2_code (3 : Nat) (Option.none : Option Jvm.ClassFile.FieldType)) ∈ sm_tbl := sm_m3 31 rfl rfl
theorem wd_590 : (Jvm.Cond.instanceMethod ({ cls := "QueryTables$Pair", name := "stand", desc := "(LQueryTables$Table;LQueryTables$Table;)V" } : Jvm.MethodName)) ∈ sm_tbl := sm_m3 29 rfl rfl
theorem wd_591 : (Jvm.Cond.selects "QueryTables$Pair" ({ cls := "QueryTables$Pair", name := "stand", desc := "(LQueryTables$Table;LQueryTables$Table;)V" } : Jvm.MethodName) ({ cls := "QueryTables$Pair", name := "stand", desc := "(LQueryTables$Table;LQueryTables$Table;)V" } : Jvm.MethodName)) ∈ sm_tbl := sm_m3 30 rfl rfl
theorem wd_592 : (Jvm.Cond.code ({ cls := "QueryTables$Pair", name := "tableOf", desc := "(I)LQueryTables$Table;" } : Jvm.MethodName) prog_5_method_3_code (2 : Nat) (Option.some (Jvm.ClassFile.FieldType.object "QueryTables$Table"))) ∈ sm_tbl := sm_m3 39 rfl rfl
theorem wd_593 : (Jvm.Cond.instanceMethod ({ cls := "QueryTables$Pair", name := "tableOf", desc := "(I)LQueryTables$Table;" } : Jvm.MethodName)) ∈ sm_tbl := sm_m3 37 rfl rfl
theorem wd_594 : (Jvm.Cond.selects "QueryTables$Pair" ({ cls := "QueryTables$Pair", name := "tableOf", desc := "(I)LQueryTables$Table;" } : Jvm.MethodName) ({ cls := "QueryTables$Pair", name := "tableOf", desc := "(I)LQueryTables$Table;" } : Jvm.MethodName)) ∈ sm_tbl := sm_m3 38 rfl rfl
theorem wd_595 : (Jvm.Cond.code ({ cls := "QueryTables$Pair", name := "rowOf", desc := "(I)I" } : Jvm.MethodName) prog_5_method_4_code (2 : Nat) (Option.some Jvm.ClassFile.FieldType.int)) ∈ sm_tbl := sm_m3 98 rfl rfl
theorem wd_596 : (Jvm.Cond.instanceMethod ({ cls := "QueryTables$Pair", name := "rowOf", desc := "(I)I" } : Jvm.MethodName)) ∈ sm_tbl := sm_m3 96 rfl rfl
theorem wd_597 : (Jvm.Cond.selects "QueryTables$Pair" ({ cls := "QueryTables$Pair", name := "rowOf", desc := "(I)I" } : Jvm.MethodName) ({ cls := "QueryTables$Pair", name := "rowOf", desc := "(I)I" } : Jvm.MethodName)) ∈ sm_tbl := sm_m3 97 rfl rfl
theorem wd_598 : (Jvm.Cond.code ({ cls := "QueryTables$Pair", name := "move", desc := "(II)V" } : Jvm.MethodName) prog_5_method_5_code (3 : Nat) (Option.none : Option Jvm.ClassFile.FieldType)) ∈ sm_tbl := sm_m3 128 rfl rfl
theorem wd_599 : (Jvm.Cond.instanceMethod ({ cls := "QueryTables$Pair", name := "move", desc := "(II)V" } : Jvm.MethodName)) ∈ sm_tbl := sm_m3 126 rfl rfl
theorem wd_600 : (Jvm.Cond.selects "QueryTables$Pair" ({ cls := "QueryTables$Pair", name := "move", desc := "(II)V" } : Jvm.MethodName) ({ cls := "QueryTables$Pair", name := "move", desc := "(II)V" } : Jvm.MethodName)) ∈ sm_tbl := sm_m3 127 rfl rfl
theorem wd_601 : (Jvm.Cond.code ({ cls := "QueryTables$Code", name := "<init>", desc := "()V" } : Jvm.MethodName) prog_4_method_1_code (1 : Nat) (Option.none : Option Jvm.ClassFile.FieldType)) ∈ sm_tbl := sm_m0 156 rfl rfl
theorem wd_602 : (Jvm.Cond.initialized "QueryTables$Code") ∈ sm_tbl := sm_m0 4 rfl rfl
theorem wd_603 : (Jvm.Cond.instanceMethod ({ cls := "QueryTables$Code", name := "<init>", desc := "()V" } : Jvm.MethodName)) ∈ sm_tbl := sm_m0 155 rfl rfl
theorem wd_604 : (Jvm.Cond.code ({ cls := "QueryTables$Code", name := "clear", desc := "()V" } : Jvm.MethodName) prog_4_method_2_code (1 : Nat) (Option.none : Option Jvm.ClassFile.FieldType)) ∈ sm_tbl := sm_m1 179 rfl rfl
theorem wd_605 : (Jvm.Cond.instanceMethod ({ cls := "QueryTables$Code", name := "clear", desc := "()V" } : Jvm.MethodName)) ∈ sm_tbl := sm_m1 177 rfl rfl
theorem wd_606 : (Jvm.Cond.selects "QueryTables$Code" ({ cls := "QueryTables$Code", name := "clear", desc := "()V" } : Jvm.MethodName) ({ cls := "QueryTables$Code", name := "clear", desc := "()V" } : Jvm.MethodName)) ∈ sm_tbl := sm_m1 178 rfl rfl
theorem wd_607 : (Jvm.Cond.code ({ cls := "QueryTables$Code", name := "addOperator", desc := "(I)V" } : Jvm.MethodName) prog_4_method_3_code (2 : Nat) (Option.none : Option Jvm.ClassFile.FieldType)) ∈ sm_tbl := sm_m2 152 rfl rfl
theorem wd_608 : (Jvm.Cond.instanceMethod ({ cls := "QueryTables$Code", name := "addOperator", desc := "(I)V" } : Jvm.MethodName)) ∈ sm_tbl := sm_m2 150 rfl rfl
theorem wd_609 : (Jvm.Cond.selects "QueryTables$Code" ({ cls := "QueryTables$Code", name := "addOperator", desc := "(I)V" } : Jvm.MethodName) ({ cls := "QueryTables$Code", name := "addOperator", desc := "(I)V" } : Jvm.MethodName)) ∈ sm_tbl := sm_m2 151 rfl rfl
theorem wd_610 : (Jvm.Cond.code ({ cls := "QueryTables$Code", name := "add", desc := "(III)V" } : Jvm.MethodName) prog_4_method_4_code (4 : Nat) (Option.none : Option Jvm.ClassFile.FieldType)) ∈ sm_tbl := sm_m2 156 rfl rfl
theorem wd_611 : (Jvm.Cond.instanceMethod ({ cls := "QueryTables$Code", name := "add", desc := "(III)V" } : Jvm.MethodName)) ∈ sm_tbl := sm_m2 154 rfl rfl
theorem wd_612 : (Jvm.Cond.selects "QueryTables$Code" ({ cls := "QueryTables$Code", name := "add", desc := "(III)V" } : Jvm.MethodName) ({ cls := "QueryTables$Code", name := "add", desc := "(III)V" } : Jvm.MethodName)) ∈ sm_tbl := sm_m2 155 rfl rfl
theorem wd_613 : (Jvm.Cond.code ({ cls := "QueryTables$Code", name := "isColumn", desc := "(I)Z" } : Jvm.MethodName) prog_4_method_5_code (2 : Nat) (Option.some Jvm.ClassFile.FieldType.boolean)) ∈ sm_tbl := sm_m3 11 rfl rfl
theorem wd_614 : (Jvm.Cond.instanceMethod ({ cls := "QueryTables$Code", name := "isColumn", desc := "(I)Z" } : Jvm.MethodName)) ∈ sm_tbl := sm_m3 9 rfl rfl
theorem wd_615 : (Jvm.Cond.selects "QueryTables$Code" ({ cls := "QueryTables$Code", name := "isColumn", desc := "(I)Z" } : Jvm.MethodName) ({ cls := "QueryTables$Code", name := "isColumn", desc := "(I)Z" } : Jvm.MethodName)) ∈ sm_tbl := sm_m3 10 rfl rfl
theorem wd_616 : (Jvm.Cond.code ({ cls := "QueryTables$Code", name := "sidesIn", desc := "(II)I" } : Jvm.MethodName) prog_4_method_6_code (5 : Nat) (Option.some Jvm.ClassFile.FieldType.int)) ∈ sm_tbl := sm_m3 56 rfl rfl
theorem wd_617 : (Jvm.Cond.instanceMethod ({ cls := "QueryTables$Code", name := "sidesIn", desc := "(II)I" } : Jvm.MethodName)) ∈ sm_tbl := sm_m3 54 rfl rfl
theorem wd_618 : (Jvm.Cond.selects "QueryTables$Code" ({ cls := "QueryTables$Code", name := "sidesIn", desc := "(II)I" } : Jvm.MethodName) ({ cls := "QueryTables$Code", name := "sidesIn", desc := "(II)I" } : Jvm.MethodName)) ∈ sm_tbl := sm_m3 55 rfl rfl
theorem wd_619 : (Jvm.Cond.code ({ cls := "QueryTables$Code", name := "loneColumn", desc := "(III)I" } : Jvm.MethodName) prog_4_method_7_code (4 : Nat) (Option.some Jvm.ClassFile.FieldType.int)) ∈ sm_tbl := sm_m3 47 rfl rfl
theorem wd_620 : (Jvm.Cond.instanceMethod ({ cls := "QueryTables$Code", name := "loneColumn", desc := "(III)I" } : Jvm.MethodName)) ∈ sm_tbl := sm_m3 45 rfl rfl
theorem wd_621 : (Jvm.Cond.selects "QueryTables$Code" ({ cls := "QueryTables$Code", name := "loneColumn", desc := "(III)I" } : Jvm.MethodName) ({ cls := "QueryTables$Code", name := "loneColumn", desc := "(III)I" } : Jvm.MethodName)) ∈ sm_tbl := sm_m3 46 rfl rfl
theorem wd_622 : (Jvm.Cond.code ({ cls := "QueryTables$Code", name := "work", desc := "(IILQueryTables$Pair;)J" } : Jvm.MethodName) prog_4_method_8_code (7 : Nat) (Option.some Jvm.ClassFile.FieldType.long)) ∈ sm_tbl := sm_m3 85 rfl rfl
theorem wd_623 : (Jvm.Cond.instanceMethod ({ cls := "QueryTables$Code", name := "work", desc := "(IILQueryTables$Pair;)J" } : Jvm.MethodName)) ∈ sm_tbl := sm_m3 83 rfl rfl
theorem wd_624 : (Jvm.Cond.selects "QueryTables$Code" ({ cls := "QueryTables$Code", name := "work", desc := "(IILQueryTables$Pair;)J" } : Jvm.MethodName) ({ cls := "QueryTables$Code", name := "work", desc := "(IILQueryTables$Pair;)J" } : Jvm.MethodName)) ∈ sm_tbl := sm_m3 84 rfl rfl
theorem wd_625 : (Jvm.Cond.code ({ cls := "QueryTables$Code", name := "operandsOf", desc := "(I)I" } : Jvm.MethodName) prog_4_method_9_code (1 : Nat) (Option.some Jvm.ClassFile.FieldType.int)) ∈ sm_tbl := sm_m3 89 rfl rfl
theorem wd_626 : (Jvm.Cond.static ({ cls := "QueryTables$Code", name := "operandsOf", desc := "(I)I" } : Jvm.MethodName)) ∈ sm_tbl := sm_m3 88 rfl rfl
theorem wd_627 : (Jvm.Cond.code ({ cls := "QueryTables$Code", name := "leaf", desc := "(ILQueryTables$Pair;)J" } : Jvm.MethodName) prog_4_method_10_code (3 : Nat) (Option.some Jvm.ClassFile.FieldType.long)) ∈ sm_tbl := sm_m3 93 rfl rfl
theorem wd_628 : (Jvm.Cond.instanceMethod ({ cls := "QueryTables$Code", name := "leaf", desc := "(ILQueryTables$Pair;)J" } : Jvm.MethodName)) ∈ sm_tbl := sm_m3 92 rfl rfl
theorem wd_629 : (Jvm.Cond.code ({ cls := "QueryTables$Code", name := "turned", desc := "(IJ)J" } : Jvm.MethodName) prog_4_method_11_code (3 : Nat) (Option.some Jvm.ClassFile.FieldType.long)) ∈ sm_tbl := sm_m3 107 rfl rfl
theorem wd_630 : (Jvm.Cond.static ({ cls := "QueryTables$Code", name := "turned", desc := "(IJ)J" } : Jvm.MethodName)) ∈ sm_tbl := sm_m3 106 rfl rfl
theorem wd_631 : (Jvm.Cond.code ({ cls := "QueryTables$Code", name := "joined", desc := "(IJJ)J" } : Jvm.MethodName) prog_4_method_12_code (6 : Nat) (Option.some Jvm.ClassFile.FieldType.long)) ∈ sm_tbl := sm_m3 111 rfl rfl
theorem wd_632 : (Jvm.Cond.static ({ cls := "QueryTables$Code", name := "joined", desc := "(IJJ)J" } : Jvm.MethodName)) ∈ sm_tbl := sm_m3 110 rfl rfl
theorem wd_633 : (Jvm.Cond.code ({ cls := "QueryTables$Code", name := "compared", desc := "(IJJ)J" } : Jvm.MethodName) prog_4_method_13_code (6 : Nat) (Option.some Jvm.ClassFile.FieldType.long)) ∈ sm_tbl := sm_m3 120 rfl rfl
theorem wd_634 : (Jvm.Cond.static ({ cls := "QueryTables$Code", name := "compared", desc := "(IJJ)J" } : Jvm.MethodName)) ∈ sm_tbl := sm_m3 119 rfl rfl
theorem wd_635 : (Jvm.Cond.code ({ cls := "QueryTables$Code", name := "reckoned", desc := "(III)J" } : Jvm.MethodName) prog_4_method_14_code (3 : Nat) (Option.some Jvm.ClassFile.FieldType.long)) ∈ sm_tbl := sm_m3 123 rfl rfl
theorem wd_636 : (Jvm.Cond.static ({ cls := "QueryTables$Code", name := "reckoned", desc := "(III)J" } : Jvm.MethodName)) ∈ sm_tbl := sm_m3 122 rfl rfl
theorem wd_637 : (Jvm.Cond.code ({ cls := "QueryTables$Statement", name := "<init>", desc := "()V" } : Jvm.MethodName) prog_8_method_1_code (1 : Nat) (Option.none : Option Jvm.ClassFile.FieldType)) ∈ sm_tbl := sm_m0 59 rfl rfl
theorem wd_638 : (Jvm.Cond.initialized "QueryTables$Statement") ∈ sm_tbl := sm_m0 3 rfl rfl
theorem wd_639 : (Jvm.Cond.instanceMethod ({ cls := "QueryTables$Statement", name := "<init>", desc := "()V" } : Jvm.MethodName)) ∈ sm_tbl := sm_m0 58 rfl rfl
theorem wd_640 : (Jvm.Cond.code ({ cls := "QueryTables$Statement", name := "clear", desc := "()V" } : Jvm.MethodName) prog_8_method_2_code (1 : Nat) (Option.none : Option Jvm.ClassFile.FieldType)) ∈ sm_tbl := sm_m1 174 rfl rfl
theorem wd_641 : (Jvm.Cond.instanceMethod ({ cls := "QueryTables$Statement", name := "clear", desc := "()V" } : Jvm.MethodName)) ∈ sm_tbl := sm_m1 172 rfl rfl
theorem wd_642 : (Jvm.Cond.selects "QueryTables$Statement" ({ cls := "QueryTables$Statement", name := "clear", desc := "()V" } : Jvm.MethodName) ({ cls := "QueryTables$Statement", name := "clear", desc := "()V" } : Jvm.MethodName)) ∈ sm_tbl := sm_m1 173 rfl rfl
theorem wd_643 : (Jvm.Cond.code ({ cls := "QueryTables$Statement", name := "addListed", desc := "(I)V" } : Jvm.MethodName) prog_8_method_3_code (2 : Nat) (Option.none : Option Jvm.ClassFile.FieldType)) ∈ sm_tbl := sm_m2 165 rfl rfl
theorem wd_644 : (Jvm.Cond.instanceMethod ({ cls := "QueryTables$Statement", name := "addListed", desc := "(I)V" } : Jvm.MethodName)) ∈ sm_tbl := sm_m2 163 rfl rfl
theorem wd_645 : (Jvm.Cond.selects "QueryTables$Statement" ({ cls := "QueryTables$Statement", name := "addListed", desc := "(I)V" } : Jvm.MethodName) ({ cls := "QueryTables$Statement", name := "addListed", desc := "(I)V" } : Jvm.MethodName)) ∈ sm_tbl := sm_m2 164 rfl rfl
theorem wd_646 : (Jvm.Cond.code ({ cls := "QueryTables$Statement", name := "listFrom", desc := "(I)I" } : Jvm.MethodName) prog_8_method_4_code (2 : Nat) (Option.some Jvm.ClassFile.FieldType.int)) ∈ sm_tbl := sm_m3 180 rfl rfl
theorem wd_647 : (Jvm.Cond.instanceMethod ({ cls := "QueryTables$Statement", name := "listFrom", desc := "(I)I" } : Jvm.MethodName)) ∈ sm_tbl := sm_m3 178 rfl rfl
theorem wd_648 : (Jvm.Cond.selects "QueryTables$Statement" ({ cls := "QueryTables$Statement", name := "listFrom", desc := "(I)I" } : Jvm.MethodName) ({ cls := "QueryTables$Statement", name := "listFrom", desc := "(I)I" } : Jvm.MethodName)) ∈ sm_tbl := sm_m3 179 rfl rfl
theorem wd_649 : (Jvm.Cond.code ({ cls := "QueryTables$Statement", name := "listTo", desc := "(I)I" } : Jvm.MethodName) prog_8_method_5_code (2 : Nat) (Option.some Jvm.ClassFile.FieldType.int)) ∈ sm_tbl := sm_m3 184 rfl rfl
theorem wd_650 : (Jvm.Cond.instanceMethod ({ cls := "QueryTables$Statement", name := "listTo", desc := "(I)I" } : Jvm.MethodName)) ∈ sm_tbl := sm_m3 182 rfl rfl
theorem wd_651 : (Jvm.Cond.selects "QueryTables$Statement" ({ cls := "QueryTables$Statement", name := "listTo", desc := "(I)I" } : Jvm.MethodName) ({ cls := "QueryTables$Statement", name := "listTo", desc := "(I)I" } : Jvm.MethodName)) ∈ sm_tbl := sm_m3 183 rfl rfl
theorem wd_652 : (Jvm.Cond.code ({ cls := "QueryTables$Statement", name := "addPart", desc := "(III)V" } : Jvm.MethodName) prog_8_method_6_code (4 : Nat) (Option.none : Option Jvm.ClassFile.FieldType)) ∈ sm_tbl := sm_m2 193 rfl rfl
theorem wd_653 : (Jvm.Cond.instanceMethod ({ cls := "QueryTables$Statement", name := "addPart", desc := "(III)V" } : Jvm.MethodName)) ∈ sm_tbl := sm_m2 191 rfl rfl
theorem wd_654 : (Jvm.Cond.selects "QueryTables$Statement" ({ cls := "QueryTables$Statement", name := "addPart", desc := "(III)V" } : Jvm.MethodName) ({ cls := "QueryTables$Statement", name := "addPart", desc := "(III)V" } : Jvm.MethodName)) ∈ sm_tbl := sm_m2 192 rfl rfl
theorem wd_655 : (Jvm.Cond.code ({ cls := "QueryTables$Statement", name := "setOnlyPart", desc := "(II)V" } : Jvm.MethodName) prog_8_method_7_code (3 : Nat) (Option.none : Option Jvm.ClassFile.FieldType)) ∈ sm_tbl := sm_m2 197 rfl rfl
theorem wd_656 : (Jvm.Cond.instanceMethod ({ cls := "QueryTables$Statement", name := "setOnlyPart", desc := "(II)V" } : Jvm.MethodName)) ∈ sm_tbl := sm_m2 195 rfl rfl
theorem wd_657 : (Jvm.Cond.selects "QueryTables$Statement" ({ cls := "QueryTables$Statement", name := "setOnlyPart", desc := "(II)V" } : Jvm.MethodName) ({ cls := "QueryTables$Statement", name := "setOnlyPart", desc := "(II)V" } : Jvm.MethodName)) ∈ sm_tbl := sm_m2 196 rfl rfl
theorem wd_658 : (Jvm.Cond.code ({ cls := "QueryTables$Statement", name := "hasPlan", desc := "()Z" } : Jvm.MethodName) prog_8_method_8_code (1 : Nat) (Option.some Jvm.ClassFile.FieldType.boolean)) ∈ sm_tbl := sm_m3 27 rfl rfl
theorem wd_659 : (Jvm.Cond.instanceMethod ({ cls := "QueryTables$Statement", name := "hasPlan", desc := "()Z" } : Jvm.MethodName)) ∈ sm_tbl := sm_m3 25 rfl rfl
theorem wd_660 : (Jvm.Cond.selects "QueryTables$Statement" ({ cls := "QueryTables$Statement", name := "hasPlan", desc := "()Z" } : Jvm.MethodName) ({ cls := "QueryTables$Statement", name := "hasPlan", desc := "()Z" } : Jvm.MethodName)) ∈ sm_tbl := sm_m3 26 rfl rfl
theorem wd_661 : (Jvm.Cond.code ({ cls := "QueryTables$Statement", name := "hasWhere", desc := "()Z" } : Jvm.MethodName) prog_8_method_9_code (1 : Nat) (Option.some Jvm.ClassFile.FieldType.boolean)) ∈ sm_tbl := sm_m3 136 rfl rfl
theorem wd_662 : (Jvm.Cond.instanceMethod ({ cls := "QueryTables$Statement", name := "hasWhere", desc := "()Z" } : Jvm.MethodName)) ∈ sm_tbl := sm_m3 134 rfl rfl
theorem wd_663 : (Jvm.Cond.selects "QueryTables$Statement" ({ cls := "QueryTables$Statement", name := "hasWhere", desc := "()Z" } : Jvm.MethodName) ({ cls := "QueryTables$Statement", name := "hasWhere", desc := "()Z" } : Jvm.MethodName)) ∈ sm_tbl := sm_m3 135 rfl rfl
theorem wd_664 : (Jvm.Cond.code ({ cls := "QueryTables$Statement", name := "hasOrder", desc := "()Z" } : Jvm.MethodName) prog_8_method_10_code (1 : Nat) (Option.some Jvm.ClassFile.FieldType.boolean)) ∈ sm_tbl := sm_m3 141 rfl rfl
theorem wd_665 : (Jvm.Cond.instanceMethod ({ cls := "QueryTables$Statement", name := "hasOrder", desc := "()Z" } : Jvm.MethodName)) ∈ sm_tbl := sm_m3 139 rfl rfl
theorem wd_666 : (Jvm.Cond.selects "QueryTables$Statement" ({ cls := "QueryTables$Statement", name := "hasOrder", desc := "()Z" } : Jvm.MethodName) ({ cls := "QueryTables$Statement", name := "hasOrder", desc := "()Z" } : Jvm.MethodName)) ∈ sm_tbl := sm_m3 140 rfl rfl
theorem wd_667 : (Jvm.Cond.code ({ cls := "QueryTables$Tokens", name := "<init>", desc := "()V" } : Jvm.MethodName) prog_10_method_1_code (1 : Nat) (Option.none : Option Jvm.ClassFile.FieldType)) ∈ sm_tbl := sm_m0 208 rfl rfl
theorem wd_668 : (Jvm.Cond.initialized "QueryTables$Tokens") ∈ sm_tbl := sm_m0 7 rfl rfl
theorem wd_669 : (Jvm.Cond.instanceMethod ({ cls := "QueryTables$Tokens", name := "<init>", desc := "()V" } : Jvm.MethodName)) ∈ sm_tbl := sm_m0 207 rfl rfl
theorem wd_670 : (Jvm.Cond.code ({ cls := "QueryTables$Tokens", name := "split", desc := "([CI)Z" } : Jvm.MethodName) prog_10_method_2_code (4 : Nat) (Option.some Jvm.ClassFile.FieldType.boolean)) ∈ sm_tbl := sm_m1 183 rfl rfl
theorem wd_671 : (Jvm.Cond.instanceMethod ({ cls := "QueryTables$Tokens", name := "split", desc := "([CI)Z" } : Jvm.MethodName)) ∈ sm_tbl := sm_m1 181 rfl rfl
theorem wd_672 : (Jvm.Cond.selects "QueryTables$Tokens" ({ cls := "QueryTables$Tokens", name := "split", desc := "([CI)Z" } : Jvm.MethodName) ({ cls := "QueryTables$Tokens", name := "split", desc := "([CI)Z" } : Jvm.MethodName)) ∈ sm_tbl := sm_m1 182 rfl rfl
theorem wd_673 : (Jvm.Cond.code ({ cls := "QueryTables$Tokens", name := "next", desc := "()I" } : Jvm.MethodName) prog_10_method_3_code (1 : Nat) (Option.some Jvm.ClassFile.FieldType.int)) ∈ sm_tbl := sm_m2 108 rfl rfl
theorem wd_674 : (Jvm.Cond.instanceMethod ({ cls := "QueryTables$Tokens", name := "next", desc := "()I" } : Jvm.MethodName)) ∈ sm_tbl := sm_m2 106 rfl rfl
theorem wd_675 : (Jvm.Cond.selects "QueryTables$Tokens" ({ cls := "QueryTables$Tokens", name := "next", desc := "()I" } : Jvm.MethodName) ({ cls := "QueryTables$Tokens", name := "next", desc := "()I" } : Jvm.MethodName)) ∈ sm_tbl := sm_m2 107 rfl rfl
theorem wd_676 : (Jvm.Cond.code ({ cls := "QueryTables$Tokens", name := "accept", desc := "(I)Z" } : Jvm.MethodName) prog_10_method_4_code (2 : Nat) (Option.some Jvm.ClassFile.FieldType.boolean)) ∈ sm_tbl := sm_m2 112 rfl rfl
theorem wd_677 : (Jvm.Cond.instanceMethod ({ cls := "QueryTables$Tokens", name := "accept", desc := "(I)Z" } : Jvm.MethodName)) ∈ sm_tbl := sm_m2 110 rfl rfl
theorem wd_678 : (Jvm.Cond.selects "QueryTables$Tokens" ({ cls := "QueryTables$Tokens", name := "accept", desc := "(I)Z" } : Jvm.MethodName) ({ cls := "QueryTables$Tokens", name := "accept", desc := "(I)Z" } : Jvm.MethodName)) ∈ sm_tbl := sm_m2 111 rfl rfl
theorem wd_679 : (Jvm.Cond.code ({ cls := "QueryTables$Tokens", name := "taken", desc := "()I" } : Jvm.MethodName) prog_10_method_5_code (1 : Nat) (Option.some Jvm.ClassFile.FieldType.int)) ∈ sm_tbl := sm_m2 120 rfl rfl
theorem wd_680 : (Jvm.Cond.instanceMethod ({ cls := "QueryTables$Tokens", name := "taken", desc := "()I" } : Jvm.MethodName)) ∈ sm_tbl := sm_m2 118 rfl rfl
theorem wd_681 : (Jvm.Cond.selects "QueryTables$Tokens" ({ cls := "QueryTables$Tokens", name := "taken", desc := "()I" } : Jvm.MethodName) ({ cls := "QueryTables$Tokens", name := "taken", desc := "()I" } : Jvm.MethodName)) ∈ sm_tbl := sm_m2 119 rfl rfl
theorem wd_682 : (Jvm.Cond.code ({ cls := "QueryTables$Tokens", name := "isLetter", desc := "(C)Z" } : Jvm.MethodName) prog_10_method_6_code (1 : Nat) (Option.some Jvm.ClassFile.FieldType.boolean)) ∈ sm_tbl := sm_m1 189 rfl rfl
theorem wd_683 : (Jvm.Cond.static ({ cls := "QueryTables$Tokens", name := "isLetter", desc := "(C)Z" } : Jvm.MethodName)) ∈ sm_tbl := sm_m1 188 rfl rfl
theorem wd_684 : (Jvm.Cond.code ({ cls := "QueryTables$Tokens", name := "isDigit", desc := "(C)Z" } : Jvm.MethodName) prog_10_method_7_code (1 : Nat) (Option.some Jvm.ClassFile.FieldType.boolean)) ∈ sm_tbl := sm_m1 192 rfl rfl
theorem wd_685 : (Jvm.Cond.static ({ cls := "QueryTables$Tokens", name := "isDigit", desc := "(C)Z" } : Jvm.MethodName)) ∈ sm_tbl := sm_m1 191 rfl rfl
theorem wd_686 : (Jvm.Cond.code ({ cls := "QueryTables$Tokens", name := "goesOn", desc := "([CI)Z" } : Jvm.MethodName) prog_10_method_8_code (2 : Nat) (Option.some Jvm.ClassFile.FieldType.boolean)) ∈ sm_tbl := sm_m1 186 rfl rfl
theorem wd_687 : (Jvm.Cond.static ({ cls := "QueryTables$Tokens", name := "goesOn", desc := "([CI)Z" } : Jvm.MethodName)) ∈ sm_tbl := sm_m1 185 rfl rfl
theorem wd_688 : (Jvm.Cond.code ({ cls := "QueryTables$Tokens", name := "addToken", desc := "([CII)Z" } : Jvm.MethodName) prog_10_method_9_code (5 : Nat) (Option.some Jvm.ClassFile.FieldType.boolean)) ∈ sm_tbl := sm_m1 196 rfl rfl
theorem wd_689 : (Jvm.Cond.instanceMethod ({ cls := "QueryTables$Tokens", name := "addToken", desc := "([CII)Z" } : Jvm.MethodName)) ∈ sm_tbl := sm_m1 195 rfl rfl
theorem wd_690 : (Jvm.Cond.code ({ cls := "QueryTables$Tokens", name := "addNumber", desc := "([CII)Z" } : Jvm.MethodName) prog_10_method_10_code (6 : Nat) (Option.some Jvm.ClassFile.FieldType.boolean)) ∈ sm_tbl := sm_m2 40 rfl rfl
theorem wd_691 : (Jvm.Cond.instanceMethod ({ cls := "QueryTables$Tokens", name := "addNumber", desc := "([CII)Z" } : Jvm.MethodName)) ∈ sm_tbl := sm_m2 39 rfl rfl
theorem wd_692 : (Jvm.Cond.code ({ cls := "QueryTables$Tokens", name := "addWord", desc := "([CII)Z" } : Jvm.MethodName) prog_10_method_11_code (6 : Nat) (Option.some Jvm.ClassFile.FieldType.boolean)) ∈ sm_tbl := sm_m1 200 rfl rfl
theorem wd_693 : (Jvm.Cond.instanceMethod ({ cls := "QueryTables$Tokens", name := "addWord", desc := "([CII)Z" } : Jvm.MethodName)) ∈ sm_tbl := sm_m1 199 rfl rfl
theorem wd_694 : (Jvm.Cond.code ({ cls := "QueryTables$Tokens", name := "keep", desc := "(II)Z" } : Jvm.MethodName) prog_10_method_12_code (3 : Nat) (Option.some Jvm.ClassFile.FieldType.boolean)) ∈ sm_tbl := sm_m1 204 rfl rfl
theorem wd_695 : (Jvm.Cond.instanceMethod ({ cls := "QueryTables$Tokens", name := "keep", desc := "(II)Z" } : Jvm.MethodName)) ∈ sm_tbl := sm_m1 203 rfl rfl
theorem wd_696 : (Jvm.Cond.code ({ cls := "QueryTables$Tokens", name := "verbKind", desc := "([CII)I" } : Jvm.MethodName) prog_10_method_13_code (3 : Nat) (Option.some Jvm.ClassFile.FieldType.int)) ∈ sm_tbl := sm_m1 207 rfl rfl
theorem wd_697 : (Jvm.Cond.static ({ cls := "QueryTables$Tokens", name := "verbKind", desc := "([CII)I" } : Jvm.MethodName)) ∈ sm_tbl := sm_m1 206 rfl rfl
theorem wd_698 : (Jvm.Cond.code ({ cls := "QueryTables$Tokens", name := "innerWordKind", desc := "([CII)I" } : Jvm.MethodName) prog_10_method_14_code (3 : Nat) (Option.some Jvm.ClassFile.FieldType.int)) ∈ sm_tbl := sm_m2 27 rfl rfl
theorem wd_699 : (Jvm.Cond.static ({ cls := "QueryTables$Tokens", name := "innerWordKind", desc := "([CII)I" } : Jvm.MethodName)) ∈ sm_tbl := sm_m2 26 rfl rfl
theorem wd_700 : (Jvm.Cond.code ({ cls := "QueryTables$Tokens", name := "spells", desc := "([CIILjava/lang/String;)Z" } : Jvm.MethodName) prog_10_method_15_code (5 : Nat) (Option.some Jvm.ClassFile.FieldType.boolean)) ∈ sm_tbl := sm_m1 211 rfl rfl
theorem wd_701 : (Jvm.Cond.static ({ cls := "QueryTables$Tokens", name := "spells", desc := "([CIILjava/lang/String;)Z" } : Jvm.MethodName)) ∈ sm_tbl := sm_m1 210 rfl rfl
theorem wd_702 : (Jvm.Cond.code ({ cls := "QueryTables$Parser", name := "<init>", desc := "(LQueryTables$Statement;LQueryTables$Code;)V" } : Jvm.MethodName) prog_6_method_1_code (3 : Nat) (Option.none : Option Jvm.ClassFile.FieldType)) ∈ sm_tbl := sm_m0 202 rfl rfl
theorem wd_703 : (Jvm.Cond.initialized "QueryTables$Parser") ∈ sm_tbl := sm_m0 6 rfl rfl
theorem wd_704 : (Jvm.Cond.instanceMethod ({ cls := "QueryTables$Parser", name := "<init>", desc := "(LQueryTables$Statement;LQueryTables$Code;)V" } : Jvm.MethodName)) ∈ sm_tbl := sm_m0 201 rfl rfl
theorem wd_705 : (Jvm.Cond.code ({ cls := "QueryTables$Parser", name := "begin", desc := "([CI)Z" } : Jvm.MethodName) prog_6_method_2_code (3 : Nat) (Option.some Jvm.ClassFile.FieldType.boolean)) ∈ sm_tbl := sm_m1 170 rfl rfl
theorem wd_706 : (Jvm.Cond.instanceMethod ({ cls := "QueryTables$Parser", name := "begin", desc := "([CI)Z" } : Jvm.MethodName)) ∈ sm_tbl := sm_m1 168 rfl rfl
theorem wd_707 : (Jvm.Cond.selects "QueryTables$Parser" ({ cls := "QueryTables$Parser", name := "begin", desc := "([CI)Z" } : Jvm.MethodName) ({ cls := "QueryTables$Parser", name := "begin", desc := "([CI)Z" } : Jvm.MethodName)) ∈ sm_tbl := sm_m1 169 rfl rfl
theorem wd_708 : (Jvm.Cond.code ({ cls := "QueryTables$Parser", name := "isAtEnd", desc := "()Z" } : Jvm.MethodName) prog_6_method_3_code (1 : Nat) (Option.some Jvm.ClassFile.FieldType.boolean)) ∈ sm_tbl := sm_m2 214 rfl rfl
theorem wd_709 : (Jvm.Cond.instanceMethod ({ cls := "QueryTables$Parser", name := "isAtEnd", desc := "()Z" } : Jvm.MethodName)) ∈ sm_tbl := sm_m2 212 rfl rfl
theorem wd_710 : (Jvm.Cond.selects "QueryTables$Parser" ({ cls := "QueryTables$Parser", name := "isAtEnd", desc := "()Z" } : Jvm.MethodName) ({ cls := "QueryTables$Parser", name := "isAtEnd", desc := "()Z" } : Jvm.MethodName)) ∈ sm_tbl := sm_m2 213 rfl rfl
theorem wd_711 : (Jvm.Cond.code ({ cls := "QueryTables$Parser", name := "wholeStatement", desc := "()Z" } : Jvm.MethodName) prog_6_method_4_code (1 : Nat) (Option.some Jvm.ClassFile.FieldType.boolean)) ∈ sm_tbl := sm_m2 104 rfl rfl
theorem wd_712 : (Jvm.Cond.instanceMethod ({ cls := "QueryTables$Parser", name := "wholeStatement", desc := "()Z" } : Jvm.MethodName)) ∈ sm_tbl := sm_m2 102 rfl rfl
theorem wd_713 : (Jvm.Cond.selects "QueryTables$Parser" ({ cls := "QueryTables$Parser", name := "wholeStatement", desc := "()Z" } : Jvm.MethodName) ({ cls := "QueryTables$Parser", name := "wholeStatement", desc := "()Z" } : Jvm.MethodName)) ∈ sm_tbl := sm_m2 103 rfl rfl
theorem wd_714 : (Jvm.Cond.code ({ cls := "QueryTables$Parser", name := "firstTable", desc := "()Z" } : Jvm.MethodName) prog_6_method_5_code (1 : Nat) (Option.some Jvm.ClassFile.FieldType.boolean)) ∈ sm_tbl := sm_m2 116 rfl rfl
theorem wd_715 : (Jvm.Cond.instanceMethod ({ cls := "QueryTables$Parser", name := "firstTable", desc := "()Z" } : Jvm.MethodName)) ∈ sm_tbl := sm_m2 115 rfl rfl
theorem wd_716 : (Jvm.Cond.code ({ cls := "QueryTables$Parser", name := "secondTable", desc := "()Z" } : Jvm.MethodName) prog_6_method_6_code (1 : Nat) (Option.some Jvm.ClassFile.FieldType.boolean)) ∈ sm_tbl := sm_m2 202 rfl rfl
theorem wd_717 : (Jvm.Cond.instanceMethod ({ cls := "QueryTables$Parser", name := "secondTable", desc := "()Z" } : Jvm.MethodName)) ∈ sm_tbl := sm_m2 201 rfl rfl
theorem wd_718 : (Jvm.Cond.code ({ cls := "QueryTables$Parser", name := "number", desc := "()Z" } : Jvm.MethodName) prog_6_method_7_code (1 : Nat) (Option.some Jvm.ClassFile.FieldType.boolean)) ∈ sm_tbl := sm_m2 124 rfl rfl
theorem wd_719 : (Jvm.Cond.instanceMethod ({ cls := "QueryTables$Parser", name := "number", desc := "()Z" } : Jvm.MethodName)) ∈ sm_tbl := sm_m2 123 rfl rfl
theorem wd_720 : (Jvm.Cond.code ({ cls := "QueryTables$Parser", name := "column", desc := "()Z" } : Jvm.MethodName) prog_6_method_8_code (1 : Nat) (Option.some Jvm.ClassFile.FieldType.boolean)) ∈ sm_tbl := sm_m2 128 rfl rfl
theorem wd_721 : (Jvm.Cond.instanceMethod ({ cls := "QueryTables$Parser", name := "column", desc := "()Z" } : Jvm.MethodName)) ∈ sm_tbl := sm_m2 127 rfl rfl
theorem wd_722 : (Jvm.Cond.code ({ cls := "QueryTables$Parser", name := "list", desc := "()Z" } : Jvm.MethodName) prog_6_method_9_code (2 : Nat) (Option.some Jvm.ClassFile.FieldType.boolean)) ∈ sm_tbl := sm_m2 132 rfl rfl
theorem wd_723 : (Jvm.Cond.instanceMethod ({ cls := "QueryTables$Parser", name := "list", desc := "()Z" } : Jvm.MethodName)) ∈ sm_tbl := sm_m2 131 rfl rfl
theorem wd_724 : (Jvm.Cond.code ({ cls := "QueryTables$Parser", name := "listed", desc := "()Z" } : Jvm.MethodName) prog_6_method_10_code (1 : Nat) (Option.some Jvm.ClassFile.FieldType.boolean)) ∈ sm_tbl := sm_m2 136 rfl rfl
theorem wd_725 : (Jvm.Cond.instanceMethod ({ cls := "QueryTables$Parser", name := "listed", desc := "()Z" } : Jvm.MethodName)) ∈ sm_tbl := sm_m2 135 rfl rfl
theorem wd_726 : (Jvm.Cond.code ({ cls := "QueryTables$Parser", name := "where", desc := "()Z" } : Jvm.MethodName) prog_6_method_11_code (1 : Nat) (Option.some Jvm.ClassFile.FieldType.boolean)) ∈ sm_tbl := sm_m2 169 rfl rfl
theorem wd_727 : (Jvm.Cond.instanceMethod ({ cls := "QueryTables$Parser", name := "where", desc := "()Z" } : Jvm.MethodName)) ∈ sm_tbl := sm_m2 168 rfl rfl
theorem wd_728 : (Jvm.Cond.code ({ cls := "QueryTables$Parser", name := "order", desc := "()Z" } : Jvm.MethodName) prog_6_method_12_code (1 : Nat) (Option.some Jvm.ClassFile.FieldType.boolean)) ∈ sm_tbl := sm_m2 206 rfl rfl
theorem wd_729 : (Jvm.Cond.instanceMethod ({ cls := "QueryTables$Parser", name := "order", desc := "()Z" } : Jvm.MethodName)) ∈ sm_tbl := sm_m2 205 rfl rfl
theorem wd_730 : (Jvm.Cond.code ({ cls := "QueryTables$Parser", name := "limit", desc := "()Z" } : Jvm.MethodName) prog_6_method_13_code (1 : Nat) (Option.some Jvm.ClassFile.FieldType.boolean)) ∈ sm_tbl := sm_m2 210 rfl rfl
theorem wd_731 : (Jvm.Cond.instanceMethod ({ cls := "QueryTables$Parser", name := "limit", desc := "()Z" } : Jvm.MethodName)) ∈ sm_tbl := sm_m2 209 rfl rfl
theorem wd_732 : (Jvm.Cond.code ({ cls := "QueryTables$Parser", name := "expression", desc := "(I)Z" } : Jvm.MethodName) prog_6_method_14_code (4 : Nat) (Option.some Jvm.ClassFile.FieldType.boolean)) ∈ sm_tbl := sm_m2 140 rfl rfl
theorem wd_733 : (Jvm.Cond.instanceMethod ({ cls := "QueryTables$Parser", name := "expression", desc := "(I)Z" } : Jvm.MethodName)) ∈ sm_tbl := sm_m2 139 rfl rfl
theorem wd_734 : (Jvm.Cond.code ({ cls := "QueryTables$Parser", name := "product", desc := "(I)Z" } : Jvm.MethodName) prog_6_method_15_code (4 : Nat) (Option.some Jvm.ClassFile.FieldType.boolean)) ∈ sm_tbl := sm_m2 144 rfl rfl
theorem wd_735 : (Jvm.Cond.instanceMethod ({ cls := "QueryTables$Parser", name := "product", desc := "(I)Z" } : Jvm.MethodName)) ∈ sm_tbl := sm_m2 143 rfl rfl
theorem wd_736 : (Jvm.Cond.code ({ cls := "QueryTables$Parser", name := "factor", desc := "(I)Z" } : Jvm.MethodName) prog_6_method_16_code (2 : Nat) (Option.some Jvm.ClassFile.FieldType.boolean)) ∈ sm_tbl := sm_m2 148 rfl rfl
theorem wd_737 : (Jvm.Cond.instanceMethod ({ cls := "QueryTables$Parser", name := "factor", desc := "(I)Z" } : Jvm.MethodName)) ∈ sm_tbl := sm_m2 147 rfl rfl
theorem wd_738 : (Jvm.Cond.code ({ cls := "QueryTables$Parser", name := "columnOfTable", desc := "()Z" } : Jvm.MethodName) prog_6_method_17_code (2 : Nat) (Option.some Jvm.ClassFile.FieldType.boolean)) ∈ sm_tbl := sm_m2 161 rfl rfl
theorem wd_739 : (Jvm.Cond.instanceMethod ({ cls := "QueryTables$Parser", name := "columnOfTable", desc := "()Z" } : Jvm.MethodName)) ∈ sm_tbl := sm_m2 160 rfl rfl
theorem wd_740 : (Jvm.Cond.code ({ cls := "QueryTables$Parser", name := "condition", desc := "(I)Z" } : Jvm.MethodName) prog_6_method_18_code (5 : Nat) (Option.some Jvm.ClassFile.FieldType.boolean)) ∈ sm_tbl := sm_m2 173 rfl rfl
theorem wd_741 : (Jvm.Cond.instanceMethod ({ cls := "QueryTables$Parser", name := "condition", desc := "(I)Z" } : Jvm.MethodName)) ∈ sm_tbl := sm_m2 172 rfl rfl
theorem wd_742 : (Jvm.Cond.code ({ cls := "QueryTables$Parser", name := "conjunction", desc := "(I)Z" } : Jvm.MethodName) prog_6_method_19_code (3 : Nat) (Option.some Jvm.ClassFile.FieldType.boolean)) ∈ sm_tbl := sm_m2 177 rfl rfl
theorem wd_743 : (Jvm.Cond.instanceMethod ({ cls := "QueryTables$Parser", name := "conjunction", desc := "(I)Z" } : Jvm.MethodName)) ∈ sm_tbl := sm_m2 176 rfl rfl
theorem wd_744 : (Jvm.Cond.code ({ cls := "QueryTables$Parser", name := "part", desc := "(I)Z" } : Jvm.MethodName) prog_6_method_20_code (3 : Nat) (Option.some Jvm.ClassFile.FieldType.boolean)) ∈ sm_tbl := sm_m2 181 rfl rfl
theorem wd_745 : (Jvm.Cond.instanceMethod ({ cls := "QueryTables$Parser", name := "part", desc := "(I)Z" } : Jvm.MethodName)) ∈ sm_tbl := sm_m2 180 rfl rfl
theorem wd_746 : (Jvm.Cond.code ({ cls := "QueryTables$Parser", name := "negatable", desc := "(I)Z" } : Jvm.MethodName) prog_6_method_21_code (3 : Nat) (Option.some Jvm.ClassFile.FieldType.boolean)) ∈ sm_tbl := sm_m2 185 rfl rfl
theorem wd_747 : (Jvm.Cond.instanceMethod ({ cls := "QueryTables$Parser", name := "negatable", desc := "(I)Z" } : Jvm.MethodName)) ∈ sm_tbl := sm_m2 184 rfl rfl
theorem wd_748 : (Jvm.Cond.code ({ cls := "QueryTables$Parser", name := "comparison", desc := "(I)Z" } : Jvm.MethodName) prog_6_method_22_code (4 : Nat) (Option.some Jvm.ClassFile.FieldType.boolean)) ∈ sm_tbl := sm_m2 189 rfl rfl
theorem wd_749 : (Jvm.Cond.instanceMethod ({ cls := "QueryTables$Parser", name := "comparison", desc := "(I)Z" } : Jvm.MethodName)) ∈ sm_tbl := sm_m2 188 rfl rfl
theorem wd_750 : (Jvm.Cond.code ({ cls := "QueryTables$Checker", name := "<init>", desc := "([LQueryTables$Table;LQueryTables$Statement;LQueryTables$Code;)V" } : Jvm.MethodName) prog_3_method_1_code (4 : Nat) (Option.none : Option Jvm.ClassFile.FieldType)) ∈ sm_tbl := sm_m1 0 rfl rfl
theorem wd_751 : (Jvm.Cond.initialized "QueryTables$Checker") ∈ sm_tbl := sm_m0 8 rfl rfl
theorem wd_752 : (Jvm.Cond.instanceMethod ({ cls := "QueryTables$Checker", name := "<init>", desc := "([LQueryTables$Table;LQueryTables$Statement;LQueryTables$Code;)V" } : Jvm.MethodName)) ∈ sm_tbl := sm_m0 239 rfl rfl
theorem wd_753 : (Jvm.Cond.code ({ cls := "QueryTables$Checker", name := "fault", desc := "()I" } : Jvm.MethodName) prog_3_method_2_code (1 : Nat) (Option.some Jvm.ClassFile.FieldType.int)) ∈ sm_tbl := sm_m2 222 rfl rfl
theorem wd_754 : (Jvm.Cond.instanceMethod ({ cls := "QueryTables$Checker", name := "fault", desc := "()I" } : Jvm.MethodName)) ∈ sm_tbl := sm_m2 220 rfl rfl
theorem wd_755 : (Jvm.Cond.selects "QueryTables$Checker" ({ cls := "QueryTables$Checker", name := "fault", desc := "()I" } : Jvm.MethodName) ({ cls := "QueryTables$Checker", name := "fault", desc := "()I" } : Jvm.MethodName)) ∈ sm_tbl := sm_m2 221 rfl rfl
theorem wd_756 : (Jvm.Cond.code ({ cls := "QueryTables$Checker", name := "tablesFit", desc := "()Z" } : Jvm.MethodName) prog_3_method_3_code (2 : Nat) (Option.some Jvm.ClassFile.FieldType.boolean)) ∈ sm_tbl := sm_m2 226 rfl rfl
theorem wd_757 : (Jvm.Cond.instanceMethod ({ cls := "QueryTables$Checker", name := "tablesFit", desc := "()Z" } : Jvm.MethodName)) ∈ sm_tbl := sm_m2 225 rfl rfl
theorem wd_758 : (Jvm.Cond.code ({ cls := "QueryTables$Checker", name := "columnFits", desc := "()Z" } : Jvm.MethodName) prog_3_method_4_code (2 : Nat) (Option.some Jvm.ClassFile.FieldType.boolean)) ∈ sm_tbl := sm_m2 234 rfl rfl
theorem wd_759 : (Jvm.Cond.instanceMethod ({ cls := "QueryTables$Checker", name := "columnFits", desc := "()Z" } : Jvm.MethodName)) ∈ sm_tbl := sm_m2 233 rfl rfl
theorem wd_760 : (Jvm.Cond.code ({ cls := "QueryTables$Checker", name := "findSides", desc := "()Z" } : Jvm.MethodName) prog_3_method_5_code (3 : Nat) (Option.some Jvm.ClassFile.FieldType.boolean)) ∈ sm_tbl := sm_m3 7 rfl rfl
theorem wd_761 : (Jvm.Cond.instanceMethod ({ cls := "QueryTables$Checker", name := "findSides", desc := "()Z" } : Jvm.MethodName)) ∈ sm_tbl := sm_m3 6 rfl rfl
theorem wd_762 : (Jvm.Cond.code ({ cls := "QueryTables$Checker", name := "sideOf", desc := "(II)I" } : Jvm.MethodName) prog_3_method_6_code (5 : Nat) (Option.some Jvm.ClassFile.FieldType.int)) ∈ sm_tbl := sm_m3 15 rfl rfl
theorem wd_763 : (Jvm.Cond.instanceMethod ({ cls := "QueryTables$Checker", name := "sideOf", desc := "(II)I" } : Jvm.MethodName)) ∈ sm_tbl := sm_m3 14 rfl rfl
theorem wd_764 : (Jvm.Cond.code ({ cls := "QueryTables$Checker", name := "fits", desc := "(III)Z" } : Jvm.MethodName) prog_3_method_7_code (4 : Nat) (Option.some Jvm.ClassFile.FieldType.boolean)) ∈ sm_tbl := sm_m3 19 rfl rfl
theorem wd_765 : (Jvm.Cond.instanceMethod ({ cls := "QueryTables$Checker", name := "fits", desc := "(III)Z" } : Jvm.MethodName)) ∈ sm_tbl := sm_m3 18 rfl rfl
theorem wd_766 : (Jvm.Cond.code ({ cls := "QueryTables$Checker", name := "numbersFit", desc := "()Z" } : Jvm.MethodName) prog_3_method_8_code (1 : Nat) (Option.some Jvm.ClassFile.FieldType.boolean)) ∈ sm_tbl := sm_m3 23 rfl rfl
theorem wd_767 : (Jvm.Cond.instanceMethod ({ cls := "QueryTables$Checker", name := "numbersFit", desc := "()Z" } : Jvm.MethodName)) ∈ sm_tbl := sm_m3 22 rfl rfl
theorem wd_768 : (Jvm.Cond.code ({ cls := "QueryTables$Access", name := "<init>", desc := "(LQueryTables$Statement;LQueryTables$Code;II)V" } : Jvm.MethodName) prog_2_method_1_code (5 : Nat) (Option.none : Option Jvm.ClassFile.FieldType)) ∈ sm_tbl := sm_m1 22 rfl rfl
theorem wd_769 : (Jvm.Cond.initialized "QueryTables$Access") ∈ sm_tbl := sm_m0 10 rfl rfl
theorem wd_770 : (Jvm.Cond.instanceMethod ({ cls := "QueryTables$Access", name := "<init>", desc := "(LQueryTables$Statement;LQueryTables$Code;II)V" } : Jvm.MethodName)) ∈ sm_tbl := sm_m1 21 rfl rfl
theorem wd_771 : (Jvm.Cond.code ({ cls := "QueryTables$Access", name := "choose", desc := "(LQueryTables$Table;)V" } : Jvm.MethodName) prog_2_method_2_code (6 : Nat) (Option.none : Option Jvm.ClassFile.FieldType)) ∈ sm_tbl := sm_m3 43 rfl rfl
theorem wd_772 : (Jvm.Cond.instanceMethod ({ cls := "QueryTables$Access", name := "choose", desc := "(LQueryTables$Table;)V" } : Jvm.MethodName)) ∈ sm_tbl := sm_m3 41 rfl rfl
theorem wd_773 : (Jvm.Cond.selects "QueryTables$Access" ({ cls := "QueryTables$Access", name := "choose", desc := "(LQueryTables$Table;)V" } : Jvm.MethodName) ({ cls := "QueryTables$Access", name := "choose", desc := "(LQueryTables$Table;)V" } : Jvm.MethodName)) ∈ sm_tbl := sm_m3 42 rfl rfl
theorem wd_774 : (Jvm.Cond.code ({ cls := "QueryTables$Access", name := "consider", desc := "(LQueryTables$Table;III)V" } : Jvm.MethodName) prog_2_method_3_code (5 : Nat) (Option.none : Option Jvm.ClassFile.FieldType)) ∈ sm_tbl := sm_m3 52 rfl rfl
theorem wd_775 : (Jvm.Cond.instanceMethod ({ cls := "QueryTables$Access", name := "consider", desc := "(LQueryTables$Table;III)V" } : Jvm.MethodName)) ∈ sm_tbl := sm_m3 51 rfl rfl
theorem wd_776 : (Jvm.Cond.code ({ cls := "QueryTables$Access", name := "take", desc := "(IIII)V" } : Jvm.MethodName) prog_2_method_4_code (5 : Nat) (Option.none : Option Jvm.ClassFile.FieldType)) ∈ sm_tbl := sm_m3 60 rfl rfl
theorem wd_777 : (Jvm.Cond.instanceMethod ({ cls := "QueryTables$Access", name := "take", desc := "(IIII)V" } : Jvm.MethodName)) ∈ sm_tbl := sm_m3 59 rfl rfl
theorem wd_778 : (Jvm.Cond.code ({ cls := "QueryTables$Access", name := "expected", desc := "(LQueryTables$Table;)I" } : Jvm.MethodName) prog_2_method_5_code (2 : Nat) (Option.some Jvm.ClassFile.FieldType.int)) ∈ sm_tbl := sm_m3 69 rfl rfl
theorem wd_779 : (Jvm.Cond.instanceMethod ({ cls := "QueryTables$Access", name := "expected", desc := "(LQueryTables$Table;)I" } : Jvm.MethodName)) ∈ sm_tbl := sm_m3 67 rfl rfl
theorem wd_780 : (Jvm.Cond.selects "QueryTables$Access" ({ cls := "QueryTables$Access", name := "expected", desc := "(LQueryTables$Table;)I" } : Jvm.MethodName) ({ cls := "QueryTables$Access", name := "expected", desc := "(LQueryTables$Table;)I" } : Jvm.MethodName)) ∈ sm_tbl := sm_m3 68 rfl rfl
theorem wd_781 : (Jvm.Cond.code ({ cls := "QueryTables$Search", name := "<init>", desc := "(LQueryTables$Statement;LQueryTables$Code;LQueryTables$Pair;)V" } : Jvm.MethodName) prog_7_method_1_code (4 : Nat) (Option.none : Option Jvm.ClassFile.FieldType)) ∈ sm_tbl := sm_m1 16 rfl rfl
theorem wd_782 : (Jvm.Cond.initialized "QueryTables$Search") ∈ sm_tbl := sm_m0 9 rfl rfl
theorem wd_783 : (Jvm.Cond.instanceMethod ({ cls := "QueryTables$Search", name := "<init>", desc := "(LQueryTables$Statement;LQueryTables$Code;LQueryTables$Pair;)V" } : Jvm.MethodName)) ∈ sm_tbl := sm_m1 15 rfl rfl
theorem wd_784 : (Jvm.Cond.code ({ cls := "QueryTables$Search", name := "choosePlan", desc := "()V" } : Jvm.MethodName) prog_7_method_2_code (5 : Nat) (Option.none : Option Jvm.ClassFile.FieldType)) ∈ sm_tbl := sm_m3 35 rfl rfl
theorem wd_785 : (Jvm.Cond.instanceMethod ({ cls := "QueryTables$Search", name := "choosePlan", desc := "()V" } : Jvm.MethodName)) ∈ sm_tbl := sm_m3 33 rfl rfl
theorem wd_786 : (Jvm.Cond.selects "QueryTables$Search" ({ cls := "QueryTables$Search", name := "choosePlan", desc := "()V" } : Jvm.MethodName) ({ cls := "QueryTables$Search", name := "choosePlan", desc := "()V" } : Jvm.MethodName)) ∈ sm_tbl := sm_m3 34 rfl rfl
theorem wd_787 : (Jvm.Cond.code ({ cls := "QueryTables$Search", name := "cost", desc := "(II)I" } : Jvm.MethodName) prog_7_method_3_code (2 : Nat) (Option.some Jvm.ClassFile.FieldType.int)) ∈ sm_tbl := sm_m3 72 rfl rfl
theorem wd_788 : (Jvm.Cond.static ({ cls := "QueryTables$Search", name := "cost", desc := "(II)I" } : Jvm.MethodName)) ∈ sm_tbl := sm_m3 71 rfl rfl
theorem wd_789 : (Jvm.Cond.code ({ cls := "QueryTables$Search", name := "isOfTwo", desc := "()Z" } : Jvm.MethodName) prog_7_method_4_code (1 : Nat) (Option.some Jvm.ClassFile.FieldType.boolean)) ∈ sm_tbl := sm_m3 65 rfl rfl
theorem wd_790 : (Jvm.Cond.instanceMethod ({ cls := "QueryTables$Search", name := "isOfTwo", desc := "()Z" } : Jvm.MethodName)) ∈ sm_tbl := sm_m3 64 rfl rfl
theorem wd_791 : (Jvm.Cond.code ({ cls := "QueryTables$Search", name := "planNumber", desc := "()I" } : Jvm.MethodName) prog_7_method_5_code (1 : Nat) (Option.some Jvm.ClassFile.FieldType.int)) ∈ sm_tbl := sm_m4 2 rfl rfl
theorem wd_792 : (Jvm.Cond.instanceMethod ({ cls := "QueryTables$Search", name := "planNumber", desc := "()I" } : Jvm.MethodName)) ∈ sm_tbl := sm_m4 0 rfl rfl
theorem wd_793 : (Jvm.Cond.selects "QueryTables$Search" ({ cls := "QueryTables$Search", name := "planNumber", desc := "()I" } : Jvm.MethodName) ({ cls := "QueryTables$Search", name := "planNumber", desc := "()I" } : Jvm.MethodName)) ∈ sm_tbl := sm_m4 1 rfl rfl
theorem wd_794 : (Jvm.Cond.code ({ cls := "QueryTables$Search", name := "findAll", desc := "()V" } : Jvm.MethodName) prog_7_method_6_code (5 : Nat) (Option.none : Option Jvm.ClassFile.FieldType)) ∈ sm_tbl := sm_m3 76 rfl rfl
theorem wd_795 : (Jvm.Cond.instanceMethod ({ cls := "QueryTables$Search", name := "findAll", desc := "()V" } : Jvm.MethodName)) ∈ sm_tbl := sm_m3 74 rfl rfl
theorem wd_796 : (Jvm.Cond.selects "QueryTables$Search" ({ cls := "QueryTables$Search", name := "findAll", desc := "()V" } : Jvm.MethodName) ({ cls := "QueryTables$Search", name := "findAll", desc := "()V" } : Jvm.MethodName)) ∈ sm_tbl := sm_m3 75 rfl rfl
theorem wd_797 : (Jvm.Cond.code ({ cls := "QueryTables$Search", name := "fetch", desc := "(LQueryTables$Access;[I)I" } : Jvm.MethodName) prog_7_method_7_code (9 : Nat) (Option.some Jvm.ClassFile.FieldType.int)) ∈ sm_tbl := sm_m3 80 rfl rfl
theorem wd_798 : (Jvm.Cond.instanceMethod ({ cls := "QueryTables$Search", name := "fetch", desc := "(LQueryTables$Access;[I)I" } : Jvm.MethodName)) ∈ sm_tbl := sm_m3 79 rfl rfl
theorem wd_799 : (Jvm.Cond.code ({ cls := "QueryTables$Search", name := "outerRowHolds", desc := "()Z" } : Jvm.MethodName) prog_7_method_8_code (5 : Nat) (Option.some Jvm.ClassFile.FieldType.boolean)) ∈ sm_tbl := sm_m3 159 rfl rfl
theorem wd_800 : (Jvm.Cond.instanceMethod ({ cls := "QueryTables$Search", name := "outerRowHolds", desc := "()Z" } : Jvm.MethodName)) ∈ sm_tbl := sm_m3 158 rfl rfl
theorem wd_801 : (Jvm.Cond.code ({ cls := "QueryTables$Search", name := "keepIfFound", desc := "()V" } : Jvm.MethodName) prog_7_method_9_code (3 : Nat) (Option.none : Option Jvm.ClassFile.FieldType)) ∈ sm_tbl := sm_m3 132 rfl rfl
theorem wd_802 : (Jvm.Cond.instanceMethod ({ cls := "QueryTables$Search", name := "keepIfFound", desc := "()V" } : Jvm.MethodName)) ∈ sm_tbl := sm_m3 131 rfl rfl
theorem wd_803 : (Jvm.Cond.code ({ cls := "QueryTables$Search", name := "rank", desc := "(J)J" } : Jvm.MethodName) prog_7_method_10_code (5 : Nat) (Option.some Jvm.ClassFile.FieldType.long)) ∈ sm_tbl := sm_m3 145 rfl rfl
theorem wd_804 : (Jvm.Cond.instanceMethod ({ cls := "QueryTables$Search", name := "rank", desc := "(J)J" } : Jvm.MethodName)) ∈ sm_tbl := sm_m3 144 rfl rfl
theorem wd_805 : (Jvm.Cond.code ({ cls := "QueryTables$Search", name := "putInOrder", desc := "(JII)V" } : Jvm.MethodName) prog_7_method_11_code (6 : Nat) (Option.none : Option Jvm.ClassFile.FieldType)) ∈ sm_tbl := sm_m3 151 rfl rfl
theorem wd_806 : (Jvm.Cond.instanceMethod ({ cls := "QueryTables$Search", name := "putInOrder", desc := "(JII)V" } : Jvm.MethodName)) ∈ sm_tbl := sm_m3 150 rfl rfl
theorem wd_807 : (Jvm.Cond.code ({ cls := "QueryTables$Search", name := "comesBefore", desc := "(JIII)Z" } : Jvm.MethodName) prog_7_method_12_code (6 : Nat) (Option.some Jvm.ClassFile.FieldType.boolean)) ∈ sm_tbl := sm_m3 155 rfl rfl
theorem wd_808 : (Jvm.Cond.instanceMethod ({ cls := "QueryTables$Search", name := "comesBefore", desc := "(JIII)Z" } : Jvm.MethodName)) ∈ sm_tbl := sm_m3 154 rfl rfl
theorem wd_809 : (Jvm.Cond.code ({ cls := "QueryTables$Search", name := "goTo", desc := "(I)V" } : Jvm.MethodName) prog_7_method_13_code (2 : Nat) (Option.none : Option Jvm.ClassFile.FieldType)) ∈ sm_tbl := sm_m3 214 rfl rfl
theorem wd_810 : (Jvm.Cond.instanceMethod ({ cls := "QueryTables$Search", name := "goTo", desc := "(I)V" } : Jvm.MethodName)) ∈ sm_tbl := sm_m3 212 rfl rfl
theorem wd_811 : (Jvm.Cond.selects "QueryTables$Search" ({ cls := "QueryTables$Search", name := "goTo", desc := "(I)V" } : Jvm.MethodName) ({ cls := "QueryTables$Search", name := "goTo", desc := "(I)V" } : Jvm.MethodName)) ∈ sm_tbl := sm_m3 213 rfl rfl
theorem wd_812 : (Jvm.Cond.code ({ cls := "QueryTablesModel", name := "<init>", desc := "()V" } : Jvm.MethodName) prog_12_method_1_code (1 : Nat) (Option.none : Option Jvm.ClassFile.FieldType)) ∈ sm_tbl := sm_m4 59 rfl rfl
theorem wd_813 : (Jvm.Cond.initialized "QueryTablesModel") ∈ sm_tbl := sm_m0 11 rfl rfl
theorem wd_814 : (Jvm.Cond.instanceMethod ({ cls := "QueryTablesModel", name := "<init>", desc := "()V" } : Jvm.MethodName)) ∈ sm_tbl := sm_m4 58 rfl rfl
theorem wd_815 : (Jvm.Cond.code ({ cls := "QueryTablesModel", name := "type", desc := "(C)Z" } : Jvm.MethodName) prog_12_method_2_code (2 : Nat) (Option.some Jvm.ClassFile.FieldType.boolean)) ∈ sm_tbl := sm_m5 2 rfl rfl
theorem wd_816 : (Jvm.Cond.instanceMethod ({ cls := "QueryTablesModel", name := "type", desc := "(C)Z" } : Jvm.MethodName)) ∈ sm_tbl := sm_m5 0 rfl rfl
theorem wd_817 : (Jvm.Cond.selects "QueryTablesModel" ({ cls := "QueryTablesModel", name := "type", desc := "(C)Z" } : Jvm.MethodName) ({ cls := "QueryTablesModel", name := "type", desc := "(C)Z" } : Jvm.MethodName)) ∈ sm_tbl := sm_m5 1 rfl rfl
theorem wd_818 : (Jvm.Cond.code ({ cls := "QueryTablesModel", name := "erase", desc := "()Z" } : Jvm.MethodName) prog_12_method_3_code (1 : Nat) (Option.some Jvm.ClassFile.FieldType.boolean)) ∈ sm_tbl := sm_m5 6 rfl rfl
theorem wd_819 : (Jvm.Cond.instanceMethod ({ cls := "QueryTablesModel", name := "erase", desc := "()Z" } : Jvm.MethodName)) ∈ sm_tbl := sm_m5 4 rfl rfl
theorem wd_820 : (Jvm.Cond.selects "QueryTablesModel" ({ cls := "QueryTablesModel", name := "erase", desc := "()Z" } : Jvm.MethodName) ({ cls := "QueryTablesModel", name := "erase", desc := "()Z" } : Jvm.MethodName)) ∈ sm_tbl := sm_m5 5 rfl rfl
theorem wd_821 : (Jvm.Cond.code ({ cls := "QueryTablesModel", name := "length", desc := "()I" } : Jvm.MethodName) prog_12_method_4_code (1 : Nat) (Option.some Jvm.ClassFile.FieldType.int)) ∈ sm_tbl := sm_m5 10 rfl rfl
theorem wd_822 : (Jvm.Cond.instanceMethod ({ cls := "QueryTablesModel", name := "length", desc := "()I" } : Jvm.MethodName)) ∈ sm_tbl := sm_m5 8 rfl rfl
theorem wd_823 : (Jvm.Cond.selects "QueryTablesModel" ({ cls := "QueryTablesModel", name := "length", desc := "()I" } : Jvm.MethodName) ({ cls := "QueryTablesModel", name := "length", desc := "()I" } : Jvm.MethodName)) ∈ sm_tbl := sm_m5 9 rfl rfl
theorem wd_824 : (Jvm.Cond.code ({ cls := "QueryTablesModel", name := "letter", desc := "(C)Z" } : Jvm.MethodName) prog_12_method_5_code (1 : Nat) (Option.some Jvm.ClassFile.FieldType.boolean)) ∈ sm_tbl := sm_m5 25 rfl rfl
theorem wd_825 : (Jvm.Cond.static ({ cls := "QueryTablesModel", name := "letter", desc := "(C)Z" } : Jvm.MethodName)) ∈ sm_tbl := sm_m5 24 rfl rfl
theorem wd_826 : (Jvm.Cond.code ({ cls := "QueryTablesModel", name := "digit", desc := "(C)Z" } : Jvm.MethodName) prog_12_method_6_code (1 : Nat) (Option.some Jvm.ClassFile.FieldType.boolean)) ∈ sm_tbl := sm_m5 28 rfl rfl
theorem wd_827 : (Jvm.Cond.static ({ cls := "QueryTablesModel", name := "digit", desc := "(C)Z" } : Jvm.MethodName)) ∈ sm_tbl := sm_m5 27 rfl rfl
theorem wd_828 : (Jvm.Cond.code ({ cls := "QueryTablesModel", name := "sign", desc := "(C)Z" } : Jvm.MethodName) prog_12_method_7_code (1 : Nat) (Option.some Jvm.ClassFile.FieldType.boolean)) ∈ sm_tbl := sm_m5 31 rfl rfl
theorem wd_829 : (Jvm.Cond.static ({ cls := "QueryTablesModel", name := "sign", desc := "(C)Z" } : Jvm.MethodName)) ∈ sm_tbl := sm_m5 30 rfl rfl
theorem wd_830 : (Jvm.Cond.code ({ cls := "QueryTablesModel", name := "split", desc := "()V" } : Jvm.MethodName) prog_12_method_8_code (6 : Nat) (Option.none : Option Jvm.ClassFile.FieldType)) ∈ sm_tbl := sm_m5 22 rfl rfl
theorem wd_831 : (Jvm.Cond.instanceMethod ({ cls := "QueryTablesModel", name := "split", desc := "()V" } : Jvm.MethodName)) ∈ sm_tbl := sm_m5 21 rfl rfl
theorem wd_832 : (Jvm.Cond.code ({ cls := "QueryTablesModel", name := "word", desc := "(IIIIII)I" } : Jvm.MethodName) prog_12_method_9_code (7 : Nat) (Option.some Jvm.ClassFile.FieldType.int)) ∈ sm_tbl := sm_m5 38 rfl rfl
theorem wd_833 : (Jvm.Cond.static ({ cls := "QueryTablesModel", name := "word", desc := "(IIIIII)I" } : Jvm.MethodName)) ∈ sm_tbl := sm_m5 37 rfl rfl
theorem wd_834 : (Jvm.Cond.code ({ cls := "QueryTablesModel", name := "isSign", desc := "(I)Z" } : Jvm.MethodName) prog_12_method_10_code (2 : Nat) (Option.some Jvm.ClassFile.FieldType.boolean)) ∈ sm_tbl := sm_m5 66 rfl rfl
theorem wd_835 : (Jvm.Cond.instanceMethod ({ cls := "QueryTablesModel", name := "isSign", desc := "(I)Z" } : Jvm.MethodName)) ∈ sm_tbl := sm_m5 65 rfl rfl
theorem wd_836 : (Jvm.Cond.code ({ cls := "QueryTablesModel", name := "takeSign", desc := "(I)Z" } : Jvm.MethodName) prog_12_method_11_code (3 : Nat) (Option.some Jvm.ClassFile.FieldType.boolean)) ∈ sm_tbl := sm_m5 78 rfl rfl
theorem wd_837 : (Jvm.Cond.instanceMethod ({ cls := "QueryTablesModel", name := "takeSign", desc := "(I)Z" } : Jvm.MethodName)) ∈ sm_tbl := sm_m5 77 rfl rfl
theorem wd_838 : (Jvm.Cond.code ({ cls := "QueryTablesModel", name := "takeWord", desc := "(I)Z" } : Jvm.MethodName) prog_12_method_12_code (3 : Nat) (Option.some Jvm.ClassFile.FieldType.boolean)) ∈ sm_tbl := sm_m5 82 rfl rfl
theorem wd_839 : (Jvm.Cond.instanceMethod ({ cls := "QueryTablesModel", name := "takeWord", desc := "(I)Z" } : Jvm.MethodName)) ∈ sm_tbl := sm_m5 81 rfl rfl
theorem wd_840 : (Jvm.Cond.code ({ cls := "QueryTablesModel", name := "take", desc := "(I)I" } : Jvm.MethodName) prog_12_method_13_code (4 : Nat) (Option.some Jvm.ClassFile.FieldType.int)) ∈ sm_tbl := sm_m5 46 rfl rfl
theorem wd_841 : (Jvm.Cond.instanceMethod ({ cls := "QueryTablesModel", name := "take", desc := "(I)I" } : Jvm.MethodName)) ∈ sm_tbl := sm_m5 45 rfl rfl
theorem wd_842 : (Jvm.Cond.code ({ cls := "QueryTablesModel", name := "takeColumn", desc := "()I" } : Jvm.MethodName) prog_12_method_14_code (2 : Nat) (Option.some Jvm.ClassFile.FieldType.int)) ∈ sm_tbl := sm_m5 50 rfl rfl
theorem wd_843 : (Jvm.Cond.instanceMethod ({ cls := "QueryTablesModel", name := "takeColumn", desc := "()I" } : Jvm.MethodName)) ∈ sm_tbl := sm_m5 49 rfl rfl
theorem wd_844 : (Jvm.Cond.code ({ cls := "QueryTablesModel", name := "emit", desc := "(II)V" } : Jvm.MethodName) prog_12_method_15_code (3 : Nat) (Option.none : Option Jvm.ClassFile.FieldType)) ∈ sm_tbl := sm_m5 74 rfl rfl
theorem wd_845 : (Jvm.Cond.instanceMethod ({ cls := "QueryTablesModel", name := "emit", desc := "(II)V" } : Jvm.MethodName)) ∈ sm_tbl := sm_m5 73 rfl rfl
theorem wd_846 : (Jvm.Cond.code ({ cls := "QueryTablesModel", name := "nest", desc := "(I)V" } : Jvm.MethodName) prog_12_method_16_code (2 : Nat) (Option.none : Option Jvm.ClassFile.FieldType)) ∈ sm_tbl := sm_m5 70 rfl rfl
theorem wd_847 : (Jvm.Cond.instanceMethod ({ cls := "QueryTablesModel", name := "nest", desc := "(I)V" } : Jvm.MethodName)) ∈ sm_tbl := sm_m5 69 rfl rfl
theorem wd_848 : (Jvm.Cond.code ({ cls := "QueryTablesModel", name := "top", desc := "()I" } : Jvm.MethodName) prog_12_method_17_code (1 : Nat) (Option.some Jvm.ClassFile.FieldType.int)) ∈ sm_tbl := sm_m5 90 rfl rfl
theorem wd_849 : (Jvm.Cond.instanceMethod ({ cls := "QueryTablesModel", name := "top", desc := "()I" } : Jvm.MethodName)) ∈ sm_tbl := sm_m5 89 rfl rfl
theorem wd_850 : (Jvm.Cond.code ({ cls := "QueryTablesModel", name := "signs", desc := "()V" } : Jvm.MethodName) prog_12_method_18_code (1 : Nat) (Option.none : Option Jvm.ClassFile.FieldType)) ∈ sm_tbl := sm_m5 86 rfl rfl
theorem wd_851 : (Jvm.Cond.instanceMethod ({ cls := "QueryTablesModel", name := "signs", desc := "()V" } : Jvm.MethodName)) ∈ sm_tbl := sm_m5 85 rfl rfl
theorem wd_852 : (Jvm.Cond.code ({ cls := "QueryTablesModel", name := "operand", desc := "()V" } : Jvm.MethodName) prog_12_method_19_code (3 : Nat) (Option.none : Option Jvm.ClassFile.FieldType)) ∈ sm_tbl := sm_m5 62 rfl rfl
theorem wd_853 : (Jvm.Cond.instanceMethod ({ cls := "QueryTablesModel", name := "operand", desc := "()V" } : Jvm.MethodName)) ∈ sm_tbl := sm_m5 61 rfl rfl
theorem wd_854 : (Jvm.Cond.code ({ cls := "QueryTablesModel", name := "operator", desc := "()Z" } : Jvm.MethodName) prog_12_method_20_code (4 : Nat) (Option.some Jvm.ClassFile.FieldType.boolean)) ∈ sm_tbl := sm_m5 94 rfl rfl
theorem wd_855 : (Jvm.Cond.instanceMethod ({ cls := "QueryTablesModel", name := "operator", desc := "()Z" } : Jvm.MethodName)) ∈ sm_tbl := sm_m5 93 rfl rfl
theorem wd_856 : (Jvm.Cond.code ({ cls := "QueryTablesModel", name := "expression", desc := "()V" } : Jvm.MethodName) prog_12_method_21_code (2 : Nat) (Option.none : Option Jvm.ClassFile.FieldType)) ∈ sm_tbl := sm_m5 58 rfl rfl
theorem wd_857 : (Jvm.Cond.instanceMethod ({ cls := "QueryTablesModel", name := "expression", desc := "()V" } : Jvm.MethodName)) ∈ sm_tbl := sm_m5 57 rfl rfl
theorem wd_858 : (Jvm.Cond.code ({ cls := "QueryTablesModel", name := "unhold", desc := "()V" } : Jvm.MethodName) prog_12_method_22_code (1 : Nat) (Option.none : Option Jvm.ClassFile.FieldType)) ∈ sm_tbl := sm_m5 118 rfl rfl
theorem wd_859 : (Jvm.Cond.instanceMethod ({ cls := "QueryTablesModel", name := "unhold", desc := "()V" } : Jvm.MethodName)) ∈ sm_tbl := sm_m5 117 rfl rfl
theorem wd_860 : (Jvm.Cond.code ({ cls := "QueryTablesModel", name := "keep", desc := "(I)V" } : Jvm.MethodName) prog_12_method_23_code (2 : Nat) (Option.none : Option Jvm.ClassFile.FieldType)) ∈ sm_tbl := sm_m5 110 rfl rfl
theorem wd_861 : (Jvm.Cond.instanceMethod ({ cls := "QueryTablesModel", name := "keep", desc := "(I)V" } : Jvm.MethodName)) ∈ sm_tbl := sm_m5 109 rfl rfl
theorem wd_862 : (Jvm.Cond.code ({ cls := "QueryTablesModel", name := "complete", desc := "()V" } : Jvm.MethodName) prog_12_method_24_code (1 : Nat) (Option.none : Option Jvm.ClassFile.FieldType)) ∈ sm_tbl := sm_m5 114 rfl rfl
theorem wd_863 : (Jvm.Cond.instanceMethod ({ cls := "QueryTablesModel", name := "complete", desc := "()V" } : Jvm.MethodName)) ∈ sm_tbl := sm_m5 113 rfl rfl
theorem wd_864 : (Jvm.Cond.code ({ cls := "QueryTablesModel", name := "test", desc := "()V" } : Jvm.MethodName) prog_12_method_25_code (3 : Nat) (Option.none : Option Jvm.ClassFile.FieldType)) ∈ sm_tbl := sm_m5 106 rfl rfl
theorem wd_865 : (Jvm.Cond.instanceMethod ({ cls := "QueryTablesModel", name := "test", desc := "()V" } : Jvm.MethodName)) ∈ sm_tbl := sm_m5 105 rfl rfl
theorem wd_866 : (Jvm.Cond.code ({ cls := "QueryTablesModel", name := "connect", desc := "()Z" } : Jvm.MethodName) prog_12_method_26_code (4 : Nat) (Option.some Jvm.ClassFile.FieldType.boolean)) ∈ sm_tbl := sm_m5 122 rfl rfl
theorem wd_867 : (Jvm.Cond.instanceMethod ({ cls := "QueryTablesModel", name := "connect", desc := "()Z" } : Jvm.MethodName)) ∈ sm_tbl := sm_m5 121 rfl rfl
theorem wd_868 : (Jvm.Cond.code ({ cls := "QueryTablesModel", name := "condition", desc := "()V" } : Jvm.MethodName) prog_12_method_27_code (3 : Nat) (Option.none : Option Jvm.ClassFile.FieldType)) ∈ sm_tbl := sm_m5 102 rfl rfl
theorem wd_869 : (Jvm.Cond.instanceMethod ({ cls := "QueryTablesModel", name := "condition", desc := "()V" } : Jvm.MethodName)) ∈ sm_tbl := sm_m5 101 rfl rfl
theorem wd_870 : (Jvm.Cond.code ({ cls := "QueryTablesModel", name := "term", desc := "()V" } : Jvm.MethodName) prog_12_method_28_code (2 : Nat) (Option.none : Option Jvm.ClassFile.FieldType)) ∈ sm_tbl := sm_m5 54 rfl rfl
theorem wd_871 : (Jvm.Cond.instanceMethod ({ cls := "QueryTablesModel", name := "term", desc := "()V" } : Jvm.MethodName)) ∈ sm_tbl := sm_m5 53 rfl rfl
theorem wd_872 : (Jvm.Cond.code ({ cls := "QueryTablesModel", name := "name", desc := "()V" } : Jvm.MethodName) prog_12_method_29_code (1 : Nat) (Option.none : Option Jvm.ClassFile.FieldType)) ∈ sm_tbl := sm_m5 42 rfl rfl
theorem wd_873 : (Jvm.Cond.instanceMethod ({ cls := "QueryTablesModel", name := "name", desc := "()V" } : Jvm.MethodName)) ∈ sm_tbl := sm_m5 41 rfl rfl
theorem wd_874 : (Jvm.Cond.code ({ cls := "QueryTablesModel", name := "begin", desc := "()V" } : Jvm.MethodName) prog_12_method_30_code (1 : Nat) (Option.none : Option Jvm.ClassFile.FieldType)) ∈ sm_tbl := sm_m5 18 rfl rfl
theorem wd_875 : (Jvm.Cond.instanceMethod ({ cls := "QueryTablesModel", name := "begin", desc := "()V" } : Jvm.MethodName)) ∈ sm_tbl := sm_m5 17 rfl rfl
theorem wd_876 : (Jvm.Cond.code ({ cls := "QueryTablesModel", name := "perhapsWhere", desc := "()V" } : Jvm.MethodName) prog_12_method_31_code (1 : Nat) (Option.none : Option Jvm.ClassFile.FieldType)) ∈ sm_tbl := sm_m5 98 rfl rfl
theorem wd_877 : (Jvm.Cond.instanceMethod ({ cls := "QueryTablesModel", name := "perhapsWhere", desc := "()V" } : Jvm.MethodName)) ∈ sm_tbl := sm_m5 97 rfl rfl
theorem wd_878 : (Jvm.Cond.code ({ cls := "QueryTablesModel", name := "statement", desc := "()V" } : Jvm.MethodName) prog_12_method_32_code (1 : Nat) (Option.none : Option Jvm.ClassFile.FieldType)) ∈ sm_tbl := sm_m5 35 rfl rfl
theorem wd_879 : (Jvm.Cond.instanceMethod ({ cls := "QueryTablesModel", name := "statement", desc := "()V" } : Jvm.MethodName)) ∈ sm_tbl := sm_m5 34 rfl rfl
theorem wd_880 : (Jvm.Cond.code ({ cls := "QueryTablesModel", name := "selection", desc := "()V" } : Jvm.MethodName) prog_12_method_33_code (1 : Nat) (Option.none : Option Jvm.ClassFile.FieldType)) ∈ sm_tbl := sm_m5 126 rfl rfl
theorem wd_881 : (Jvm.Cond.instanceMethod ({ cls := "QueryTablesModel", name := "selection", desc := "()V" } : Jvm.MethodName)) ∈ sm_tbl := sm_m5 125 rfl rfl
theorem wd_882 : (Jvm.Cond.code ({ cls := "QueryTablesModel", name := "known", desc := "()Z" } : Jvm.MethodName) prog_12_method_34_code (6 : Nat) (Option.some Jvm.ClassFile.FieldType.boolean)) ∈ sm_tbl := sm_m5 130 rfl rfl
theorem wd_883 : (Jvm.Cond.instanceMethod ({ cls := "QueryTablesModel", name := "known", desc := "()Z" } : Jvm.MethodName)) ∈ sm_tbl := sm_m5 129 rfl rfl
theorem wd_884 : (Jvm.Cond.code ({ cls := "QueryTablesModel", name := "place", desc := "(I)Z" } : Jvm.MethodName) prog_12_method_35_code (6 : Nat) (Option.some Jvm.ClassFile.FieldType.boolean)) ∈ sm_tbl := sm_m5 134 rfl rfl
theorem wd_885 : (Jvm.Cond.instanceMethod ({ cls := "QueryTablesModel", name := "place", desc := "(I)Z" } : Jvm.MethodName)) ∈ sm_tbl := sm_m5 133 rfl rfl
theorem wd_886 : (Jvm.Cond.code ({ cls := "QueryTablesModel", name := "run", desc := "()I" } : Jvm.MethodName) prog_12_method_36_code (2 : Nat) (Option.some Jvm.ClassFile.FieldType.int)) ∈ sm_tbl := sm_m5 14 rfl rfl
theorem wd_887 : (Jvm.Cond.instanceMethod ({ cls := "QueryTablesModel", name := "run", desc := "()I" } : Jvm.MethodName)) ∈ sm_tbl := sm_m5 12 rfl rfl
theorem wd_888 : (Jvm.Cond.selects "QueryTablesModel" ({ cls := "QueryTablesModel", name := "run", desc := "()I" } : Jvm.MethodName) ({ cls := "QueryTablesModel", name := "run", desc := "()I" } : Jvm.MethodName)) ∈ sm_tbl := sm_m5 13 rfl rfl
theorem wd_889 : (Jvm.Cond.code ({ cls := "QueryTablesModel", name := "worked", desc := "(II)J" } : Jvm.MethodName) prog_12_method_37_code (8 : Nat) (Option.some Jvm.ClassFile.FieldType.long)) ∈ sm_tbl := sm_m5 142 rfl rfl
theorem wd_890 : (Jvm.Cond.instanceMethod ({ cls := "QueryTablesModel", name := "worked", desc := "(II)J" } : Jvm.MethodName)) ∈ sm_tbl := sm_m5 141 rfl rfl
theorem wd_891 : (Jvm.Cond.code ({ cls := "QueryTablesModel", name := "joined", desc := "(IJJ)J" } : Jvm.MethodName) prog_12_method_38_code (5 : Nat) (Option.some Jvm.ClassFile.FieldType.long)) ∈ sm_tbl := sm_m5 146 rfl rfl
theorem wd_892 : (Jvm.Cond.static ({ cls := "QueryTablesModel", name := "joined", desc := "(IJJ)J" } : Jvm.MethodName)) ∈ sm_tbl := sm_m5 145 rfl rfl
theorem wd_893 : (Jvm.Cond.code ({ cls := "QueryTablesModel", name := "holdsTrue", desc := "()Z" } : Jvm.MethodName) prog_12_method_39_code (1 : Nat) (Option.some Jvm.ClassFile.FieldType.boolean)) ∈ sm_tbl := sm_m5 154 rfl rfl
theorem wd_894 : (Jvm.Cond.instanceMethod ({ cls := "QueryTablesModel", name := "holdsTrue", desc := "()Z" } : Jvm.MethodName)) ∈ sm_tbl := sm_m5 153 rfl rfl
theorem wd_895 : (Jvm.Cond.code ({ cls := "QueryTablesModel", name := "tablesIn", desc := "(II)I" } : Jvm.MethodName) prog_12_method_40_code (5 : Nat) (Option.some Jvm.ClassFile.FieldType.int)) ∈ sm_tbl := sm_m5 187 rfl rfl
theorem wd_896 : (Jvm.Cond.instanceMethod ({ cls := "QueryTablesModel", name := "tablesIn", desc := "(II)I" } : Jvm.MethodName)) ∈ sm_tbl := sm_m5 186 rfl rfl
theorem wd_897 : (Jvm.Cond.code ({ cls := "QueryTablesModel", name := "only", desc := "(IIIZ)Z" } : Jvm.MethodName) prog_12_method_41_code (5 : Nat) (Option.some Jvm.ClassFile.FieldType.boolean)) ∈ sm_tbl := sm_m5 183 rfl rfl
theorem wd_898 : (Jvm.Cond.instanceMethod ({ cls := "QueryTablesModel", name := "only", desc := "(IIIZ)Z" } : Jvm.MethodName)) ∈ sm_tbl := sm_m5 182 rfl rfl
theorem wd_899 : (Jvm.Cond.code ({ cls := "QueryTablesModel", name := "fixing", desc := "(IIZ)I" } : Jvm.MethodName) prog_12_method_42_code (5 : Nat) (Option.some Jvm.ClassFile.FieldType.int)) ∈ sm_tbl := sm_m5 175 rfl rfl
theorem wd_900 : (Jvm.Cond.instanceMethod ({ cls := "QueryTablesModel", name := "fixing", desc := "(IIZ)I" } : Jvm.MethodName)) ∈ sm_tbl := sm_m5 174 rfl rfl
theorem wd_901 : (Jvm.Cond.code ({ cls := "QueryTablesModel", name := "side", desc := "(IIIZ)I" } : Jvm.MethodName) prog_12_method_43_code (8 : Nat) (Option.some Jvm.ClassFile.FieldType.int)) ∈ sm_tbl := sm_m5 179 rfl rfl
theorem wd_902 : (Jvm.Cond.instanceMethod ({ cls := "QueryTablesModel", name := "side", desc := "(IIIZ)I" } : Jvm.MethodName)) ∈ sm_tbl := sm_m5 178 rfl rfl
theorem wd_903 : (Jvm.Cond.code ({ cls := "QueryTablesModel", name := "access", desc := "(II)I" } : Jvm.MethodName) prog_12_method_44_code (3 : Nat) (Option.some Jvm.ClassFile.FieldType.int)) ∈ sm_tbl := sm_m5 171 rfl rfl
theorem wd_904 : (Jvm.Cond.instanceMethod ({ cls := "QueryTablesModel", name := "access", desc := "(II)I" } : Jvm.MethodName)) ∈ sm_tbl := sm_m5 170 rfl rfl
theorem wd_905 : (Jvm.Cond.code ({ cls := "QueryTablesModel", name := "cost", desc := "(II)I" } : Jvm.MethodName) prog_12_method_45_code (3 : Nat) (Option.some Jvm.ClassFile.FieldType.int)) ∈ sm_tbl := sm_m5 199 rfl rfl
theorem wd_906 : (Jvm.Cond.instanceMethod ({ cls := "QueryTablesModel", name := "cost", desc := "(II)I" } : Jvm.MethodName)) ∈ sm_tbl := sm_m5 198 rfl rfl
theorem wd_907 : (Jvm.Cond.code ({ cls := "QueryTablesModel", name := "fetched", desc := "(IIIII)Z" } : Jvm.MethodName) prog_12_method_46_code (13 : Nat) (Option.some Jvm.ClassFile.FieldType.boolean)) ∈ sm_tbl := sm_m5 191 rfl rfl
theorem wd_908 : (Jvm.Cond.instanceMethod ({ cls := "QueryTablesModel", name := "fetched", desc := "(IIIII)Z" } : Jvm.MethodName)) ∈ sm_tbl := sm_m5 190 rfl rfl
theorem wd_909 : (Jvm.Cond.code ({ cls := "QueryTablesModel", name := "fetchOne", desc := "(I)V" } : Jvm.MethodName) prog_12_method_47_code (4 : Nat) (Option.none : Option Jvm.ClassFile.FieldType)) ∈ sm_tbl := sm_m5 167 rfl rfl
theorem wd_910 : (Jvm.Cond.instanceMethod ({ cls := "QueryTablesModel", name := "fetchOne", desc := "(I)V" } : Jvm.MethodName)) ∈ sm_tbl := sm_m5 166 rfl rfl
theorem wd_911 : (Jvm.Cond.code ({ cls := "QueryTablesModel", name := "fetchTwo", desc := "()V" } : Jvm.MethodName) prog_12_method_48_code (10 : Nat) (Option.none : Option Jvm.ClassFile.FieldType)) ∈ sm_tbl := sm_m5 195 rfl rfl
theorem wd_912 : (Jvm.Cond.instanceMethod ({ cls := "QueryTablesModel", name := "fetchTwo", desc := "()V" } : Jvm.MethodName)) ∈ sm_tbl := sm_m5 194 rfl rfl
theorem wd_913 : (Jvm.Cond.code ({ cls := "QueryTablesModel", name := "fetchBoth", desc := "(II)V" } : Jvm.MethodName) prog_12_method_49_code (10 : Nat) (Option.none : Option Jvm.ClassFile.FieldType)) ∈ sm_tbl := sm_m5 203 rfl rfl
theorem wd_914 : (Jvm.Cond.instanceMethod ({ cls := "QueryTablesModel", name := "fetchBoth", desc := "(II)V" } : Jvm.MethodName)) ∈ sm_tbl := sm_m5 202 rfl rfl
theorem wd_915 : (Jvm.Cond.code ({ cls := "QueryTablesModel", name := "insert", desc := "(I)I" } : Jvm.MethodName) prog_12_method_50_code (5 : Nat) (Option.some Jvm.ClassFile.FieldType.int)) ∈ sm_tbl := sm_m5 138 rfl rfl
theorem wd_916 : (Jvm.Cond.instanceMethod ({ cls := "QueryTablesModel", name := "insert", desc := "(I)I" } : Jvm.MethodName)) ∈ sm_tbl := sm_m5 137 rfl rfl
theorem wd_917 : (Jvm.Cond.code ({ cls := "QueryTablesModel", name := "mark", desc := "(I)V" } : Jvm.MethodName) prog_12_method_51_code (3 : Nat) (Option.none : Option Jvm.ClassFile.FieldType)) ∈ sm_tbl := sm_m5 207 rfl rfl
theorem wd_918 : (Jvm.Cond.instanceMethod ({ cls := "QueryTablesModel", name := "mark", desc := "(I)V" } : Jvm.MethodName)) ∈ sm_tbl := sm_m5 206 rfl rfl
theorem wd_919 : (Jvm.Cond.code ({ cls := "QueryTablesModel", name := "update", desc := "(I)I" } : Jvm.MethodName) prog_12_method_52_code (6 : Nat) (Option.some Jvm.ClassFile.FieldType.int)) ∈ sm_tbl := sm_m5 211 rfl rfl
theorem wd_920 : (Jvm.Cond.instanceMethod ({ cls := "QueryTablesModel", name := "update", desc := "(I)I" } : Jvm.MethodName)) ∈ sm_tbl := sm_m5 210 rfl rfl
theorem wd_921 : (Jvm.Cond.code ({ cls := "QueryTablesModel", name := "remove", desc := "(I)V" } : Jvm.MethodName) prog_12_method_53_code (5 : Nat) (Option.none : Option Jvm.ClassFile.FieldType)) ∈ sm_tbl := sm_m5 215 rfl rfl
theorem wd_922 : (Jvm.Cond.instanceMethod ({ cls := "QueryTablesModel", name := "remove", desc := "(I)V" } : Jvm.MethodName)) ∈ sm_tbl := sm_m5 214 rfl rfl
theorem wd_923 : (Jvm.Cond.code ({ cls := "QueryTablesModel", name := "choose", desc := "()I" } : Jvm.MethodName) prog_12_method_54_code (6 : Nat) (Option.some Jvm.ClassFile.FieldType.int)) ∈ sm_tbl := sm_m5 150 rfl rfl
theorem wd_924 : (Jvm.Cond.instanceMethod ({ cls := "QueryTablesModel", name := "choose", desc := "()I" } : Jvm.MethodName)) ∈ sm_tbl := sm_m5 149 rfl rfl
theorem wd_925 : (Jvm.Cond.code ({ cls := "QueryTablesModel", name := "next", desc := "(II)I" } : Jvm.MethodName) prog_12_method_55_code (5 : Nat) (Option.some Jvm.ClassFile.FieldType.int)) ∈ sm_tbl := sm_m5 158 rfl rfl
theorem wd_926 : (Jvm.Cond.instanceMethod ({ cls := "QueryTablesModel", name := "next", desc := "(II)I" } : Jvm.MethodName)) ∈ sm_tbl := sm_m5 157 rfl rfl
theorem wd_927 : (Jvm.Cond.code ({ cls := "QueryTablesModel", name := "before", desc := "(IIII)Z" } : Jvm.MethodName) prog_12_method_56_code (13 : Nat) (Option.some Jvm.ClassFile.FieldType.boolean)) ∈ sm_tbl := sm_m5 162 rfl rfl
theorem wd_928 : (Jvm.Cond.instanceMethod ({ cls := "QueryTablesModel", name := "before", desc := "(IIII)Z" } : Jvm.MethodName)) ∈ sm_tbl := sm_m5 161 rfl rfl
theorem wd_929 : (Jvm.Cond.code ({ cls := "QueryTablesModel", name := "rows", desc := "()I" } : Jvm.MethodName) prog_12_method_57_code (1 : Nat) (Option.some Jvm.ClassFile.FieldType.int)) ∈ sm_tbl := sm_m5 219 rfl rfl
theorem wd_930 : (Jvm.Cond.instanceMethod ({ cls := "QueryTablesModel", name := "rows", desc := "()I" } : Jvm.MethodName)) ∈ sm_tbl := sm_m5 217 rfl rfl
theorem wd_931 : (Jvm.Cond.selects "QueryTablesModel" ({ cls := "QueryTablesModel", name := "rows", desc := "()I" } : Jvm.MethodName) ({ cls := "QueryTablesModel", name := "rows", desc := "()I" } : Jvm.MethodName)) ∈ sm_tbl := sm_m5 218 rfl rfl
theorem wd_932 : (Jvm.Cond.code ({ cls := "QueryTablesModel", name := "width", desc := "()I" } : Jvm.MethodName) prog_12_method_58_code (1 : Nat) (Option.some Jvm.ClassFile.FieldType.int)) ∈ sm_tbl := sm_m5 223 rfl rfl
theorem wd_933 : (Jvm.Cond.instanceMethod ({ cls := "QueryTablesModel", name := "width", desc := "()I" } : Jvm.MethodName)) ∈ sm_tbl := sm_m5 221 rfl rfl
theorem wd_934 : (Jvm.Cond.selects "QueryTablesModel" ({ cls := "QueryTablesModel", name := "width", desc := "()I" } : Jvm.MethodName) ({ cls := "QueryTablesModel", name := "width", desc := "()I" } : Jvm.MethodName)) ∈ sm_tbl := sm_m5 222 rfl rfl
theorem wd_935 : (Jvm.Cond.code ({ cls := "QueryTablesModel", name := "value", desc := "(II)J" } : Jvm.MethodName) prog_12_method_59_code (3 : Nat) (Option.some Jvm.ClassFile.FieldType.long)) ∈ sm_tbl := sm_m5 227 rfl rfl
theorem wd_936 : (Jvm.Cond.instanceMethod ({ cls := "QueryTablesModel", name := "value", desc := "(II)J" } : Jvm.MethodName)) ∈ sm_tbl := sm_m5 225 rfl rfl
theorem wd_937 : (Jvm.Cond.selects "QueryTablesModel" ({ cls := "QueryTablesModel", name := "value", desc := "(II)J" } : Jvm.MethodName) ({ cls := "QueryTablesModel", name := "value", desc := "(II)J" } : Jvm.MethodName)) ∈ sm_tbl := sm_m5 226 rfl rfl
theorem wd_938 : (Jvm.Cond.code ({ cls := "QueryTablesModel", name := "reads", desc := "()I" } : Jvm.MethodName) prog_12_method_60_code (1 : Nat) (Option.some Jvm.ClassFile.FieldType.int)) ∈ sm_tbl := sm_m5 232 rfl rfl
theorem wd_939 : (Jvm.Cond.instanceMethod ({ cls := "QueryTablesModel", name := "reads", desc := "()I" } : Jvm.MethodName)) ∈ sm_tbl := sm_m5 230 rfl rfl
theorem wd_940 : (Jvm.Cond.selects "QueryTablesModel" ({ cls := "QueryTablesModel", name := "reads", desc := "()I" } : Jvm.MethodName) ({ cls := "QueryTablesModel", name := "reads", desc := "()I" } : Jvm.MethodName)) ∈ sm_tbl := sm_m5 231 rfl rfl
theorem wd_941 : (Jvm.Cond.code ({ cls := "QueryTablesModel", name := "plan", desc := "()I" } : Jvm.MethodName) prog_12_method_61_code (1 : Nat) (Option.some Jvm.ClassFile.FieldType.int)) ∈ sm_tbl := sm_m5 236 rfl rfl
theorem wd_942 : (Jvm.Cond.instanceMethod ({ cls := "QueryTablesModel", name := "plan", desc := "()I" } : Jvm.MethodName)) ∈ sm_tbl := sm_m5 234 rfl rfl
theorem wd_943 : (Jvm.Cond.selects "QueryTablesModel" ({ cls := "QueryTablesModel", name := "plan", desc := "()I" } : Jvm.MethodName) ({ cls := "QueryTablesModel", name := "plan", desc := "()I" } : Jvm.MethodName)) ∈ sm_tbl := sm_m5 235 rfl rfl
theorem wd_944 : (Jvm.Cond.code ({ cls := "QueryTablesModel", name := "isTable", desc := "(I)Z" } : Jvm.MethodName) prog_12_method_62_code (1 : Nat) (Option.some Jvm.ClassFile.FieldType.boolean)) ∈ sm_tbl := sm_m6 3 rfl rfl
theorem wd_945 : (Jvm.Cond.static ({ cls := "QueryTablesModel", name := "isTable", desc := "(I)Z" } : Jvm.MethodName)) ∈ sm_tbl := sm_m6 2 rfl rfl
theorem wd_946 : (Jvm.Cond.code ({ cls := "QueryTablesModel", name := "columns", desc := "(I)I" } : Jvm.MethodName) prog_12_method_63_code (2 : Nat) (Option.some Jvm.ClassFile.FieldType.int)) ∈ sm_tbl := sm_m6 0 rfl rfl
theorem wd_947 : (Jvm.Cond.instanceMethod ({ cls := "QueryTablesModel", name := "columns", desc := "(I)I" } : Jvm.MethodName)) ∈ sm_tbl := sm_m5 238 rfl rfl
theorem wd_948 : (Jvm.Cond.selects "QueryTablesModel" ({ cls := "QueryTablesModel", name := "columns", desc := "(I)I" } : Jvm.MethodName) ({ cls := "QueryTablesModel", name := "columns", desc := "(I)I" } : Jvm.MethodName)) ∈ sm_tbl := sm_m5 239 rfl rfl
theorem wd_949 : (Jvm.Cond.code ({ cls := "QueryTablesModel", name := "size", desc := "(I)I" } : Jvm.MethodName) prog_12_method_64_code (2 : Nat) (Option.some Jvm.ClassFile.FieldType.int)) ∈ sm_tbl := sm_m6 7 rfl rfl
theorem wd_950 : (Jvm.Cond.instanceMethod ({ cls := "QueryTablesModel", name := "size", desc := "(I)I" } : Jvm.MethodName)) ∈ sm_tbl := sm_m6 5 rfl rfl
theorem wd_951 : (Jvm.Cond.selects "QueryTablesModel" ({ cls := "QueryTablesModel", name := "size", desc := "(I)I" } : Jvm.MethodName) ({ cls := "QueryTablesModel", name := "size", desc := "(I)I" } : Jvm.MethodName)) ∈ sm_tbl := sm_m6 6 rfl rfl
theorem wd_952 : (Jvm.Cond.code ({ cls := "QueryTablesModel", name := "indexed", desc := "(II)Z" } : Jvm.MethodName) prog_12_method_65_code (3 : Nat) (Option.some Jvm.ClassFile.FieldType.boolean)) ∈ sm_tbl := sm_m6 11 rfl rfl
theorem wd_953 : (Jvm.Cond.instanceMethod ({ cls := "QueryTablesModel", name := "indexed", desc := "(II)Z" } : Jvm.MethodName)) ∈ sm_tbl := sm_m6 9 rfl rfl
theorem wd_954 : (Jvm.Cond.selects "QueryTablesModel" ({ cls := "QueryTablesModel", name := "indexed", desc := "(II)Z" } : Jvm.MethodName) ({ cls := "QueryTablesModel", name := "indexed", desc := "(II)Z" } : Jvm.MethodName)) ∈ sm_tbl := sm_m6 10 rfl rfl
theorem wd_955 : (Jvm.Cond.code ({ cls := "QueryTablesModel", name := "cell", desc := "(III)J" } : Jvm.MethodName) prog_12_method_66_code (7 : Nat) (Option.some Jvm.ClassFile.FieldType.long)) ∈ sm_tbl := sm_m6 15 rfl rfl
theorem wd_956 : (Jvm.Cond.instanceMethod ({ cls := "QueryTablesModel", name := "cell", desc := "(III)J" } : Jvm.MethodName)) ∈ sm_tbl := sm_m6 13 rfl rfl
theorem wd_957 : (Jvm.Cond.selects "QueryTablesModel" ({ cls := "QueryTablesModel", name := "cell", desc := "(III)J" } : Jvm.MethodName) ({ cls := "QueryTablesModel", name := "cell", desc := "(III)J" } : Jvm.MethodName)) ∈ sm_tbl := sm_m6 14 rfl rfl
theorem wd_958 : (Jvm.Cond.code ({ cls := "QueryTablesModel", name := "count", desc := "(IIJ)I" } : Jvm.MethodName) prog_12_method_67_code (7 : Nat) (Option.some Jvm.ClassFile.FieldType.int)) ∈ sm_tbl := sm_m6 19 rfl rfl
theorem wd_959 : (Jvm.Cond.instanceMethod ({ cls := "QueryTablesModel", name := "count", desc := "(IIJ)I" } : Jvm.MethodName)) ∈ sm_tbl := sm_m6 17 rfl rfl
theorem wd_960 : (Jvm.Cond.selects "QueryTablesModel" ({ cls := "QueryTablesModel", name := "count", desc := "(IIJ)I" } : Jvm.MethodName) ({ cls := "QueryTablesModel", name := "count", desc := "(IIJ)I" } : Jvm.MethodName)) ∈ sm_tbl := sm_m6 18 rfl rfl
theorem wd_961 : (Jvm.Cond.code ({ cls := "java/lang/String", name := "charAt", desc := "(I)C" } : Jvm.MethodName) prog_15_method_56_code (2 : Nat) (Option.some Jvm.ClassFile.FieldType.char)) ∈ sm_tbl := sm_m1 225 rfl rfl
theorem wd_962 : (Jvm.Cond.initialized "java/lang/String") ∈ sm_tbl := sm_m0 12 rfl rfl
theorem wd_963 : (Jvm.Cond.instanceMethod ({ cls := "java/lang/String", name := "charAt", desc := "(I)C" } : Jvm.MethodName)) ∈ sm_tbl := sm_m1 223 rfl rfl
theorem wd_964 : (Jvm.Cond.selects "java/lang/String" ({ cls := "java/lang/String", name := "charAt", desc := "(I)C" } : Jvm.MethodName) ({ cls := "java/lang/String", name := "charAt", desc := "(I)C" } : Jvm.MethodName)) ∈ sm_tbl := sm_m1 224 rfl rfl
theorem wd_965 : (Jvm.Cond.code ({ cls := "java/lang/String", name := "coder", desc := "()B" } : Jvm.MethodName) prog_15_method_152_code (1 : Nat) (Option.some Jvm.ClassFile.FieldType.byte)) ∈ sm_tbl := sm_m1 219 rfl rfl
theorem wd_966 : (Jvm.Cond.instanceMethod ({ cls := "java/lang/String", name := "coder", desc := "()B" } : Jvm.MethodName)) ∈ sm_tbl := sm_m1 217 rfl rfl
theorem wd_967 : (Jvm.Cond.selects "java/lang/String" ({ cls := "java/lang/String", name := "coder", desc := "()B" } : Jvm.MethodName) ({ cls := "java/lang/String", name := "coder", desc := "()B" } : Jvm.MethodName)) ∈ sm_tbl := sm_m1 218 rfl rfl
theorem wd_968 : (Jvm.Cond.code ({ cls := "java/lang/String", name := "indexOf", desc := "(I)I" } : Jvm.MethodName) prog_15_method_79_code (2 : Nat) (Option.some Jvm.ClassFile.FieldType.int)) ∈ sm_tbl := sm_m2 45 rfl rfl
theorem wd_969 : (Jvm.Cond.instanceMethod ({ cls := "java/lang/String", name := "indexOf", desc := "(I)I" } : Jvm.MethodName)) ∈ sm_tbl := sm_m2 43 rfl rfl
theorem wd_970 : (Jvm.Cond.selects "java/lang/String" ({ cls := "java/lang/String", name := "indexOf", desc := "(I)I" } : Jvm.MethodName) ({ cls := "java/lang/String", name := "indexOf", desc := "(I)I" } : Jvm.MethodName)) ∈ sm_tbl := sm_m2 44 rfl rfl
theorem wd_971 : (Jvm.Cond.code ({ cls := "java/lang/String", name := "indexOf", desc := "(II)I" } : Jvm.MethodName) prog_15_method_80_code (3 : Nat) (Option.some Jvm.ClassFile.FieldType.int)) ∈ sm_tbl := sm_m2 49 rfl rfl
theorem wd_972 : (Jvm.Cond.instanceMethod ({ cls := "java/lang/String", name := "indexOf", desc := "(II)I" } : Jvm.MethodName)) ∈ sm_tbl := sm_m2 47 rfl rfl
theorem wd_973 : (Jvm.Cond.selects "java/lang/String" ({ cls := "java/lang/String", name := "indexOf", desc := "(II)I" } : Jvm.MethodName) ({ cls := "java/lang/String", name := "indexOf", desc := "(II)I" } : Jvm.MethodName)) ∈ sm_tbl := sm_m2 48 rfl rfl
theorem wd_974 : (Jvm.Cond.code ({ cls := "java/lang/String", name := "isLatin1", desc := "()Z" } : Jvm.MethodName) prog_15_method_154_code (1 : Nat) (Option.some Jvm.ClassFile.FieldType.boolean)) ∈ sm_tbl := sm_m1 229 rfl rfl
theorem wd_975 : (Jvm.Cond.instanceMethod ({ cls := "java/lang/String", name := "isLatin1", desc := "()Z" } : Jvm.MethodName)) ∈ sm_tbl := sm_m1 227 rfl rfl
theorem wd_976 : (Jvm.Cond.selects "java/lang/String" ({ cls := "java/lang/String", name := "isLatin1", desc := "()Z" } : Jvm.MethodName) ({ cls := "java/lang/String", name := "isLatin1", desc := "()Z" } : Jvm.MethodName)) ∈ sm_tbl := sm_m1 228 rfl rfl
theorem wd_977 : (Jvm.Cond.code ({ cls := "java/lang/String", name := "length", desc := "()I" } : Jvm.MethodName) prog_15_method_54_code (1 : Nat) (Option.some Jvm.ClassFile.FieldType.int)) ∈ sm_tbl := sm_m1 215 rfl rfl
theorem wd_978 : (Jvm.Cond.instanceMethod ({ cls := "java/lang/String", name := "length", desc := "()I" } : Jvm.MethodName)) ∈ sm_tbl := sm_m1 213 rfl rfl
theorem wd_979 : (Jvm.Cond.selects "java/lang/String" ({ cls := "java/lang/String", name := "length", desc := "()I" } : Jvm.MethodName) ({ cls := "java/lang/String", name := "length", desc := "()I" } : Jvm.MethodName)) ∈ sm_tbl := sm_m1 214 rfl rfl
theorem wd_980 : (Jvm.Cond.code ({ cls := "java/lang/String", name := "checkIndex", desc := "(II)V" } : Jvm.MethodName) prog_15_method_155_code (2 : Nat) (Option.none : Option Jvm.ClassFile.FieldType)) ∈ sm_tbl := sm_m1 235 rfl rfl
theorem wd_981 : (Jvm.Cond.static ({ cls := "java/lang/String", name := "checkIndex", desc := "(II)V" } : Jvm.MethodName)) ∈ sm_tbl := sm_m1 234 rfl rfl
theorem wd_982 : (Jvm.Cond.code ({ cls := "java/lang/StringLatin1", name := "canEncode", desc := "(I)Z" } : Jvm.MethodName) prog_16_method_4_code (1 : Nat) (Option.some Jvm.ClassFile.FieldType.boolean)) ∈ sm_tbl := sm_m2 56 rfl rfl
theorem wd_983 : (Jvm.Cond.initialized "java/lang/StringLatin1") ∈ sm_tbl := sm_m0 13 rfl rfl
theorem wd_984 : (Jvm.Cond.static ({ cls := "java/lang/StringLatin1", name := "canEncode", desc := "(I)Z" } : Jvm.MethodName)) ∈ sm_tbl := sm_m2 55 rfl rfl
theorem wd_985 : (Jvm.Cond.code ({ cls := "java/lang/StringLatin1", name := "charAt", desc := "([BI)C" } : Jvm.MethodName) prog_16_method_2_code (2 : Nat) (Option.some Jvm.ClassFile.FieldType.char)) ∈ sm_tbl := sm_m1 232 rfl rfl
theorem wd_986 : (Jvm.Cond.static ({ cls := "java/lang/StringLatin1", name := "charAt", desc := "([BI)C" } : Jvm.MethodName)) ∈ sm_tbl := sm_m1 231 rfl rfl
theorem wd_987 : (Jvm.Cond.code ({ cls := "java/lang/StringLatin1", name := "indexOf", desc := "([BIII)I" } : Jvm.MethodName) prog_16_method_22_code (4 : Nat) (Option.some Jvm.ClassFile.FieldType.int)) ∈ sm_tbl := sm_m2 53 rfl rfl
theorem wd_988 : (Jvm.Cond.static ({ cls := "java/lang/StringLatin1", name := "indexOf", desc := "([BIII)I" } : Jvm.MethodName)) ∈ sm_tbl := sm_m2 52 rfl rfl
theorem wd_989 : (Jvm.Cond.code ({ cls := "java/lang/StringLatin1", name := "indexOfChar", desc := "([BIII)I" } : Jvm.MethodName) prog_16_method_23_code (6 : Nat) (Option.some Jvm.ClassFile.FieldType.int)) ∈ sm_tbl := sm_m2 65 rfl rfl
theorem wd_990 : (Jvm.Cond.static ({ cls := "java/lang/StringLatin1", name := "indexOfChar", desc := "([BIII)I" } : Jvm.MethodName)) ∈ sm_tbl := sm_m2 64 rfl rfl
theorem wd_991 : (Jvm.Cond.code ({ cls := "jdk/internal/util/Preconditions", name := "checkIndex", desc := "(IILjava/util/function/BiFunction;)I" } : Jvm.MethodName) prog_19_method_11_code (3 : Nat) (Option.some Jvm.ClassFile.FieldType.int)) ∈ sm_tbl := sm_m2 0 rfl rfl
theorem wd_992 : (Jvm.Cond.initialized "jdk/internal/util/Preconditions") ∈ sm_tbl := sm_m0 14 rfl rfl
theorem wd_993 : (Jvm.Cond.static ({ cls := "jdk/internal/util/Preconditions", name := "checkIndex", desc := "(IILjava/util/function/BiFunction;)I" } : Jvm.MethodName)) ∈ sm_tbl := sm_m1 239 rfl rfl
theorem wd_994 : (Jvm.Cond.laysFinal "QueryTables" "QueryTables" "text" "[C") ∈ sm_tbl := sm_m1 120 rfl rfl
theorem wd_995 : (Jvm.Cond.laysFinal "QueryTables" "QueryTables" "tables" "[LQueryTables$Table;") ∈ sm_tbl := sm_m1 122 rfl rfl
theorem wd_996 : (Jvm.Cond.laysFinal "QueryTables" "QueryTables" "statement" "LQueryTables$Statement;") ∈ sm_tbl := sm_m1 124 rfl rfl
theorem wd_997 : (Jvm.Cond.laysFinal "QueryTables" "QueryTables" "code" "LQueryTables$Code;") ∈ sm_tbl := sm_m1 126 rfl rfl
theorem wd_998 : (Jvm.Cond.laysFinal "QueryTables" "QueryTables" "pair" "LQueryTables$Pair;") ∈ sm_tbl := sm_m1 128 rfl rfl
theorem wd_999 : (Jvm.Cond.laysFinal "QueryTables" "QueryTables" "parser" "LQueryTables$Parser;") ∈ sm_tbl := sm_m1 130 rfl rfl
theorem wd_1000 : (Jvm.Cond.laysFinal "QueryTables" "QueryTables" "checker" "LQueryTables$Checker;") ∈ sm_tbl := sm_m1 132 rfl rfl
theorem wd_1001 : (Jvm.Cond.laysFinal "QueryTables" "QueryTables" "search" "LQueryTables$Search;") ∈ sm_tbl := sm_m1 134 rfl rfl
theorem wd_1002 : (Jvm.Cond.laysFinal "QueryTables" "QueryTables" "results" "[J") ∈ sm_tbl := sm_m1 136 rfl rfl
theorem wd_1003 : (Jvm.Cond.laysFinal "QueryTables" "QueryTables" "line" "[J") ∈ sm_tbl := sm_m1 138 rfl rfl
theorem wd_1004 : (Jvm.Cond.lays "QueryTables" "QueryTables" "typed" "I") ∈ sm_tbl := sm_m1 140 rfl rfl
theorem wd_1005 : (Jvm.Cond.lays "QueryTables" "QueryTables" "answeredRows" "I") ∈ sm_tbl := sm_m1 142 rfl rfl
theorem wd_1006 : (Jvm.Cond.lays "QueryTables" "QueryTables" "answeredWidth" "I") ∈ sm_tbl := sm_m1 144 rfl rfl
theorem wd_1007 : (Jvm.Cond.lays "QueryTables" "QueryTables" "answeredReads" "I") ∈ sm_tbl := sm_m1 146 rfl rfl
theorem wd_1008 : (Jvm.Cond.lays "QueryTables" "QueryTables" "answeredPlan" "I") ∈ sm_tbl := sm_m1 148 rfl rfl
theorem wd_1009 : (Jvm.Cond.instantiable "QueryTables" (15 : Nat)) ∈ sm_tbl := sm_m0 20 rfl rfl
theorem wd_1010 : (Jvm.Cond.laysFinal "QueryTables$Table" "QueryTables$Table" "cells" "[J") ∈ sm_tbl := sm_m0 43 rfl rfl
theorem wd_1011 : (Jvm.Cond.laysFinal "QueryTables$Table" "QueryTables$Table" "indexes" "[Z") ∈ sm_tbl := sm_m0 45 rfl rfl
theorem wd_1012 : (Jvm.Cond.lays "QueryTables$Table" "QueryTables$Table" "across" "I") ∈ sm_tbl := sm_m0 47 rfl rfl
theorem wd_1013 : (Jvm.Cond.lays "QueryTables$Table" "QueryTables$Table" "down" "I") ∈ sm_tbl := sm_m0 49 rfl rfl
theorem wd_1014 : (Jvm.Cond.instantiable "QueryTables$Table" (4 : Nat)) ∈ sm_tbl := sm_m0 29 rfl rfl
theorem wd_1015 : (Jvm.Cond.laysFinal "QueryTables$Pair" "QueryTables$Pair" "rows" "[I") ∈ sm_tbl := sm_m0 191 rfl rfl
theorem wd_1016 : (Jvm.Cond.lays "QueryTables$Pair" "QueryTables$Pair" "first" "LQueryTables$Table;") ∈ sm_tbl := sm_m0 193 rfl rfl
theorem wd_1017 : (Jvm.Cond.lays "QueryTables$Pair" "QueryTables$Pair" "second" "LQueryTables$Table;") ∈ sm_tbl := sm_m0 195 rfl rfl
theorem wd_1018 : (Jvm.Cond.instantiable "QueryTables$Pair" (3 : Nat)) ∈ sm_tbl := sm_m0 183 rfl rfl
theorem wd_1019 : (Jvm.Cond.laysFinal "QueryTables$Code" "QueryTables$Code" "steps" "[I") ∈ sm_tbl := sm_m0 169 rfl rfl
theorem wd_1020 : (Jvm.Cond.laysFinal "QueryTables$Code" "QueryTables$Code" "numbers" "[I") ∈ sm_tbl := sm_m0 171 rfl rfl
theorem wd_1021 : (Jvm.Cond.laysFinal "QueryTables$Code" "QueryTables$Code" "owners" "[I") ∈ sm_tbl := sm_m0 173 rfl rfl
theorem wd_1022 : (Jvm.Cond.laysFinal "QueryTables$Code" "QueryTables$Code" "sides" "[I") ∈ sm_tbl := sm_m0 175 rfl rfl
theorem wd_1023 : (Jvm.Cond.laysFinal "QueryTables$Code" "QueryTables$Code" "stack" "[J") ∈ sm_tbl := sm_m0 177 rfl rfl
theorem wd_1024 : (Jvm.Cond.lays "QueryTables$Code" "QueryTables$Code" "used" "I") ∈ sm_tbl := sm_m0 179 rfl rfl
theorem wd_1025 : (Jvm.Cond.instantiable "QueryTables$Code" (6 : Nat)) ∈ sm_tbl := sm_m0 153 rfl rfl
theorem wd_1026 : (Jvm.Cond.laysFinal "QueryTables$Statement" "QueryTables$Statement" "listEnds" "[I") ∈ sm_tbl := sm_m0 116 rfl rfl
theorem wd_1027 : (Jvm.Cond.laysFinal "QueryTables$Statement" "QueryTables$Statement" "partFrom" "[I") ∈ sm_tbl := sm_m0 118 rfl rfl
theorem wd_1028 : (Jvm.Cond.laysFinal "QueryTables$Statement" "QueryTables$Statement" "partMiddle" "[I") ∈ sm_tbl := sm_m0 120 rfl rfl
theorem wd_1029 : (Jvm.Cond.laysFinal "QueryTables$Statement" "QueryTables$Statement" "partTo" "[I") ∈ sm_tbl := sm_m0 122 rfl rfl
theorem wd_1030 : (Jvm.Cond.lays "QueryTables$Statement" "QueryTables$Statement" "verb" "I") ∈ sm_tbl := sm_m0 124 rfl rfl
theorem wd_1031 : (Jvm.Cond.lays "QueryTables$Statement" "QueryTables$Statement" "first" "I") ∈ sm_tbl := sm_m0 126 rfl rfl
theorem wd_1032 : (Jvm.Cond.lays "QueryTables$Statement" "QueryTables$Statement" "second" "I") ∈ sm_tbl := sm_m0 128 rfl rfl
theorem wd_1033 : (Jvm.Cond.lays "QueryTables$Statement" "QueryTables$Statement" "column" "I") ∈ sm_tbl := sm_m0 130 rfl rfl
theorem wd_1034 : (Jvm.Cond.lays "QueryTables$Statement" "QueryTables$Statement" "number" "I") ∈ sm_tbl := sm_m0 132 rfl rfl
theorem wd_1035 : (Jvm.Cond.lays "QueryTables$Statement" "QueryTables$Statement" "listed" "I") ∈ sm_tbl := sm_m0 134 rfl rfl
theorem wd_1036 : (Jvm.Cond.lays "QueryTables$Statement" "QueryTables$Statement" "whereFrom" "I") ∈ sm_tbl := sm_m0 136 rfl rfl
theorem wd_1037 : (Jvm.Cond.lays "QueryTables$Statement" "QueryTables$Statement" "whereTo" "I") ∈ sm_tbl := sm_m0 138 rfl rfl
theorem wd_1038 : (Jvm.Cond.lays "QueryTables$Statement" "QueryTables$Statement" "orderFrom" "I") ∈ sm_tbl := sm_m0 140 rfl rfl
theorem wd_1039 : (Jvm.Cond.lays "QueryTables$Statement" "QueryTables$Statement" "orderTo" "I") ∈ sm_tbl := sm_m0 142 rfl rfl
theorem wd_1040 : (Jvm.Cond.lays "QueryTables$Statement" "QueryTables$Statement" "descending" "Z") ∈ sm_tbl := sm_m0 144 rfl rfl
theorem wd_1041 : (Jvm.Cond.lays "QueryTables$Statement" "QueryTables$Statement" "limit" "I") ∈ sm_tbl := sm_m0 146 rfl rfl
theorem wd_1042 : (Jvm.Cond.lays "QueryTables$Statement" "QueryTables$Statement" "parts" "I") ∈ sm_tbl := sm_m0 148 rfl rfl
theorem wd_1043 : (Jvm.Cond.instantiable "QueryTables$Statement" (17 : Nat)) ∈ sm_tbl := sm_m0 56 rfl rfl
theorem wd_1044 : (Jvm.Cond.laysFinal "QueryTables$Tokens" "QueryTables$Tokens" "kinds" "[I") ∈ sm_tbl := sm_m0 214 rfl rfl
theorem wd_1045 : (Jvm.Cond.laysFinal "QueryTables$Tokens" "QueryTables$Tokens" "numbers" "[I") ∈ sm_tbl := sm_m0 216 rfl rfl
theorem wd_1046 : (Jvm.Cond.lays "QueryTables$Tokens" "QueryTables$Tokens" "amount" "I") ∈ sm_tbl := sm_m0 218 rfl rfl
theorem wd_1047 : (Jvm.Cond.lays "QueryTables$Tokens" "QueryTables$Tokens" "at" "I") ∈ sm_tbl := sm_m0 220 rfl rfl
theorem wd_1048 : (Jvm.Cond.instantiable "QueryTables$Tokens" (4 : Nat)) ∈ sm_tbl := sm_m0 205 rfl rfl
theorem wd_1049 : (Jvm.Cond.laysFinal "QueryTables$Parser" "QueryTables$Parser" "tokens" "LQueryTables$Tokens;") ∈ sm_tbl := sm_m0 227 rfl rfl
theorem wd_1050 : (Jvm.Cond.laysFinal "QueryTables$Parser" "QueryTables$Parser" "statement" "LQueryTables$Statement;") ∈ sm_tbl := sm_m0 229 rfl rfl
theorem wd_1051 : (Jvm.Cond.laysFinal "QueryTables$Parser" "QueryTables$Parser" "code" "LQueryTables$Code;") ∈ sm_tbl := sm_m0 231 rfl rfl
theorem wd_1052 : (Jvm.Cond.lays "QueryTables$Parser" "QueryTables$Parser" "middle" "I") ∈ sm_tbl := sm_m0 233 rfl rfl
theorem wd_1053 : (Jvm.Cond.instantiable "QueryTables$Parser" (4 : Nat)) ∈ sm_tbl := sm_m0 199 rfl rfl
theorem wd_1054 : (Jvm.Cond.laysFinal "QueryTables$Checker" "QueryTables$Checker" "tables" "[LQueryTables$Table;") ∈ sm_tbl := sm_m1 5 rfl rfl
theorem wd_1055 : (Jvm.Cond.laysFinal "QueryTables$Checker" "QueryTables$Checker" "statement" "LQueryTables$Statement;") ∈ sm_tbl := sm_m1 7 rfl rfl
theorem wd_1056 : (Jvm.Cond.laysFinal "QueryTables$Checker" "QueryTables$Checker" "code" "LQueryTables$Code;") ∈ sm_tbl := sm_m1 9 rfl rfl
theorem wd_1057 : (Jvm.Cond.instantiable "QueryTables$Checker" (3 : Nat)) ∈ sm_tbl := sm_m0 237 rfl rfl
theorem wd_1058 : (Jvm.Cond.laysFinal "QueryTables$Access" "QueryTables$Access" "statement" "LQueryTables$Statement;") ∈ sm_tbl := sm_m1 37 rfl rfl
theorem wd_1059 : (Jvm.Cond.laysFinal "QueryTables$Access" "QueryTables$Access" "code" "LQueryTables$Code;") ∈ sm_tbl := sm_m1 39 rfl rfl
theorem wd_1060 : (Jvm.Cond.laysFinal "QueryTables$Access" "QueryTables$Access" "side" "I") ∈ sm_tbl := sm_m1 41 rfl rfl
theorem wd_1061 : (Jvm.Cond.laysFinal "QueryTables$Access" "QueryTables$Access" "before" "I") ∈ sm_tbl := sm_m1 43 rfl rfl
theorem wd_1062 : (Jvm.Cond.lays "QueryTables$Access" "QueryTables$Access" "kind" "I") ∈ sm_tbl := sm_m1 45 rfl rfl
theorem wd_1063 : (Jvm.Cond.lays "QueryTables$Access" "QueryTables$Access" "column" "I") ∈ sm_tbl := sm_m1 47 rfl rfl
theorem wd_1064 : (Jvm.Cond.lays "QueryTables$Access" "QueryTables$Access" "from" "I") ∈ sm_tbl := sm_m1 49 rfl rfl
theorem wd_1065 : (Jvm.Cond.lays "QueryTables$Access" "QueryTables$Access" "to" "I") ∈ sm_tbl := sm_m1 51 rfl rfl
theorem wd_1066 : (Jvm.Cond.instantiable "QueryTables$Access" (8 : Nat)) ∈ sm_tbl := sm_m1 19 rfl rfl
theorem wd_1067 : (Jvm.Cond.laysFinal "QueryTables$Search" "QueryTables$Search" "statement" "LQueryTables$Statement;") ∈ sm_tbl := sm_m1 72 rfl rfl
theorem wd_1068 : (Jvm.Cond.laysFinal "QueryTables$Search" "QueryTables$Search" "code" "LQueryTables$Code;") ∈ sm_tbl := sm_m1 74 rfl rfl
theorem wd_1069 : (Jvm.Cond.laysFinal "QueryTables$Search" "QueryTables$Search" "pair" "LQueryTables$Pair;") ∈ sm_tbl := sm_m1 76 rfl rfl
theorem wd_1070 : (Jvm.Cond.laysFinal "QueryTables$Search" "QueryTables$Search" "firstAlone" "LQueryTables$Access;") ∈ sm_tbl := sm_m1 78 rfl rfl
theorem wd_1071 : (Jvm.Cond.laysFinal "QueryTables$Search" "QueryTables$Search" "secondAlone" "LQueryTables$Access;") ∈ sm_tbl := sm_m1 80 rfl rfl
theorem wd_1072 : (Jvm.Cond.laysFinal "QueryTables$Search" "QueryTables$Search" "firstBehind" "LQueryTables$Access;") ∈ sm_tbl := sm_m1 82 rfl rfl
theorem wd_1073 : (Jvm.Cond.laysFinal "QueryTables$Search" "QueryTables$Search" "secondBehind" "LQueryTables$Access;") ∈ sm_tbl := sm_m1 84 rfl rfl
theorem wd_1074 : (Jvm.Cond.laysFinal "QueryTables$Search" "QueryTables$Search" "outerRows" "[I") ∈ sm_tbl := sm_m1 86 rfl rfl
theorem wd_1075 : (Jvm.Cond.laysFinal "QueryTables$Search" "QueryTables$Search" "innerRows" "[I") ∈ sm_tbl := sm_m1 88 rfl rfl
theorem wd_1076 : (Jvm.Cond.laysFinal "QueryTables$Search" "QueryTables$Search" "ranks" "[J") ∈ sm_tbl := sm_m1 90 rfl rfl
theorem wd_1077 : (Jvm.Cond.laysFinal "QueryTables$Search" "QueryTables$Search" "firstRows" "[I") ∈ sm_tbl := sm_m1 92 rfl rfl
theorem wd_1078 : (Jvm.Cond.laysFinal "QueryTables$Search" "QueryTables$Search" "secondRows" "[I") ∈ sm_tbl := sm_m1 94 rfl rfl
theorem wd_1079 : (Jvm.Cond.lays "QueryTables$Search" "QueryTables$Search" "outer" "LQueryTables$Access;") ∈ sm_tbl := sm_m1 96 rfl rfl
theorem wd_1080 : (Jvm.Cond.lays "QueryTables$Search" "QueryTables$Search" "inner" "LQueryTables$Access;") ∈ sm_tbl := sm_m1 98 rfl rfl
theorem wd_1081 : (Jvm.Cond.lays "QueryTables$Search" "QueryTables$Search" "fetched" "I") ∈ sm_tbl := sm_m1 100 rfl rfl
theorem wd_1082 : (Jvm.Cond.lays "QueryTables$Search" "QueryTables$Search" "found" "I") ∈ sm_tbl := sm_m1 102 rfl rfl
theorem wd_1083 : (Jvm.Cond.instantiable "QueryTables$Search" (16 : Nat)) ∈ sm_tbl := sm_m1 13 rfl rfl
theorem wd_1084 : (Jvm.Cond.laysFinal "QueryTablesModel" "QueryTablesModel" "text" "[C") ∈ sm_tbl := sm_m4 120 rfl rfl
theorem wd_1085 : (Jvm.Cond.lays "QueryTablesModel" "QueryTablesModel" "size" "I") ∈ sm_tbl := sm_m4 122 rfl rfl
theorem wd_1086 : (Jvm.Cond.lays "QueryTablesModel" "QueryTablesModel" "tokens" "I") ∈ sm_tbl := sm_m4 124 rfl rfl
theorem wd_1087 : (Jvm.Cond.laysFinal "QueryTablesModel" "QueryTablesModel" "kind" "[I") ∈ sm_tbl := sm_m4 126 rfl rfl
theorem wd_1088 : (Jvm.Cond.laysFinal "QueryTablesModel" "QueryTablesModel" "worth" "[I") ∈ sm_tbl := sm_m4 128 rfl rfl
theorem wd_1089 : (Jvm.Cond.lays "QueryTablesModel" "QueryTablesModel" "at" "I") ∈ sm_tbl := sm_m4 130 rfl rfl
theorem wd_1090 : (Jvm.Cond.lays "QueryTablesModel" "QueryTablesModel" "bad" "Z") ∈ sm_tbl := sm_m4 132 rfl rfl
theorem wd_1091 : (Jvm.Cond.lays "QueryTablesModel" "QueryTablesModel" "codes" "I") ∈ sm_tbl := sm_m4 134 rfl rfl
theorem wd_1092 : (Jvm.Cond.laysFinal "QueryTablesModel" "QueryTablesModel" "op" "[I") ∈ sm_tbl := sm_m4 136 rfl rfl
theorem wd_1093 : (Jvm.Cond.laysFinal "QueryTablesModel" "QueryTablesModel" "arg" "[I") ∈ sm_tbl := sm_m4 138 rfl rfl
theorem wd_1094 : (Jvm.Cond.lays "QueryTablesModel" "QueryTablesModel" "waits" "I") ∈ sm_tbl := sm_m4 140 rfl rfl
theorem wd_1095 : (Jvm.Cond.laysFinal "QueryTablesModel" "QueryTablesModel" "wait" "[I") ∈ sm_tbl := sm_m4 142 rfl rfl
theorem wd_1096 : (Jvm.Cond.lays "QueryTablesModel" "QueryTablesModel" "nests" "I") ∈ sm_tbl := sm_m4 144 rfl rfl
theorem wd_1097 : (Jvm.Cond.lays "QueryTablesModel" "QueryTablesModel" "holds" "I") ∈ sm_tbl := sm_m4 146 rfl rfl
theorem wd_1098 : (Jvm.Cond.laysFinal "QueryTablesModel" "QueryTablesModel" "hold" "[I") ∈ sm_tbl := sm_m4 148 rfl rfl
theorem wd_1099 : (Jvm.Cond.lays "QueryTablesModel" "QueryTablesModel" "outer" "I") ∈ sm_tbl := sm_m4 150 rfl rfl
theorem wd_1100 : (Jvm.Cond.lays "QueryTablesModel" "QueryTablesModel" "wants" "Z") ∈ sm_tbl := sm_m4 152 rfl rfl
theorem wd_1101 : (Jvm.Cond.lays "QueryTablesModel" "QueryTablesModel" "verb" "I") ∈ sm_tbl := sm_m4 154 rfl rfl
theorem wd_1102 : (Jvm.Cond.laysFinal "QueryTablesModel" "QueryTablesModel" "named" "[I") ∈ sm_tbl := sm_m4 156 rfl rfl
theorem wd_1103 : (Jvm.Cond.lays "QueryTablesModel" "QueryTablesModel" "names" "I") ∈ sm_tbl := sm_m4 158 rfl rfl
theorem wd_1104 : (Jvm.Cond.lays "QueryTablesModel" "QueryTablesModel" "column" "I") ∈ sm_tbl := sm_m4 160 rfl rfl
theorem wd_1105 : (Jvm.Cond.lays "QueryTablesModel" "QueryTablesModel" "amount" "I") ∈ sm_tbl := sm_m4 162 rfl rfl
theorem wd_1106 : (Jvm.Cond.lays "QueryTablesModel" "QueryTablesModel" "terms" "I") ∈ sm_tbl := sm_m4 164 rfl rfl
theorem wd_1107 : (Jvm.Cond.laysFinal "QueryTablesModel" "QueryTablesModel" "termFrom" "[I") ∈ sm_tbl := sm_m4 166 rfl rfl
theorem wd_1108 : (Jvm.Cond.laysFinal "QueryTablesModel" "QueryTablesModel" "termTo" "[I") ∈ sm_tbl := sm_m4 168 rfl rfl
theorem wd_1109 : (Jvm.Cond.lays "QueryTablesModel" "QueryTablesModel" "where" "Z") ∈ sm_tbl := sm_m4 170 rfl rfl
theorem wd_1110 : (Jvm.Cond.lays "QueryTablesModel" "QueryTablesModel" "whereFrom" "I") ∈ sm_tbl := sm_m4 172 rfl rfl
theorem wd_1111 : (Jvm.Cond.lays "QueryTablesModel" "QueryTablesModel" "whereTo" "I") ∈ sm_tbl := sm_m4 174 rfl rfl
theorem wd_1112 : (Jvm.Cond.lays "QueryTablesModel" "QueryTablesModel" "ordered" "Z") ∈ sm_tbl := sm_m4 176 rfl rfl
theorem wd_1113 : (Jvm.Cond.lays "QueryTablesModel" "QueryTablesModel" "down" "Z") ∈ sm_tbl := sm_m4 178 rfl rfl
theorem wd_1114 : (Jvm.Cond.lays "QueryTablesModel" "QueryTablesModel" "orderFrom" "I") ∈ sm_tbl := sm_m4 180 rfl rfl
theorem wd_1115 : (Jvm.Cond.lays "QueryTablesModel" "QueryTablesModel" "orderTo" "I") ∈ sm_tbl := sm_m4 182 rfl rfl
theorem wd_1116 : (Jvm.Cond.lays "QueryTablesModel" "QueryTablesModel" "limit" "I") ∈ sm_tbl := sm_m4 184 rfl rfl
theorem wd_1117 : (Jvm.Cond.lays "QueryTablesModel" "QueryTablesModel" "parts" "I") ∈ sm_tbl := sm_m4 186 rfl rfl
theorem wd_1118 : (Jvm.Cond.lays "QueryTablesModel" "QueryTablesModel" "either" "Z") ∈ sm_tbl := sm_m4 188 rfl rfl
theorem wd_1119 : (Jvm.Cond.laysFinal "QueryTablesModel" "QueryTablesModel" "partFrom" "[I") ∈ sm_tbl := sm_m4 190 rfl rfl
theorem wd_1120 : (Jvm.Cond.laysFinal "QueryTablesModel" "QueryTablesModel" "partTo" "[I") ∈ sm_tbl := sm_m4 192 rfl rfl
theorem wd_1121 : (Jvm.Cond.laysFinal "QueryTablesModel" "QueryTablesModel" "partMid" "[I") ∈ sm_tbl := sm_m4 194 rfl rfl
theorem wd_1122 : (Jvm.Cond.lays "QueryTablesModel" "QueryTablesModel" "begun" "I") ∈ sm_tbl := sm_m4 196 rfl rfl
theorem wd_1123 : (Jvm.Cond.lays "QueryTablesModel" "QueryTablesModel" "middle" "I") ∈ sm_tbl := sm_m4 198 rfl rfl
theorem wd_1124 : (Jvm.Cond.laysFinal "QueryTablesModel" "QueryTablesModel" "width" "[I") ∈ sm_tbl := sm_m4 200 rfl rfl
theorem wd_1125 : (Jvm.Cond.laysFinal "QueryTablesModel" "QueryTablesModel" "count" "[I") ∈ sm_tbl := sm_m4 202 rfl rfl
theorem wd_1126 : (Jvm.Cond.laysFinal "QueryTablesModel" "QueryTablesModel" "cell" "[J") ∈ sm_tbl := sm_m4 204 rfl rfl
theorem wd_1127 : (Jvm.Cond.laysFinal "QueryTablesModel" "QueryTablesModel" "index" "[Z") ∈ sm_tbl := sm_m4 206 rfl rfl
theorem wd_1128 : (Jvm.Cond.laysFinal "QueryTablesModel" "QueryTablesModel" "row" "[I") ∈ sm_tbl := sm_m4 208 rfl rfl
theorem wd_1129 : (Jvm.Cond.laysFinal "QueryTablesModel" "QueryTablesModel" "stack" "[J") ∈ sm_tbl := sm_m4 210 rfl rfl
theorem wd_1130 : (Jvm.Cond.laysFinal "QueryTablesModel" "QueryTablesModel" "fresh" "[J") ∈ sm_tbl := sm_m4 212 rfl rfl
theorem wd_1131 : (Jvm.Cond.laysFinal "QueryTablesModel" "QueryTablesModel" "found" "[Z") ∈ sm_tbl := sm_m4 214 rfl rfl
theorem wd_1132 : (Jvm.Cond.lays "QueryTablesModel" "QueryTablesModel" "pairs" "I") ∈ sm_tbl := sm_m4 216 rfl rfl
theorem wd_1133 : (Jvm.Cond.laysFinal "QueryTablesModel" "QueryTablesModel" "one" "[I") ∈ sm_tbl := sm_m4 218 rfl rfl
theorem wd_1134 : (Jvm.Cond.laysFinal "QueryTablesModel" "QueryTablesModel" "two" "[I") ∈ sm_tbl := sm_m4 220 rfl rfl
theorem wd_1135 : (Jvm.Cond.laysFinal "QueryTablesModel" "QueryTablesModel" "by" "[J") ∈ sm_tbl := sm_m4 222 rfl rfl
theorem wd_1136 : (Jvm.Cond.laysFinal "QueryTablesModel" "QueryTablesModel" "told" "[Z") ∈ sm_tbl := sm_m4 224 rfl rfl
theorem wd_1137 : (Jvm.Cond.lays "QueryTablesModel" "QueryTablesModel" "rows" "I") ∈ sm_tbl := sm_m4 226 rfl rfl
theorem wd_1138 : (Jvm.Cond.lays "QueryTablesModel" "QueryTablesModel" "wide" "I") ∈ sm_tbl := sm_m4 228 rfl rfl
theorem wd_1139 : (Jvm.Cond.laysFinal "QueryTablesModel" "QueryTablesModel" "result" "[J") ∈ sm_tbl := sm_m4 230 rfl rfl
theorem wd_1140 : (Jvm.Cond.lays "QueryTablesModel" "QueryTablesModel" "reads" "I") ∈ sm_tbl := sm_m4 232 rfl rfl
theorem wd_1141 : (Jvm.Cond.lays "QueryTablesModel" "QueryTablesModel" "plan" "I") ∈ sm_tbl := sm_m4 234 rfl rfl
theorem wd_1142 : (Jvm.Cond.lays "QueryTablesModel" "QueryTablesModel" "using" "I") ∈ sm_tbl := sm_m4 236 rfl rfl
theorem wd_1143 : (Jvm.Cond.instantiable "QueryTablesModel" (59 : Nat)) ∈ sm_tbl := sm_m4 56 rfl rfl
