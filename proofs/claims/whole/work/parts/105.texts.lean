/-! WHAT THE STATEMENT SAYS OF TEXTS AND STATICS, by program (wip/whole/gen11.py) -/
theorem sm_a1 {a b : Cond} {args : Array Value} {s : State} (h : (Jvm.Cond.and a b).before args s = true) : a.before args s = true := by
  rw [Cond.before_and, Bool.and_eq_true] at h
  exact h.1
theorem sm_a2 {a b : Cond} {args : Array Value} {s : State} (h : (Jvm.Cond.and a b).before args s = true) : b.before args s = true := by
  rw [Cond.before_and, Bool.and_eq_true] at h
  exact h.2
theorem nw_0 {args : Array Value} {s : State} (h : narrow_1.before args s = true) : ((Jvm.Cond.exactly (Jvm.Term.string "QueryTables$Tokens" (65 : Nat)) "java/lang/String")).before args s = true := sm_a2 (sm_a2 (sm_a2 (sm_a1 (sm_a1 (sm_a1 (sm_a1 (sm_a1 h)))))))
theorem nw_1 {args : Array Value} {s : State} (h : narrow_1.before args s = true) : ((Jvm.Cond.exactly (Jvm.Term.string "QueryTables$Tokens" (71 : Nat)) "java/lang/String")).before args s = true := sm_a1 (sm_a1 (sm_a1 (sm_a1 (sm_a2 (sm_a1 (sm_a1 (sm_a1 h)))))))
theorem nw_2 {args : Array Value} {s : State} (h : narrow_1.before args s = true) : ((Jvm.Cond.exactly (Jvm.Term.string "QueryTables$Tokens" (73 : Nat)) "java/lang/String")).before args s = true := sm_a1 (sm_a2 (sm_a1 (sm_a2 (sm_a2 (sm_a1 (sm_a1 (sm_a1 h)))))))
theorem nw_3 {args : Array Value} {s : State} (h : narrow_1.before args s = true) : ((Jvm.Cond.exactly (Jvm.Term.string "QueryTables$Tokens" (75 : Nat)) "java/lang/String")).before args s = true := sm_a2 (sm_a1 (sm_a2 (sm_a1 (sm_a1 (sm_a2 (sm_a1 (sm_a1 h)))))))
theorem nw_4 {args : Array Value} {s : State} (h : narrow_1.before args s = true) : ((Jvm.Cond.exactly (Jvm.Term.string "QueryTables$Tokens" (77 : Nat)) "java/lang/String")).before args s = true := sm_a2 (sm_a1 (sm_a1 (sm_a1 (sm_a2 (sm_a2 (sm_a1 (sm_a1 h)))))))
theorem nw_5 {args : Array Value} {s : State} (h : narrow_1.before args s = true) : ((Jvm.Cond.exactly (Jvm.Term.string "QueryTables$Tokens" (79 : Nat)) "java/lang/String")).before args s = true := sm_a1 (sm_a2 (sm_a2 (sm_a2 (sm_a2 (sm_a2 (sm_a2 (sm_a1 (sm_a1 h))))))))
theorem nw_6 {args : Array Value} {s : State} (h : narrow_1.before args s = true) : ((Jvm.Cond.exactly (Jvm.Term.string "QueryTables$Tokens" (81 : Nat)) "java/lang/String")).before args s = true := sm_a2 (sm_a1 (sm_a2 (sm_a2 (sm_a1 (sm_a1 (sm_a2 (sm_a1 h)))))))
theorem nw_7 {args : Array Value} {s : State} (h : narrow_1.before args s = true) : ((Jvm.Cond.exactly (Jvm.Term.string "QueryTables$Tokens" (83 : Nat)) "java/lang/String")).before args s = true := sm_a1 (sm_a2 (sm_a1 (sm_a2 (sm_a2 (sm_a1 (sm_a2 (sm_a1 h)))))))
theorem nw_8 {args : Array Value} {s : State} (h : narrow_1.before args s = true) : ((Jvm.Cond.exactly (Jvm.Term.string "QueryTables$Tokens" (85 : Nat)) "java/lang/String")).before args s = true := sm_a2 (sm_a1 (sm_a1 (sm_a2 (sm_a1 (sm_a2 (sm_a2 (sm_a1 h)))))))
theorem nw_9 {args : Array Value} {s : State} (h : narrow_1.before args s = true) : ((Jvm.Cond.exactly (Jvm.Term.string "QueryTables$Tokens" (87 : Nat)) "java/lang/String")).before args s = true := sm_a1 (sm_a1 (sm_a1 (sm_a2 (sm_a2 (sm_a2 (sm_a2 (sm_a1 h)))))))
theorem nw_10 {args : Array Value} {s : State} (h : narrow_1.before args s = true) : ((Jvm.Cond.exactly (Jvm.Term.string "QueryTables$Tokens" (89 : Nat)) "java/lang/String")).before args s = true := sm_a1 (sm_a1 (sm_a1 (sm_a2 (sm_a1 (sm_a1 (sm_a1 (sm_a2 h)))))))
theorem nw_11 {args : Array Value} {s : State} (h : narrow_1.before args s = true) : ((Jvm.Cond.exactly (Jvm.Term.string "QueryTables$Tokens" (91 : Nat)) "java/lang/String")).before args s = true := sm_a1 (sm_a2 (sm_a1 (sm_a2 (sm_a2 (sm_a1 (sm_a1 (sm_a2 h)))))))
theorem nw_12 {args : Array Value} {s : State} (h : narrow_1.before args s = true) : ((Jvm.Cond.exactly (Jvm.Term.string "QueryTables$Tokens" (93 : Nat)) "java/lang/String")).before args s = true := sm_a1 (sm_a1 (sm_a2 (sm_a2 (sm_a1 (sm_a2 (sm_a1 (sm_a2 h)))))))
theorem nw_13 {args : Array Value} {s : State} (h : narrow_1.before args s = true) : ((Jvm.Cond.exactly (Jvm.Term.string "QueryTables$Tokens" (95 : Nat)) "java/lang/String")).before args s = true := sm_a2 (sm_a1 (sm_a2 (sm_a2 (sm_a2 (sm_a2 (sm_a1 (sm_a2 h)))))))
theorem nw_14 {args : Array Value} {s : State} (h : narrow_1.before args s = true) : ((Jvm.Cond.exactly (Jvm.Term.string "QueryTables$Tokens" (97 : Nat)) "java/lang/String")).before args s = true := sm_a2 (sm_a2 (sm_a2 (sm_a2 (sm_a2 (sm_a1 (sm_a1 (sm_a2 (sm_a2 h))))))))
theorem nw_15 {args : Array Value} {s : State} (h : narrow_1.before args s = true) : ((Jvm.Cond.exactly (Jvm.Term.string "QueryTables$Tokens" (50 : Nat)) "java/lang/String")).before args s = true := sm_a2 (sm_a2 (sm_a1 (sm_a1 (sm_a1 (sm_a2 (sm_a2 (sm_a2 h)))))))
theorem nw_16 {args : Array Value} {s : State} (h : narrow_1.before args s = true) : ((Jvm.Cond.eq (Jvm.Term.field (Jvm.Term.string "QueryTables$Tokens" (65 : Nat)) "java/lang/String" "coder" "B") (Jvm.Term.int (0 : Int32)))).before args s = true := sm_a1 (sm_a1 (sm_a1 (sm_a2 (sm_a1 (sm_a1 (sm_a1 (sm_a1 h)))))))
theorem nw_17 {args : Array Value} {s : State} (h : narrow_1.before args s = true) : ((Jvm.Cond.eq (Jvm.Term.field (Jvm.Term.string "QueryTables$Tokens" (71 : Nat)) "java/lang/String" "coder" "B") (Jvm.Term.int (0 : Int32)))).before args s = true := sm_a2 (sm_a1 (sm_a1 (sm_a1 (sm_a2 (sm_a1 (sm_a1 (sm_a1 h)))))))
theorem nw_18 {args : Array Value} {s : State} (h : narrow_1.before args s = true) : ((Jvm.Cond.eq (Jvm.Term.field (Jvm.Term.string "QueryTables$Tokens" (73 : Nat)) "java/lang/String" "coder" "B") (Jvm.Term.int (0 : Int32)))).before args s = true := sm_a2 (sm_a2 (sm_a1 (sm_a2 (sm_a2 (sm_a1 (sm_a1 (sm_a1 h)))))))
theorem nw_19 {args : Array Value} {s : State} (h : narrow_1.before args s = true) : ((Jvm.Cond.eq (Jvm.Term.field (Jvm.Term.string "QueryTables$Tokens" (75 : Nat)) "java/lang/String" "coder" "B") (Jvm.Term.int (0 : Int32)))).before args s = true := sm_a1 (sm_a2 (sm_a2 (sm_a1 (sm_a1 (sm_a2 (sm_a1 (sm_a1 h)))))))
theorem nw_20 {args : Array Value} {s : State} (h : narrow_1.before args s = true) : ((Jvm.Cond.eq (Jvm.Term.field (Jvm.Term.string "QueryTables$Tokens" (77 : Nat)) "java/lang/String" "coder" "B") (Jvm.Term.int (0 : Int32)))).before args s = true := sm_a1 (sm_a2 (sm_a1 (sm_a1 (sm_a2 (sm_a2 (sm_a1 (sm_a1 h)))))))
theorem nw_21 {args : Array Value} {s : State} (h : narrow_1.before args s = true) : ((Jvm.Cond.eq (Jvm.Term.field (Jvm.Term.string "QueryTables$Tokens" (79 : Nat)) "java/lang/String" "coder" "B") (Jvm.Term.int (0 : Int32)))).before args s = true := sm_a2 (sm_a2 (sm_a2 (sm_a2 (sm_a2 (sm_a2 (sm_a2 (sm_a1 (sm_a1 h))))))))
theorem nw_22 {args : Array Value} {s : State} (h : narrow_1.before args s = true) : ((Jvm.Cond.eq (Jvm.Term.field (Jvm.Term.string "QueryTables$Tokens" (81 : Nat)) "java/lang/String" "coder" "B") (Jvm.Term.int (0 : Int32)))).before args s = true := sm_a1 (sm_a2 (sm_a2 (sm_a2 (sm_a1 (sm_a1 (sm_a2 (sm_a1 h)))))))
theorem nw_23 {args : Array Value} {s : State} (h : narrow_1.before args s = true) : ((Jvm.Cond.eq (Jvm.Term.field (Jvm.Term.string "QueryTables$Tokens" (83 : Nat)) "java/lang/String" "coder" "B") (Jvm.Term.int (0 : Int32)))).before args s = true := sm_a2 (sm_a2 (sm_a1 (sm_a2 (sm_a2 (sm_a1 (sm_a2 (sm_a1 h)))))))
theorem nw_24 {args : Array Value} {s : State} (h : narrow_1.before args s = true) : ((Jvm.Cond.eq (Jvm.Term.field (Jvm.Term.string "QueryTables$Tokens" (85 : Nat)) "java/lang/String" "coder" "B") (Jvm.Term.int (0 : Int32)))).before args s = true := sm_a1 (sm_a2 (sm_a1 (sm_a2 (sm_a1 (sm_a2 (sm_a2 (sm_a1 h)))))))
theorem nw_25 {args : Array Value} {s : State} (h : narrow_1.before args s = true) : ((Jvm.Cond.eq (Jvm.Term.field (Jvm.Term.string "QueryTables$Tokens" (87 : Nat)) "java/lang/String" "coder" "B") (Jvm.Term.int (0 : Int32)))).before args s = true := sm_a2 (sm_a1 (sm_a1 (sm_a2 (sm_a2 (sm_a2 (sm_a2 (sm_a1 h)))))))
theorem nw_26 {args : Array Value} {s : State} (h : narrow_1.before args s = true) : ((Jvm.Cond.eq (Jvm.Term.field (Jvm.Term.string "QueryTables$Tokens" (89 : Nat)) "java/lang/String" "coder" "B") (Jvm.Term.int (0 : Int32)))).before args s = true := sm_a2 (sm_a1 (sm_a1 (sm_a2 (sm_a1 (sm_a1 (sm_a1 (sm_a2 h)))))))
theorem nw_27 {args : Array Value} {s : State} (h : narrow_1.before args s = true) : ((Jvm.Cond.eq (Jvm.Term.field (Jvm.Term.string "QueryTables$Tokens" (91 : Nat)) "java/lang/String" "coder" "B") (Jvm.Term.int (0 : Int32)))).before args s = true := sm_a2 (sm_a2 (sm_a1 (sm_a2 (sm_a2 (sm_a1 (sm_a1 (sm_a2 h)))))))
theorem nw_28 {args : Array Value} {s : State} (h : narrow_1.before args s = true) : ((Jvm.Cond.eq (Jvm.Term.field (Jvm.Term.string "QueryTables$Tokens" (93 : Nat)) "java/lang/String" "coder" "B") (Jvm.Term.int (0 : Int32)))).before args s = true := sm_a2 (sm_a1 (sm_a2 (sm_a2 (sm_a1 (sm_a2 (sm_a1 (sm_a2 h)))))))
theorem nw_29 {args : Array Value} {s : State} (h : narrow_1.before args s = true) : ((Jvm.Cond.eq (Jvm.Term.field (Jvm.Term.string "QueryTables$Tokens" (95 : Nat)) "java/lang/String" "coder" "B") (Jvm.Term.int (0 : Int32)))).before args s = true := sm_a1 (sm_a2 (sm_a2 (sm_a2 (sm_a2 (sm_a2 (sm_a1 (sm_a2 h)))))))
theorem nw_30 {args : Array Value} {s : State} (h : narrow_1.before args s = true) : ((Jvm.Cond.eq (Jvm.Term.field (Jvm.Term.string "QueryTables$Tokens" (97 : Nat)) "java/lang/String" "coder" "B") (Jvm.Term.int (0 : Int32)))).before args s = true := sm_a1 (sm_a1 (sm_a1 (sm_a1 (sm_a2 (sm_a1 (sm_a2 (sm_a2 h)))))))
theorem nw_31 {args : Array Value} {s : State} (h : narrow_1.before args s = true) : ((Jvm.Cond.eq (Jvm.Term.field (Jvm.Term.string "QueryTables$Tokens" (50 : Nat)) "java/lang/String" "coder" "B") (Jvm.Term.int (0 : Int32)))).before args s = true := sm_a1 (sm_a1 (sm_a2 (sm_a1 (sm_a1 (sm_a2 (sm_a2 (sm_a2 h)))))))
theorem nw_32 {args : Array Value} {s : State} (h : narrow_1.before args s = true) : ((Jvm.Cond.arrayOf (Jvm.Term.field (Jvm.Term.string "QueryTables$Tokens" (65 : Nat)) "java/lang/String" "value" "[B") Jvm.ClassFile.FieldType.byte)).before args s = true := sm_a2 (sm_a1 (sm_a1 (sm_a2 (sm_a1 (sm_a1 (sm_a1 (sm_a1 h)))))))
theorem nw_33 {args : Array Value} {s : State} (h : narrow_1.before args s = true) : ((Jvm.Cond.arrayOf (Jvm.Term.field (Jvm.Term.string "QueryTables$Tokens" (71 : Nat)) "java/lang/String" "value" "[B") Jvm.ClassFile.FieldType.byte)).before args s = true := sm_a1 (sm_a2 (sm_a1 (sm_a1 (sm_a2 (sm_a1 (sm_a1 (sm_a1 h)))))))
theorem nw_34 {args : Array Value} {s : State} (h : narrow_1.before args s = true) : ((Jvm.Cond.arrayOf (Jvm.Term.field (Jvm.Term.string "QueryTables$Tokens" (73 : Nat)) "java/lang/String" "value" "[B") Jvm.ClassFile.FieldType.byte)).before args s = true := sm_a1 (sm_a1 (sm_a2 (sm_a2 (sm_a2 (sm_a1 (sm_a1 (sm_a1 h)))))))
theorem nw_35 {args : Array Value} {s : State} (h : narrow_1.before args s = true) : ((Jvm.Cond.arrayOf (Jvm.Term.field (Jvm.Term.string "QueryTables$Tokens" (75 : Nat)) "java/lang/String" "value" "[B") Jvm.ClassFile.FieldType.byte)).before args s = true := sm_a2 (sm_a2 (sm_a2 (sm_a1 (sm_a1 (sm_a2 (sm_a1 (sm_a1 h)))))))
theorem nw_36 {args : Array Value} {s : State} (h : narrow_1.before args s = true) : ((Jvm.Cond.arrayOf (Jvm.Term.field (Jvm.Term.string "QueryTables$Tokens" (77 : Nat)) "java/lang/String" "value" "[B") Jvm.ClassFile.FieldType.byte)).before args s = true := sm_a2 (sm_a2 (sm_a1 (sm_a1 (sm_a2 (sm_a2 (sm_a1 (sm_a1 h)))))))
theorem nw_37 {args : Array Value} {s : State} (h : narrow_1.before args s = true) : ((Jvm.Cond.arrayOf (Jvm.Term.field (Jvm.Term.string "QueryTables$Tokens" (79 : Nat)) "java/lang/String" "value" "[B") Jvm.ClassFile.FieldType.byte)).before args s = true := sm_a1 (sm_a1 (sm_a1 (sm_a1 (sm_a1 (sm_a1 (sm_a2 (sm_a1 h)))))))
theorem nw_38 {args : Array Value} {s : State} (h : narrow_1.before args s = true) : ((Jvm.Cond.arrayOf (Jvm.Term.field (Jvm.Term.string "QueryTables$Tokens" (81 : Nat)) "java/lang/String" "value" "[B") Jvm.ClassFile.FieldType.byte)).before args s = true := sm_a1 (sm_a2 (sm_a2 (sm_a2 (sm_a2 (sm_a1 (sm_a1 (sm_a2 (sm_a1 h))))))))
theorem nw_39 {args : Array Value} {s : State} (h : narrow_1.before args s = true) : ((Jvm.Cond.arrayOf (Jvm.Term.field (Jvm.Term.string "QueryTables$Tokens" (83 : Nat)) "java/lang/String" "value" "[B") Jvm.ClassFile.FieldType.byte)).before args s = true := sm_a1 (sm_a1 (sm_a2 (sm_a2 (sm_a2 (sm_a1 (sm_a2 (sm_a1 h)))))))
theorem nw_40 {args : Array Value} {s : State} (h : narrow_1.before args s = true) : ((Jvm.Cond.arrayOf (Jvm.Term.field (Jvm.Term.string "QueryTables$Tokens" (85 : Nat)) "java/lang/String" "value" "[B") Jvm.ClassFile.FieldType.byte)).before args s = true := sm_a2 (sm_a2 (sm_a1 (sm_a2 (sm_a1 (sm_a2 (sm_a2 (sm_a1 h)))))))
theorem nw_41 {args : Array Value} {s : State} (h : narrow_1.before args s = true) : ((Jvm.Cond.arrayOf (Jvm.Term.field (Jvm.Term.string "QueryTables$Tokens" (87 : Nat)) "java/lang/String" "value" "[B") Jvm.ClassFile.FieldType.byte)).before args s = true := sm_a1 (sm_a2 (sm_a1 (sm_a2 (sm_a2 (sm_a2 (sm_a2 (sm_a1 h)))))))
theorem nw_42 {args : Array Value} {s : State} (h : narrow_1.before args s = true) : ((Jvm.Cond.arrayOf (Jvm.Term.field (Jvm.Term.string "QueryTables$Tokens" (89 : Nat)) "java/lang/String" "value" "[B") Jvm.ClassFile.FieldType.byte)).before args s = true := sm_a1 (sm_a2 (sm_a1 (sm_a2 (sm_a1 (sm_a1 (sm_a1 (sm_a2 h)))))))
theorem nw_43 {args : Array Value} {s : State} (h : narrow_1.before args s = true) : ((Jvm.Cond.arrayOf (Jvm.Term.field (Jvm.Term.string "QueryTables$Tokens" (91 : Nat)) "java/lang/String" "value" "[B") Jvm.ClassFile.FieldType.byte)).before args s = true := sm_a1 (sm_a1 (sm_a2 (sm_a2 (sm_a2 (sm_a1 (sm_a1 (sm_a2 h)))))))
theorem nw_44 {args : Array Value} {s : State} (h : narrow_1.before args s = true) : ((Jvm.Cond.arrayOf (Jvm.Term.field (Jvm.Term.string "QueryTables$Tokens" (93 : Nat)) "java/lang/String" "value" "[B") Jvm.ClassFile.FieldType.byte)).before args s = true := sm_a1 (sm_a2 (sm_a2 (sm_a2 (sm_a1 (sm_a2 (sm_a1 (sm_a2 h)))))))
theorem nw_45 {args : Array Value} {s : State} (h : narrow_1.before args s = true) : ((Jvm.Cond.arrayOf (Jvm.Term.field (Jvm.Term.string "QueryTables$Tokens" (95 : Nat)) "java/lang/String" "value" "[B") Jvm.ClassFile.FieldType.byte)).before args s = true := sm_a1 (sm_a2 (sm_a2 (sm_a2 (sm_a2 (sm_a2 (sm_a2 (sm_a1 (sm_a2 h))))))))
theorem nw_46 {args : Array Value} {s : State} (h : narrow_1.before args s = true) : ((Jvm.Cond.arrayOf (Jvm.Term.field (Jvm.Term.string "QueryTables$Tokens" (97 : Nat)) "java/lang/String" "value" "[B") Jvm.ClassFile.FieldType.byte)).before args s = true := sm_a2 (sm_a1 (sm_a1 (sm_a1 (sm_a2 (sm_a1 (sm_a2 (sm_a2 h)))))))
theorem nw_47 {args : Array Value} {s : State} (h : narrow_1.before args s = true) : ((Jvm.Cond.arrayOf (Jvm.Term.field (Jvm.Term.string "QueryTables$Tokens" (50 : Nat)) "java/lang/String" "value" "[B") Jvm.ClassFile.FieldType.byte)).before args s = true := sm_a2 (sm_a1 (sm_a2 (sm_a1 (sm_a1 (sm_a2 (sm_a2 (sm_a2 h)))))))
theorem nw_48 {args : Array Value} {s : State} (h : narrow_1.before args s = true) : ((Jvm.Cond.eq (Jvm.Term.length (Jvm.Term.field (Jvm.Term.string "QueryTables$Tokens" (65 : Nat)) "java/lang/String" "value" "[B")) (Jvm.Term.int (6 : Int32)))).before args s = true := sm_a1 (sm_a2 (sm_a1 (sm_a2 (sm_a1 (sm_a1 (sm_a1 (sm_a1 h)))))))
theorem nw_49 {args : Array Value} {s : State} (h : narrow_1.before args s = true) : ((Jvm.Cond.eq (Jvm.Term.length (Jvm.Term.field (Jvm.Term.string "QueryTables$Tokens" (71 : Nat)) "java/lang/String" "value" "[B")) (Jvm.Term.int (5 : Int32)))).before args s = true := sm_a2 (sm_a2 (sm_a1 (sm_a1 (sm_a2 (sm_a1 (sm_a1 (sm_a1 h)))))))
theorem nw_50 {args : Array Value} {s : State} (h : narrow_1.before args s = true) : ((Jvm.Cond.eq (Jvm.Term.length (Jvm.Term.field (Jvm.Term.string "QueryTables$Tokens" (73 : Nat)) "java/lang/String" "value" "[B")) (Jvm.Term.int (6 : Int32)))).before args s = true := sm_a2 (sm_a1 (sm_a2 (sm_a2 (sm_a2 (sm_a1 (sm_a1 (sm_a1 h)))))))
theorem nw_51 {args : Array Value} {s : State} (h : narrow_1.before args s = true) : ((Jvm.Cond.eq (Jvm.Term.length (Jvm.Term.field (Jvm.Term.string "QueryTables$Tokens" (75 : Nat)) "java/lang/String" "value" "[B")) (Jvm.Term.int (6 : Int32)))).before args s = true := sm_a1 (sm_a1 (sm_a1 (sm_a2 (sm_a1 (sm_a2 (sm_a1 (sm_a1 h)))))))
theorem nw_52 {args : Array Value} {s : State} (h : narrow_1.before args s = true) : ((Jvm.Cond.eq (Jvm.Term.length (Jvm.Term.field (Jvm.Term.string "QueryTables$Tokens" (77 : Nat)) "java/lang/String" "value" "[B")) (Jvm.Term.int (6 : Int32)))).before args s = true := sm_a1 (sm_a1 (sm_a2 (sm_a1 (sm_a2 (sm_a2 (sm_a1 (sm_a1 h)))))))
theorem nw_53 {args : Array Value} {s : State} (h : narrow_1.before args s = true) : ((Jvm.Cond.eq (Jvm.Term.length (Jvm.Term.field (Jvm.Term.string "QueryTables$Tokens" (79 : Nat)) "java/lang/String" "value" "[B")) (Jvm.Term.int (6 : Int32)))).before args s = true := sm_a2 (sm_a1 (sm_a1 (sm_a1 (sm_a1 (sm_a1 (sm_a2 (sm_a1 h)))))))
theorem nw_54 {args : Array Value} {s : State} (h : narrow_1.before args s = true) : ((Jvm.Cond.eq (Jvm.Term.length (Jvm.Term.field (Jvm.Term.string "QueryTables$Tokens" (81 : Nat)) "java/lang/String" "value" "[B")) (Jvm.Term.int (4 : Int32)))).before args s = true := sm_a2 (sm_a2 (sm_a2 (sm_a2 (sm_a2 (sm_a1 (sm_a1 (sm_a2 (sm_a1 h))))))))
theorem nw_55 {args : Array Value} {s : State} (h : narrow_1.before args s = true) : ((Jvm.Cond.eq (Jvm.Term.length (Jvm.Term.field (Jvm.Term.string "QueryTables$Tokens" (83 : Nat)) "java/lang/String" "value" "[B")) (Jvm.Term.int (5 : Int32)))).before args s = true := sm_a2 (sm_a1 (sm_a2 (sm_a2 (sm_a2 (sm_a1 (sm_a2 (sm_a1 h)))))))
theorem nw_56 {args : Array Value} {s : State} (h : narrow_1.before args s = true) : ((Jvm.Cond.eq (Jvm.Term.length (Jvm.Term.field (Jvm.Term.string "QueryTables$Tokens" (85 : Nat)) "java/lang/String" "value" "[B")) (Jvm.Term.int (5 : Int32)))).before args s = true := sm_a1 (sm_a1 (sm_a2 (sm_a2 (sm_a1 (sm_a2 (sm_a2 (sm_a1 h)))))))
theorem nw_57 {args : Array Value} {s : State} (h : narrow_1.before args s = true) : ((Jvm.Cond.eq (Jvm.Term.length (Jvm.Term.field (Jvm.Term.string "QueryTables$Tokens" (87 : Nat)) "java/lang/String" "value" "[B")) (Jvm.Term.int (4 : Int32)))).before args s = true := sm_a2 (sm_a2 (sm_a1 (sm_a2 (sm_a2 (sm_a2 (sm_a2 (sm_a1 h)))))))
theorem nw_58 {args : Array Value} {s : State} (h : narrow_1.before args s = true) : ((Jvm.Cond.eq (Jvm.Term.length (Jvm.Term.field (Jvm.Term.string "QueryTables$Tokens" (89 : Nat)) "java/lang/String" "value" "[B")) (Jvm.Term.int (5 : Int32)))).before args s = true := sm_a2 (sm_a2 (sm_a1 (sm_a2 (sm_a1 (sm_a1 (sm_a1 (sm_a2 h)))))))
theorem nw_59 {args : Array Value} {s : State} (h : narrow_1.before args s = true) : ((Jvm.Cond.eq (Jvm.Term.length (Jvm.Term.field (Jvm.Term.string "QueryTables$Tokens" (91 : Nat)) "java/lang/String" "value" "[B")) (Jvm.Term.int (4 : Int32)))).before args s = true := sm_a2 (sm_a1 (sm_a2 (sm_a2 (sm_a2 (sm_a1 (sm_a1 (sm_a2 h)))))))
theorem nw_60 {args : Array Value} {s : State} (h : narrow_1.before args s = true) : ((Jvm.Cond.eq (Jvm.Term.length (Jvm.Term.field (Jvm.Term.string "QueryTables$Tokens" (93 : Nat)) "java/lang/String" "value" "[B")) (Jvm.Term.int (2 : Int32)))).before args s = true := sm_a1 (sm_a2 (sm_a2 (sm_a2 (sm_a2 (sm_a1 (sm_a2 (sm_a1 (sm_a2 h))))))))
theorem nw_61 {args : Array Value} {s : State} (h : narrow_1.before args s = true) : ((Jvm.Cond.eq (Jvm.Term.length (Jvm.Term.field (Jvm.Term.string "QueryTables$Tokens" (95 : Nat)) "java/lang/String" "value" "[B")) (Jvm.Term.int (3 : Int32)))).before args s = true := sm_a2 (sm_a2 (sm_a2 (sm_a2 (sm_a2 (sm_a2 (sm_a2 (sm_a1 (sm_a2 h))))))))
theorem nw_62 {args : Array Value} {s : State} (h : narrow_1.before args s = true) : ((Jvm.Cond.eq (Jvm.Term.length (Jvm.Term.field (Jvm.Term.string "QueryTables$Tokens" (97 : Nat)) "java/lang/String" "value" "[B")) (Jvm.Term.int (3 : Int32)))).before args s = true := sm_a1 (sm_a2 (sm_a1 (sm_a1 (sm_a2 (sm_a1 (sm_a2 (sm_a2 h)))))))
theorem nw_63 {args : Array Value} {s : State} (h : narrow_1.before args s = true) : ((Jvm.Cond.eq (Jvm.Term.length (Jvm.Term.field (Jvm.Term.string "QueryTables$Tokens" (50 : Nat)) "java/lang/String" "value" "[B")) (Jvm.Term.int (13 : Int32)))).before args s = true := sm_a1 (sm_a2 (sm_a2 (sm_a1 (sm_a1 (sm_a2 (sm_a2 (sm_a2 h)))))))
theorem nw_64 {args : Array Value} {s : State} (h : narrow_1.before args s = true) : ((Jvm.Cond.eq (Jvm.Term.elem (Jvm.Term.field (Jvm.Term.string "QueryTables$Tokens" (65 : Nat)) "java/lang/String" "value" "[B") (Jvm.Term.int (0 : Int32))) (Jvm.Term.int (99 : Int32)))).before args s = true := sm_a2 (sm_a2 (sm_a1 (sm_a2 (sm_a1 (sm_a1 (sm_a1 (sm_a1 h)))))))
theorem nw_65 {args : Array Value} {s : State} (h : narrow_1.before args s = true) : ((Jvm.Cond.eq (Jvm.Term.elem (Jvm.Term.field (Jvm.Term.string "QueryTables$Tokens" (65 : Nat)) "java/lang/String" "value" "[B") (Jvm.Term.int (1 : Int32))) (Jvm.Term.int (114 : Int32)))).before args s = true := sm_a1 (sm_a1 (sm_a2 (sm_a2 (sm_a1 (sm_a1 (sm_a1 (sm_a1 h)))))))
theorem nw_66 {args : Array Value} {s : State} (h : narrow_1.before args s = true) : ((Jvm.Cond.eq (Jvm.Term.elem (Jvm.Term.field (Jvm.Term.string "QueryTables$Tokens" (65 : Nat)) "java/lang/String" "value" "[B") (Jvm.Term.int (2 : Int32))) (Jvm.Term.int (101 : Int32)))).before args s = true := sm_a2 (sm_a1 (sm_a2 (sm_a2 (sm_a1 (sm_a1 (sm_a1 (sm_a1 h)))))))
theorem nw_67 {args : Array Value} {s : State} (h : narrow_1.before args s = true) : ((Jvm.Cond.eq (Jvm.Term.elem (Jvm.Term.field (Jvm.Term.string "QueryTables$Tokens" (65 : Nat)) "java/lang/String" "value" "[B") (Jvm.Term.int (3 : Int32))) (Jvm.Term.int (97 : Int32)))).before args s = true := sm_a1 (sm_a2 (sm_a2 (sm_a2 (sm_a1 (sm_a1 (sm_a1 (sm_a1 h)))))))
theorem nw_68 {args : Array Value} {s : State} (h : narrow_1.before args s = true) : ((Jvm.Cond.eq (Jvm.Term.elem (Jvm.Term.field (Jvm.Term.string "QueryTables$Tokens" (65 : Nat)) "java/lang/String" "value" "[B") (Jvm.Term.int (4 : Int32))) (Jvm.Term.int (116 : Int32)))).before args s = true := sm_a1 (sm_a2 (sm_a2 (sm_a2 (sm_a2 (sm_a1 (sm_a1 (sm_a1 (sm_a1 h))))))))
theorem nw_69 {args : Array Value} {s : State} (h : narrow_1.before args s = true) : ((Jvm.Cond.eq (Jvm.Term.elem (Jvm.Term.field (Jvm.Term.string "QueryTables$Tokens" (65 : Nat)) "java/lang/String" "value" "[B") (Jvm.Term.int (5 : Int32))) (Jvm.Term.int (101 : Int32)))).before args s = true := sm_a2 (sm_a2 (sm_a2 (sm_a2 (sm_a2 (sm_a1 (sm_a1 (sm_a1 (sm_a1 h))))))))
theorem nw_70 {args : Array Value} {s : State} (h : narrow_1.before args s = true) : ((Jvm.Cond.eq (Jvm.Term.elem (Jvm.Term.field (Jvm.Term.string "QueryTables$Tokens" (71 : Nat)) "java/lang/String" "value" "[B") (Jvm.Term.int (0 : Int32))) (Jvm.Term.int (105 : Int32)))).before args s = true := sm_a1 (sm_a1 (sm_a2 (sm_a1 (sm_a2 (sm_a1 (sm_a1 (sm_a1 h)))))))
theorem nw_71 {args : Array Value} {s : State} (h : narrow_1.before args s = true) : ((Jvm.Cond.eq (Jvm.Term.elem (Jvm.Term.field (Jvm.Term.string "QueryTables$Tokens" (71 : Nat)) "java/lang/String" "value" "[B") (Jvm.Term.int (1 : Int32))) (Jvm.Term.int (110 : Int32)))).before args s = true := sm_a2 (sm_a1 (sm_a2 (sm_a1 (sm_a2 (sm_a1 (sm_a1 (sm_a1 h)))))))
theorem nw_72 {args : Array Value} {s : State} (h : narrow_1.before args s = true) : ((Jvm.Cond.eq (Jvm.Term.elem (Jvm.Term.field (Jvm.Term.string "QueryTables$Tokens" (71 : Nat)) "java/lang/String" "value" "[B") (Jvm.Term.int (2 : Int32))) (Jvm.Term.int (100 : Int32)))).before args s = true := sm_a1 (sm_a2 (sm_a2 (sm_a1 (sm_a2 (sm_a1 (sm_a1 (sm_a1 h)))))))
theorem nw_73 {args : Array Value} {s : State} (h : narrow_1.before args s = true) : ((Jvm.Cond.eq (Jvm.Term.elem (Jvm.Term.field (Jvm.Term.string "QueryTables$Tokens" (71 : Nat)) "java/lang/String" "value" "[B") (Jvm.Term.int (3 : Int32))) (Jvm.Term.int (101 : Int32)))).before args s = true := sm_a2 (sm_a2 (sm_a2 (sm_a1 (sm_a2 (sm_a1 (sm_a1 (sm_a1 h)))))))
theorem nw_74 {args : Array Value} {s : State} (h : narrow_1.before args s = true) : ((Jvm.Cond.eq (Jvm.Term.elem (Jvm.Term.field (Jvm.Term.string "QueryTables$Tokens" (71 : Nat)) "java/lang/String" "value" "[B") (Jvm.Term.int (4 : Int32))) (Jvm.Term.int (120 : Int32)))).before args s = true := sm_a1 (sm_a1 (sm_a1 (sm_a2 (sm_a2 (sm_a1 (sm_a1 (sm_a1 h)))))))
theorem nw_75 {args : Array Value} {s : State} (h : narrow_1.before args s = true) : ((Jvm.Cond.eq (Jvm.Term.elem (Jvm.Term.field (Jvm.Term.string "QueryTables$Tokens" (73 : Nat)) "java/lang/String" "value" "[B") (Jvm.Term.int (0 : Int32))) (Jvm.Term.int (105 : Int32)))).before args s = true := sm_a1 (sm_a2 (sm_a2 (sm_a2 (sm_a2 (sm_a1 (sm_a1 (sm_a1 h)))))))
theorem nw_76 {args : Array Value} {s : State} (h : narrow_1.before args s = true) : ((Jvm.Cond.eq (Jvm.Term.elem (Jvm.Term.field (Jvm.Term.string "QueryTables$Tokens" (73 : Nat)) "java/lang/String" "value" "[B") (Jvm.Term.int (1 : Int32))) (Jvm.Term.int (110 : Int32)))).before args s = true := sm_a1 (sm_a2 (sm_a2 (sm_a2 (sm_a2 (sm_a2 (sm_a1 (sm_a1 (sm_a1 h))))))))
theorem nw_77 {args : Array Value} {s : State} (h : narrow_1.before args s = true) : ((Jvm.Cond.eq (Jvm.Term.elem (Jvm.Term.field (Jvm.Term.string "QueryTables$Tokens" (73 : Nat)) "java/lang/String" "value" "[B") (Jvm.Term.int (2 : Int32))) (Jvm.Term.int (115 : Int32)))).before args s = true := sm_a2 (sm_a2 (sm_a2 (sm_a2 (sm_a2 (sm_a2 (sm_a1 (sm_a1 (sm_a1 h))))))))
theorem nw_78 {args : Array Value} {s : State} (h : narrow_1.before args s = true) : ((Jvm.Cond.eq (Jvm.Term.elem (Jvm.Term.field (Jvm.Term.string "QueryTables$Tokens" (73 : Nat)) "java/lang/String" "value" "[B") (Jvm.Term.int (3 : Int32))) (Jvm.Term.int (101 : Int32)))).before args s = true := sm_a1 (sm_a1 (sm_a1 (sm_a1 (sm_a1 (sm_a2 (sm_a1 (sm_a1 h)))))))
theorem nw_79 {args : Array Value} {s : State} (h : narrow_1.before args s = true) : ((Jvm.Cond.eq (Jvm.Term.elem (Jvm.Term.field (Jvm.Term.string "QueryTables$Tokens" (73 : Nat)) "java/lang/String" "value" "[B") (Jvm.Term.int (4 : Int32))) (Jvm.Term.int (114 : Int32)))).before args s = true := sm_a2 (sm_a1 (sm_a1 (sm_a1 (sm_a1 (sm_a2 (sm_a1 (sm_a1 h)))))))
theorem nw_80 {args : Array Value} {s : State} (h : narrow_1.before args s = true) : ((Jvm.Cond.eq (Jvm.Term.elem (Jvm.Term.field (Jvm.Term.string "QueryTables$Tokens" (73 : Nat)) "java/lang/String" "value" "[B") (Jvm.Term.int (5 : Int32))) (Jvm.Term.int (116 : Int32)))).before args s = true := sm_a1 (sm_a2 (sm_a1 (sm_a1 (sm_a1 (sm_a2 (sm_a1 (sm_a1 h)))))))
theorem nw_81 {args : Array Value} {s : State} (h : narrow_1.before args s = true) : ((Jvm.Cond.eq (Jvm.Term.elem (Jvm.Term.field (Jvm.Term.string "QueryTables$Tokens" (75 : Nat)) "java/lang/String" "value" "[B") (Jvm.Term.int (0 : Int32))) (Jvm.Term.int (117 : Int32)))).before args s = true := sm_a2 (sm_a1 (sm_a1 (sm_a2 (sm_a1 (sm_a2 (sm_a1 (sm_a1 h)))))))
theorem nw_82 {args : Array Value} {s : State} (h : narrow_1.before args s = true) : ((Jvm.Cond.eq (Jvm.Term.elem (Jvm.Term.field (Jvm.Term.string "QueryTables$Tokens" (75 : Nat)) "java/lang/String" "value" "[B") (Jvm.Term.int (1 : Int32))) (Jvm.Term.int (112 : Int32)))).before args s = true := sm_a1 (sm_a2 (sm_a1 (sm_a2 (sm_a1 (sm_a2 (sm_a1 (sm_a1 h)))))))
theorem nw_83 {args : Array Value} {s : State} (h : narrow_1.before args s = true) : ((Jvm.Cond.eq (Jvm.Term.elem (Jvm.Term.field (Jvm.Term.string "QueryTables$Tokens" (75 : Nat)) "java/lang/String" "value" "[B") (Jvm.Term.int (2 : Int32))) (Jvm.Term.int (100 : Int32)))).before args s = true := sm_a2 (sm_a2 (sm_a1 (sm_a2 (sm_a1 (sm_a2 (sm_a1 (sm_a1 h)))))))
theorem nw_84 {args : Array Value} {s : State} (h : narrow_1.before args s = true) : ((Jvm.Cond.eq (Jvm.Term.elem (Jvm.Term.field (Jvm.Term.string "QueryTables$Tokens" (75 : Nat)) "java/lang/String" "value" "[B") (Jvm.Term.int (3 : Int32))) (Jvm.Term.int (97 : Int32)))).before args s = true := sm_a1 (sm_a1 (sm_a2 (sm_a2 (sm_a1 (sm_a2 (sm_a1 (sm_a1 h)))))))
theorem nw_85 {args : Array Value} {s : State} (h : narrow_1.before args s = true) : ((Jvm.Cond.eq (Jvm.Term.elem (Jvm.Term.field (Jvm.Term.string "QueryTables$Tokens" (75 : Nat)) "java/lang/String" "value" "[B") (Jvm.Term.int (4 : Int32))) (Jvm.Term.int (116 : Int32)))).before args s = true := sm_a2 (sm_a1 (sm_a2 (sm_a2 (sm_a1 (sm_a2 (sm_a1 (sm_a1 h)))))))
theorem nw_86 {args : Array Value} {s : State} (h : narrow_1.before args s = true) : ((Jvm.Cond.eq (Jvm.Term.elem (Jvm.Term.field (Jvm.Term.string "QueryTables$Tokens" (75 : Nat)) "java/lang/String" "value" "[B") (Jvm.Term.int (5 : Int32))) (Jvm.Term.int (101 : Int32)))).before args s = true := sm_a1 (sm_a2 (sm_a2 (sm_a2 (sm_a1 (sm_a2 (sm_a1 (sm_a1 h)))))))
theorem nw_87 {args : Array Value} {s : State} (h : narrow_1.before args s = true) : ((Jvm.Cond.eq (Jvm.Term.elem (Jvm.Term.field (Jvm.Term.string "QueryTables$Tokens" (77 : Nat)) "java/lang/String" "value" "[B") (Jvm.Term.int (0 : Int32))) (Jvm.Term.int (100 : Int32)))).before args s = true := sm_a2 (sm_a1 (sm_a2 (sm_a1 (sm_a2 (sm_a2 (sm_a1 (sm_a1 h)))))))
theorem nw_88 {args : Array Value} {s : State} (h : narrow_1.before args s = true) : ((Jvm.Cond.eq (Jvm.Term.elem (Jvm.Term.field (Jvm.Term.string "QueryTables$Tokens" (77 : Nat)) "java/lang/String" "value" "[B") (Jvm.Term.int (1 : Int32))) (Jvm.Term.int (101 : Int32)))).before args s = true := sm_a1 (sm_a2 (sm_a2 (sm_a1 (sm_a2 (sm_a2 (sm_a1 (sm_a1 h)))))))
theorem nw_89 {args : Array Value} {s : State} (h : narrow_1.before args s = true) : ((Jvm.Cond.eq (Jvm.Term.elem (Jvm.Term.field (Jvm.Term.string "QueryTables$Tokens" (77 : Nat)) "java/lang/String" "value" "[B") (Jvm.Term.int (2 : Int32))) (Jvm.Term.int (108 : Int32)))).before args s = true := sm_a2 (sm_a2 (sm_a2 (sm_a1 (sm_a2 (sm_a2 (sm_a1 (sm_a1 h)))))))
theorem nw_90 {args : Array Value} {s : State} (h : narrow_1.before args s = true) : ((Jvm.Cond.eq (Jvm.Term.elem (Jvm.Term.field (Jvm.Term.string "QueryTables$Tokens" (77 : Nat)) "java/lang/String" "value" "[B") (Jvm.Term.int (3 : Int32))) (Jvm.Term.int (101 : Int32)))).before args s = true := sm_a1 (sm_a1 (sm_a1 (sm_a2 (sm_a2 (sm_a2 (sm_a1 (sm_a1 h)))))))
theorem nw_91 {args : Array Value} {s : State} (h : narrow_1.before args s = true) : ((Jvm.Cond.eq (Jvm.Term.elem (Jvm.Term.field (Jvm.Term.string "QueryTables$Tokens" (77 : Nat)) "java/lang/String" "value" "[B") (Jvm.Term.int (4 : Int32))) (Jvm.Term.int (116 : Int32)))).before args s = true := sm_a2 (sm_a1 (sm_a1 (sm_a2 (sm_a2 (sm_a2 (sm_a1 (sm_a1 h)))))))
theorem nw_92 {args : Array Value} {s : State} (h : narrow_1.before args s = true) : ((Jvm.Cond.eq (Jvm.Term.elem (Jvm.Term.field (Jvm.Term.string "QueryTables$Tokens" (77 : Nat)) "java/lang/String" "value" "[B") (Jvm.Term.int (5 : Int32))) (Jvm.Term.int (101 : Int32)))).before args s = true := sm_a1 (sm_a2 (sm_a1 (sm_a2 (sm_a2 (sm_a2 (sm_a1 (sm_a1 h)))))))
theorem nw_93 {args : Array Value} {s : State} (h : narrow_1.before args s = true) : ((Jvm.Cond.eq (Jvm.Term.elem (Jvm.Term.field (Jvm.Term.string "QueryTables$Tokens" (79 : Nat)) "java/lang/String" "value" "[B") (Jvm.Term.int (0 : Int32))) (Jvm.Term.int (115 : Int32)))).before args s = true := sm_a1 (sm_a2 (sm_a1 (sm_a1 (sm_a1 (sm_a1 (sm_a2 (sm_a1 h)))))))
theorem nw_94 {args : Array Value} {s : State} (h : narrow_1.before args s = true) : ((Jvm.Cond.eq (Jvm.Term.elem (Jvm.Term.field (Jvm.Term.string "QueryTables$Tokens" (79 : Nat)) "java/lang/String" "value" "[B") (Jvm.Term.int (1 : Int32))) (Jvm.Term.int (101 : Int32)))).before args s = true := sm_a2 (sm_a2 (sm_a1 (sm_a1 (sm_a1 (sm_a1 (sm_a2 (sm_a1 h)))))))
theorem nw_95 {args : Array Value} {s : State} (h : narrow_1.before args s = true) : ((Jvm.Cond.eq (Jvm.Term.elem (Jvm.Term.field (Jvm.Term.string "QueryTables$Tokens" (79 : Nat)) "java/lang/String" "value" "[B") (Jvm.Term.int (2 : Int32))) (Jvm.Term.int (108 : Int32)))).before args s = true := sm_a1 (sm_a1 (sm_a2 (sm_a1 (sm_a1 (sm_a1 (sm_a2 (sm_a1 h)))))))
theorem nw_96 {args : Array Value} {s : State} (h : narrow_1.before args s = true) : ((Jvm.Cond.eq (Jvm.Term.elem (Jvm.Term.field (Jvm.Term.string "QueryTables$Tokens" (79 : Nat)) "java/lang/String" "value" "[B") (Jvm.Term.int (3 : Int32))) (Jvm.Term.int (101 : Int32)))).before args s = true := sm_a2 (sm_a1 (sm_a2 (sm_a1 (sm_a1 (sm_a1 (sm_a2 (sm_a1 h)))))))
theorem nw_97 {args : Array Value} {s : State} (h : narrow_1.before args s = true) : ((Jvm.Cond.eq (Jvm.Term.elem (Jvm.Term.field (Jvm.Term.string "QueryTables$Tokens" (79 : Nat)) "java/lang/String" "value" "[B") (Jvm.Term.int (4 : Int32))) (Jvm.Term.int (99 : Int32)))).before args s = true := sm_a1 (sm_a2 (sm_a2 (sm_a1 (sm_a1 (sm_a1 (sm_a2 (sm_a1 h)))))))
theorem nw_98 {args : Array Value} {s : State} (h : narrow_1.before args s = true) : ((Jvm.Cond.eq (Jvm.Term.elem (Jvm.Term.field (Jvm.Term.string "QueryTables$Tokens" (79 : Nat)) "java/lang/String" "value" "[B") (Jvm.Term.int (5 : Int32))) (Jvm.Term.int (116 : Int32)))).before args s = true := sm_a2 (sm_a2 (sm_a2 (sm_a1 (sm_a1 (sm_a1 (sm_a2 (sm_a1 h)))))))
theorem nw_99 {args : Array Value} {s : State} (h : narrow_1.before args s = true) : ((Jvm.Cond.eq (Jvm.Term.elem (Jvm.Term.field (Jvm.Term.string "QueryTables$Tokens" (81 : Nat)) "java/lang/String" "value" "[B") (Jvm.Term.int (0 : Int32))) (Jvm.Term.int (102 : Int32)))).before args s = true := sm_a1 (sm_a1 (sm_a1 (sm_a1 (sm_a2 (sm_a1 (sm_a2 (sm_a1 h)))))))
theorem nw_100 {args : Array Value} {s : State} (h : narrow_1.before args s = true) : ((Jvm.Cond.eq (Jvm.Term.elem (Jvm.Term.field (Jvm.Term.string "QueryTables$Tokens" (81 : Nat)) "java/lang/String" "value" "[B") (Jvm.Term.int (1 : Int32))) (Jvm.Term.int (114 : Int32)))).before args s = true := sm_a2 (sm_a1 (sm_a1 (sm_a1 (sm_a2 (sm_a1 (sm_a2 (sm_a1 h)))))))
theorem nw_101 {args : Array Value} {s : State} (h : narrow_1.before args s = true) : ((Jvm.Cond.eq (Jvm.Term.elem (Jvm.Term.field (Jvm.Term.string "QueryTables$Tokens" (81 : Nat)) "java/lang/String" "value" "[B") (Jvm.Term.int (2 : Int32))) (Jvm.Term.int (111 : Int32)))).before args s = true := sm_a1 (sm_a2 (sm_a1 (sm_a1 (sm_a2 (sm_a1 (sm_a2 (sm_a1 h)))))))
theorem nw_102 {args : Array Value} {s : State} (h : narrow_1.before args s = true) : ((Jvm.Cond.eq (Jvm.Term.elem (Jvm.Term.field (Jvm.Term.string "QueryTables$Tokens" (81 : Nat)) "java/lang/String" "value" "[B") (Jvm.Term.int (3 : Int32))) (Jvm.Term.int (109 : Int32)))).before args s = true := sm_a2 (sm_a2 (sm_a1 (sm_a1 (sm_a2 (sm_a1 (sm_a2 (sm_a1 h)))))))
theorem nw_103 {args : Array Value} {s : State} (h : narrow_1.before args s = true) : ((Jvm.Cond.eq (Jvm.Term.elem (Jvm.Term.field (Jvm.Term.string "QueryTables$Tokens" (83 : Nat)) "java/lang/String" "value" "[B") (Jvm.Term.int (0 : Int32))) (Jvm.Term.int (119 : Int32)))).before args s = true := sm_a1 (sm_a2 (sm_a2 (sm_a2 (sm_a2 (sm_a1 (sm_a2 (sm_a1 h)))))))
theorem nw_104 {args : Array Value} {s : State} (h : narrow_1.before args s = true) : ((Jvm.Cond.eq (Jvm.Term.elem (Jvm.Term.field (Jvm.Term.string "QueryTables$Tokens" (83 : Nat)) "java/lang/String" "value" "[B") (Jvm.Term.int (1 : Int32))) (Jvm.Term.int (104 : Int32)))).before args s = true := sm_a1 (sm_a2 (sm_a2 (sm_a2 (sm_a2 (sm_a2 (sm_a1 (sm_a2 (sm_a1 h))))))))
theorem nw_105 {args : Array Value} {s : State} (h : narrow_1.before args s = true) : ((Jvm.Cond.eq (Jvm.Term.elem (Jvm.Term.field (Jvm.Term.string "QueryTables$Tokens" (83 : Nat)) "java/lang/String" "value" "[B") (Jvm.Term.int (2 : Int32))) (Jvm.Term.int (101 : Int32)))).before args s = true := sm_a2 (sm_a2 (sm_a2 (sm_a2 (sm_a2 (sm_a2 (sm_a1 (sm_a2 (sm_a1 h))))))))
theorem nw_106 {args : Array Value} {s : State} (h : narrow_1.before args s = true) : ((Jvm.Cond.eq (Jvm.Term.elem (Jvm.Term.field (Jvm.Term.string "QueryTables$Tokens" (83 : Nat)) "java/lang/String" "value" "[B") (Jvm.Term.int (3 : Int32))) (Jvm.Term.int (114 : Int32)))).before args s = true := sm_a1 (sm_a1 (sm_a1 (sm_a1 (sm_a1 (sm_a2 (sm_a2 (sm_a1 h)))))))
theorem nw_107 {args : Array Value} {s : State} (h : narrow_1.before args s = true) : ((Jvm.Cond.eq (Jvm.Term.elem (Jvm.Term.field (Jvm.Term.string "QueryTables$Tokens" (83 : Nat)) "java/lang/String" "value" "[B") (Jvm.Term.int (4 : Int32))) (Jvm.Term.int (101 : Int32)))).before args s = true := sm_a2 (sm_a1 (sm_a1 (sm_a1 (sm_a1 (sm_a2 (sm_a2 (sm_a1 h)))))))
theorem nw_108 {args : Array Value} {s : State} (h : narrow_1.before args s = true) : ((Jvm.Cond.eq (Jvm.Term.elem (Jvm.Term.field (Jvm.Term.string "QueryTables$Tokens" (85 : Nat)) "java/lang/String" "value" "[B") (Jvm.Term.int (0 : Int32))) (Jvm.Term.int (111 : Int32)))).before args s = true := sm_a2 (sm_a1 (sm_a2 (sm_a2 (sm_a1 (sm_a2 (sm_a2 (sm_a1 h)))))))
theorem nw_109 {args : Array Value} {s : State} (h : narrow_1.before args s = true) : ((Jvm.Cond.eq (Jvm.Term.elem (Jvm.Term.field (Jvm.Term.string "QueryTables$Tokens" (85 : Nat)) "java/lang/String" "value" "[B") (Jvm.Term.int (1 : Int32))) (Jvm.Term.int (114 : Int32)))).before args s = true := sm_a1 (sm_a2 (sm_a2 (sm_a2 (sm_a1 (sm_a2 (sm_a2 (sm_a1 h)))))))
theorem nw_110 {args : Array Value} {s : State} (h : narrow_1.before args s = true) : ((Jvm.Cond.eq (Jvm.Term.elem (Jvm.Term.field (Jvm.Term.string "QueryTables$Tokens" (85 : Nat)) "java/lang/String" "value" "[B") (Jvm.Term.int (2 : Int32))) (Jvm.Term.int (100 : Int32)))).before args s = true := sm_a1 (sm_a2 (sm_a2 (sm_a2 (sm_a2 (sm_a1 (sm_a2 (sm_a2 (sm_a1 h))))))))
theorem nw_111 {args : Array Value} {s : State} (h : narrow_1.before args s = true) : ((Jvm.Cond.eq (Jvm.Term.elem (Jvm.Term.field (Jvm.Term.string "QueryTables$Tokens" (85 : Nat)) "java/lang/String" "value" "[B") (Jvm.Term.int (3 : Int32))) (Jvm.Term.int (101 : Int32)))).before args s = true := sm_a2 (sm_a2 (sm_a2 (sm_a2 (sm_a2 (sm_a1 (sm_a2 (sm_a2 (sm_a1 h))))))))
theorem nw_112 {args : Array Value} {s : State} (h : narrow_1.before args s = true) : ((Jvm.Cond.eq (Jvm.Term.elem (Jvm.Term.field (Jvm.Term.string "QueryTables$Tokens" (85 : Nat)) "java/lang/String" "value" "[B") (Jvm.Term.int (4 : Int32))) (Jvm.Term.int (114 : Int32)))).before args s = true := sm_a1 (sm_a1 (sm_a1 (sm_a1 (sm_a2 (sm_a2 (sm_a2 (sm_a1 h)))))))
theorem nw_113 {args : Array Value} {s : State} (h : narrow_1.before args s = true) : ((Jvm.Cond.eq (Jvm.Term.elem (Jvm.Term.field (Jvm.Term.string "QueryTables$Tokens" (87 : Nat)) "java/lang/String" "value" "[B") (Jvm.Term.int (0 : Int32))) (Jvm.Term.int (100 : Int32)))).before args s = true := sm_a1 (sm_a1 (sm_a2 (sm_a2 (sm_a2 (sm_a2 (sm_a2 (sm_a1 h)))))))
theorem nw_114 {args : Array Value} {s : State} (h : narrow_1.before args s = true) : ((Jvm.Cond.eq (Jvm.Term.elem (Jvm.Term.field (Jvm.Term.string "QueryTables$Tokens" (87 : Nat)) "java/lang/String" "value" "[B") (Jvm.Term.int (1 : Int32))) (Jvm.Term.int (101 : Int32)))).before args s = true := sm_a2 (sm_a1 (sm_a2 (sm_a2 (sm_a2 (sm_a2 (sm_a2 (sm_a1 h)))))))
theorem nw_115 {args : Array Value} {s : State} (h : narrow_1.before args s = true) : ((Jvm.Cond.eq (Jvm.Term.elem (Jvm.Term.field (Jvm.Term.string "QueryTables$Tokens" (87 : Nat)) "java/lang/String" "value" "[B") (Jvm.Term.int (2 : Int32))) (Jvm.Term.int (115 : Int32)))).before args s = true := sm_a1 (sm_a2 (sm_a2 (sm_a2 (sm_a2 (sm_a2 (sm_a2 (sm_a1 h)))))))
theorem nw_116 {args : Array Value} {s : State} (h : narrow_1.before args s = true) : ((Jvm.Cond.eq (Jvm.Term.elem (Jvm.Term.field (Jvm.Term.string "QueryTables$Tokens" (87 : Nat)) "java/lang/String" "value" "[B") (Jvm.Term.int (3 : Int32))) (Jvm.Term.int (99 : Int32)))).before args s = true := sm_a1 (sm_a2 (sm_a2 (sm_a2 (sm_a2 (sm_a2 (sm_a2 (sm_a2 (sm_a1 h))))))))
theorem nw_117 {args : Array Value} {s : State} (h : narrow_1.before args s = true) : ((Jvm.Cond.eq (Jvm.Term.elem (Jvm.Term.field (Jvm.Term.string "QueryTables$Tokens" (89 : Nat)) "java/lang/String" "value" "[B") (Jvm.Term.int (0 : Int32))) (Jvm.Term.int (108 : Int32)))).before args s = true := sm_a1 (sm_a1 (sm_a2 (sm_a2 (sm_a1 (sm_a1 (sm_a1 (sm_a2 h)))))))
theorem nw_118 {args : Array Value} {s : State} (h : narrow_1.before args s = true) : ((Jvm.Cond.eq (Jvm.Term.elem (Jvm.Term.field (Jvm.Term.string "QueryTables$Tokens" (89 : Nat)) "java/lang/String" "value" "[B") (Jvm.Term.int (1 : Int32))) (Jvm.Term.int (105 : Int32)))).before args s = true := sm_a2 (sm_a1 (sm_a2 (sm_a2 (sm_a1 (sm_a1 (sm_a1 (sm_a2 h)))))))
theorem nw_119 {args : Array Value} {s : State} (h : narrow_1.before args s = true) : ((Jvm.Cond.eq (Jvm.Term.elem (Jvm.Term.field (Jvm.Term.string "QueryTables$Tokens" (89 : Nat)) "java/lang/String" "value" "[B") (Jvm.Term.int (2 : Int32))) (Jvm.Term.int (109 : Int32)))).before args s = true := sm_a1 (sm_a2 (sm_a2 (sm_a2 (sm_a1 (sm_a1 (sm_a1 (sm_a2 h)))))))
theorem nw_120 {args : Array Value} {s : State} (h : narrow_1.before args s = true) : ((Jvm.Cond.eq (Jvm.Term.elem (Jvm.Term.field (Jvm.Term.string "QueryTables$Tokens" (89 : Nat)) "java/lang/String" "value" "[B") (Jvm.Term.int (3 : Int32))) (Jvm.Term.int (105 : Int32)))).before args s = true := sm_a1 (sm_a2 (sm_a2 (sm_a2 (sm_a2 (sm_a1 (sm_a1 (sm_a1 (sm_a2 h))))))))
theorem nw_121 {args : Array Value} {s : State} (h : narrow_1.before args s = true) : ((Jvm.Cond.eq (Jvm.Term.elem (Jvm.Term.field (Jvm.Term.string "QueryTables$Tokens" (89 : Nat)) "java/lang/String" "value" "[B") (Jvm.Term.int (4 : Int32))) (Jvm.Term.int (116 : Int32)))).before args s = true := sm_a2 (sm_a2 (sm_a2 (sm_a2 (sm_a2 (sm_a1 (sm_a1 (sm_a1 (sm_a2 h))))))))
theorem nw_122 {args : Array Value} {s : State} (h : narrow_1.before args s = true) : ((Jvm.Cond.eq (Jvm.Term.elem (Jvm.Term.field (Jvm.Term.string "QueryTables$Tokens" (91 : Nat)) "java/lang/String" "value" "[B") (Jvm.Term.int (0 : Int32))) (Jvm.Term.int (110 : Int32)))).before args s = true := sm_a1 (sm_a2 (sm_a2 (sm_a2 (sm_a2 (sm_a1 (sm_a1 (sm_a2 h)))))))
theorem nw_123 {args : Array Value} {s : State} (h : narrow_1.before args s = true) : ((Jvm.Cond.eq (Jvm.Term.elem (Jvm.Term.field (Jvm.Term.string "QueryTables$Tokens" (91 : Nat)) "java/lang/String" "value" "[B") (Jvm.Term.int (1 : Int32))) (Jvm.Term.int (117 : Int32)))).before args s = true := sm_a1 (sm_a2 (sm_a2 (sm_a2 (sm_a2 (sm_a2 (sm_a1 (sm_a1 (sm_a2 h))))))))
theorem nw_124 {args : Array Value} {s : State} (h : narrow_1.before args s = true) : ((Jvm.Cond.eq (Jvm.Term.elem (Jvm.Term.field (Jvm.Term.string "QueryTables$Tokens" (91 : Nat)) "java/lang/String" "value" "[B") (Jvm.Term.int (2 : Int32))) (Jvm.Term.int (108 : Int32)))).before args s = true := sm_a2 (sm_a2 (sm_a2 (sm_a2 (sm_a2 (sm_a2 (sm_a1 (sm_a1 (sm_a2 h))))))))
theorem nw_125 {args : Array Value} {s : State} (h : narrow_1.before args s = true) : ((Jvm.Cond.eq (Jvm.Term.elem (Jvm.Term.field (Jvm.Term.string "QueryTables$Tokens" (91 : Nat)) "java/lang/String" "value" "[B") (Jvm.Term.int (3 : Int32))) (Jvm.Term.int (108 : Int32)))).before args s = true := sm_a1 (sm_a1 (sm_a1 (sm_a1 (sm_a1 (sm_a2 (sm_a1 (sm_a2 h)))))))
theorem nw_126 {args : Array Value} {s : State} (h : narrow_1.before args s = true) : ((Jvm.Cond.eq (Jvm.Term.elem (Jvm.Term.field (Jvm.Term.string "QueryTables$Tokens" (93 : Nat)) "java/lang/String" "value" "[B") (Jvm.Term.int (0 : Int32))) (Jvm.Term.int (111 : Int32)))).before args s = true := sm_a2 (sm_a2 (sm_a2 (sm_a2 (sm_a2 (sm_a1 (sm_a2 (sm_a1 (sm_a2 h))))))))
theorem nw_127 {args : Array Value} {s : State} (h : narrow_1.before args s = true) : ((Jvm.Cond.eq (Jvm.Term.elem (Jvm.Term.field (Jvm.Term.string "QueryTables$Tokens" (93 : Nat)) "java/lang/String" "value" "[B") (Jvm.Term.int (1 : Int32))) (Jvm.Term.int (114 : Int32)))).before args s = true := sm_a1 (sm_a1 (sm_a1 (sm_a1 (sm_a2 (sm_a2 (sm_a1 (sm_a2 h)))))))
theorem nw_128 {args : Array Value} {s : State} (h : narrow_1.before args s = true) : ((Jvm.Cond.eq (Jvm.Term.elem (Jvm.Term.field (Jvm.Term.string "QueryTables$Tokens" (95 : Nat)) "java/lang/String" "value" "[B") (Jvm.Term.int (0 : Int32))) (Jvm.Term.int (97 : Int32)))).before args s = true := sm_a1 (sm_a1 (sm_a1 (sm_a1 (sm_a1 (sm_a1 (sm_a2 (sm_a2 h)))))))
theorem nw_129 {args : Array Value} {s : State} (h : narrow_1.before args s = true) : ((Jvm.Cond.eq (Jvm.Term.elem (Jvm.Term.field (Jvm.Term.string "QueryTables$Tokens" (95 : Nat)) "java/lang/String" "value" "[B") (Jvm.Term.int (1 : Int32))) (Jvm.Term.int (110 : Int32)))).before args s = true := sm_a2 (sm_a1 (sm_a1 (sm_a1 (sm_a1 (sm_a1 (sm_a2 (sm_a2 h)))))))
theorem nw_130 {args : Array Value} {s : State} (h : narrow_1.before args s = true) : ((Jvm.Cond.eq (Jvm.Term.elem (Jvm.Term.field (Jvm.Term.string "QueryTables$Tokens" (95 : Nat)) "java/lang/String" "value" "[B") (Jvm.Term.int (2 : Int32))) (Jvm.Term.int (100 : Int32)))).before args s = true := sm_a1 (sm_a2 (sm_a1 (sm_a1 (sm_a1 (sm_a1 (sm_a2 (sm_a2 h)))))))
theorem nw_131 {args : Array Value} {s : State} (h : narrow_1.before args s = true) : ((Jvm.Cond.eq (Jvm.Term.elem (Jvm.Term.field (Jvm.Term.string "QueryTables$Tokens" (97 : Nat)) "java/lang/String" "value" "[B") (Jvm.Term.int (0 : Int32))) (Jvm.Term.int (110 : Int32)))).before args s = true := sm_a2 (sm_a2 (sm_a1 (sm_a1 (sm_a2 (sm_a1 (sm_a2 (sm_a2 h)))))))
theorem nw_132 {args : Array Value} {s : State} (h : narrow_1.before args s = true) : ((Jvm.Cond.eq (Jvm.Term.elem (Jvm.Term.field (Jvm.Term.string "QueryTables$Tokens" (97 : Nat)) "java/lang/String" "value" "[B") (Jvm.Term.int (1 : Int32))) (Jvm.Term.int (111 : Int32)))).before args s = true := sm_a1 (sm_a1 (sm_a2 (sm_a1 (sm_a2 (sm_a1 (sm_a2 (sm_a2 h)))))))
theorem nw_133 {args : Array Value} {s : State} (h : narrow_1.before args s = true) : ((Jvm.Cond.eq (Jvm.Term.elem (Jvm.Term.field (Jvm.Term.string "QueryTables$Tokens" (97 : Nat)) "java/lang/String" "value" "[B") (Jvm.Term.int (2 : Int32))) (Jvm.Term.int (116 : Int32)))).before args s = true := sm_a2 (sm_a1 (sm_a2 (sm_a1 (sm_a2 (sm_a1 (sm_a2 (sm_a2 h)))))))
theorem nw_134 {args : Array Value} {s : State} (h : narrow_1.before args s = true) : ((Jvm.Cond.eq (Jvm.Term.elem (Jvm.Term.field (Jvm.Term.string "QueryTables$Tokens" (50 : Nat)) "java/lang/String" "value" "[B") (Jvm.Term.int (0 : Int32))) (Jvm.Term.int (40 : Int32)))).before args s = true := sm_a2 (sm_a2 (sm_a2 (sm_a1 (sm_a1 (sm_a2 (sm_a2 (sm_a2 h)))))))
theorem nw_135 {args : Array Value} {s : State} (h : narrow_1.before args s = true) : ((Jvm.Cond.eq (Jvm.Term.elem (Jvm.Term.field (Jvm.Term.string "QueryTables$Tokens" (50 : Nat)) "java/lang/String" "value" "[B") (Jvm.Term.int (1 : Int32))) (Jvm.Term.int (41 : Int32)))).before args s = true := sm_a1 (sm_a1 (sm_a1 (sm_a2 (sm_a1 (sm_a2 (sm_a2 (sm_a2 h)))))))
theorem nw_136 {args : Array Value} {s : State} (h : narrow_1.before args s = true) : ((Jvm.Cond.eq (Jvm.Term.elem (Jvm.Term.field (Jvm.Term.string "QueryTables$Tokens" (50 : Nat)) "java/lang/String" "value" "[B") (Jvm.Term.int (2 : Int32))) (Jvm.Term.int (91 : Int32)))).before args s = true := sm_a2 (sm_a1 (sm_a1 (sm_a2 (sm_a1 (sm_a2 (sm_a2 (sm_a2 h)))))))
theorem nw_137 {args : Array Value} {s : State} (h : narrow_1.before args s = true) : ((Jvm.Cond.eq (Jvm.Term.elem (Jvm.Term.field (Jvm.Term.string "QueryTables$Tokens" (50 : Nat)) "java/lang/String" "value" "[B") (Jvm.Term.int (3 : Int32))) (Jvm.Term.int (93 : Int32)))).before args s = true := sm_a1 (sm_a2 (sm_a1 (sm_a2 (sm_a1 (sm_a2 (sm_a2 (sm_a2 h)))))))
theorem nw_138 {args : Array Value} {s : State} (h : narrow_1.before args s = true) : ((Jvm.Cond.eq (Jvm.Term.elem (Jvm.Term.field (Jvm.Term.string "QueryTables$Tokens" (50 : Nat)) "java/lang/String" "value" "[B") (Jvm.Term.int (4 : Int32))) (Jvm.Term.int (44 : Int32)))).before args s = true := sm_a2 (sm_a2 (sm_a1 (sm_a2 (sm_a1 (sm_a2 (sm_a2 (sm_a2 h)))))))
theorem nw_139 {args : Array Value} {s : State} (h : narrow_1.before args s = true) : ((Jvm.Cond.eq (Jvm.Term.elem (Jvm.Term.field (Jvm.Term.string "QueryTables$Tokens" (50 : Nat)) "java/lang/String" "value" "[B") (Jvm.Term.int (5 : Int32))) (Jvm.Term.int (46 : Int32)))).before args s = true := sm_a1 (sm_a1 (sm_a2 (sm_a2 (sm_a1 (sm_a2 (sm_a2 (sm_a2 h)))))))
theorem nw_140 {args : Array Value} {s : State} (h : narrow_1.before args s = true) : ((Jvm.Cond.eq (Jvm.Term.elem (Jvm.Term.field (Jvm.Term.string "QueryTables$Tokens" (50 : Nat)) "java/lang/String" "value" "[B") (Jvm.Term.int (6 : Int32))) (Jvm.Term.int (43 : Int32)))).before args s = true := sm_a2 (sm_a1 (sm_a2 (sm_a2 (sm_a1 (sm_a2 (sm_a2 (sm_a2 h)))))))
theorem nw_141 {args : Array Value} {s : State} (h : narrow_1.before args s = true) : ((Jvm.Cond.eq (Jvm.Term.elem (Jvm.Term.field (Jvm.Term.string "QueryTables$Tokens" (50 : Nat)) "java/lang/String" "value" "[B") (Jvm.Term.int (7 : Int32))) (Jvm.Term.int (45 : Int32)))).before args s = true := sm_a1 (sm_a2 (sm_a2 (sm_a2 (sm_a1 (sm_a2 (sm_a2 (sm_a2 h)))))))
theorem nw_142 {args : Array Value} {s : State} (h : narrow_1.before args s = true) : ((Jvm.Cond.eq (Jvm.Term.elem (Jvm.Term.field (Jvm.Term.string "QueryTables$Tokens" (50 : Nat)) "java/lang/String" "value" "[B") (Jvm.Term.int (8 : Int32))) (Jvm.Term.int (42 : Int32)))).before args s = true := sm_a1 (sm_a2 (sm_a2 (sm_a2 (sm_a2 (sm_a1 (sm_a2 (sm_a2 (sm_a2 h))))))))
theorem nw_143 {args : Array Value} {s : State} (h : narrow_1.before args s = true) : ((Jvm.Cond.eq (Jvm.Term.elem (Jvm.Term.field (Jvm.Term.string "QueryTables$Tokens" (50 : Nat)) "java/lang/String" "value" "[B") (Jvm.Term.int (9 : Int32))) (Jvm.Term.int (47 : Int32)))).before args s = true := sm_a2 (sm_a2 (sm_a2 (sm_a2 (sm_a2 (sm_a1 (sm_a2 (sm_a2 (sm_a2 h))))))))
theorem nw_144 {args : Array Value} {s : State} (h : narrow_1.before args s = true) : ((Jvm.Cond.eq (Jvm.Term.elem (Jvm.Term.field (Jvm.Term.string "QueryTables$Tokens" (50 : Nat)) "java/lang/String" "value" "[B") (Jvm.Term.int (10 : Int32))) (Jvm.Term.int (61 : Int32)))).before args s = true := sm_a1 (sm_a1 (sm_a1 (sm_a1 (sm_a2 (sm_a2 (sm_a2 (sm_a2 h)))))))
theorem nw_145 {args : Array Value} {s : State} (h : narrow_1.before args s = true) : ((Jvm.Cond.eq (Jvm.Term.elem (Jvm.Term.field (Jvm.Term.string "QueryTables$Tokens" (50 : Nat)) "java/lang/String" "value" "[B") (Jvm.Term.int (11 : Int32))) (Jvm.Term.int (60 : Int32)))).before args s = true := sm_a2 (sm_a1 (sm_a1 (sm_a1 (sm_a2 (sm_a2 (sm_a2 (sm_a2 h)))))))
theorem nw_146 {args : Array Value} {s : State} (h : narrow_1.before args s = true) : ((Jvm.Cond.eq (Jvm.Term.elem (Jvm.Term.field (Jvm.Term.string "QueryTables$Tokens" (50 : Nat)) "java/lang/String" "value" "[B") (Jvm.Term.int (12 : Int32))) (Jvm.Term.int (62 : Int32)))).before args s = true := sm_a1 (sm_a2 (sm_a1 (sm_a1 (sm_a2 (sm_a2 (sm_a2 (sm_a2 h)))))))
theorem nw_147 {args : Array Value} {s : State} (h : narrow_1.before args s = true) : ((Jvm.Cond.not (Jvm.Cond.eq (Jvm.Term.string "QueryTables$Tokens" (65 : Nat)) (Jvm.Term.string "QueryTables$Tokens" (71 : Nat))))).before args s = true := sm_a2 (sm_a1 (sm_a1 (sm_a2 (sm_a2 (sm_a1 (sm_a1 (sm_a1 h)))))))
theorem nw_148 {args : Array Value} {s : State} (h : narrow_1.before args s = true) : ((Jvm.Cond.not (Jvm.Cond.eq (Jvm.Term.string "QueryTables$Tokens" (65 : Nat)) (Jvm.Term.string "QueryTables$Tokens" (73 : Nat))))).before args s = true := sm_a2 (sm_a2 (sm_a1 (sm_a1 (sm_a1 (sm_a2 (sm_a1 (sm_a1 h)))))))
theorem nw_149 {args : Array Value} {s : State} (h : narrow_1.before args s = true) : ((Jvm.Cond.not (Jvm.Cond.eq (Jvm.Term.string "QueryTables$Tokens" (65 : Nat)) (Jvm.Term.string "QueryTables$Tokens" (75 : Nat))))).before args s = true := sm_a1 (sm_a2 (sm_a2 (sm_a2 (sm_a2 (sm_a1 (sm_a2 (sm_a1 (sm_a1 h))))))))
theorem nw_150 {args : Array Value} {s : State} (h : narrow_1.before args s = true) : ((Jvm.Cond.not (Jvm.Cond.eq (Jvm.Term.string "QueryTables$Tokens" (65 : Nat)) (Jvm.Term.string "QueryTables$Tokens" (77 : Nat))))).before args s = true := sm_a2 (sm_a2 (sm_a1 (sm_a2 (sm_a2 (sm_a2 (sm_a1 (sm_a1 h)))))))
theorem nw_151 {args : Array Value} {s : State} (h : narrow_1.before args s = true) : ((Jvm.Cond.not (Jvm.Cond.eq (Jvm.Term.string "QueryTables$Tokens" (65 : Nat)) (Jvm.Term.string "QueryTables$Tokens" (79 : Nat))))).before args s = true := sm_a1 (sm_a1 (sm_a1 (sm_a2 (sm_a1 (sm_a1 (sm_a2 (sm_a1 h)))))))
theorem nw_152 {args : Array Value} {s : State} (h : narrow_1.before args s = true) : ((Jvm.Cond.not (Jvm.Cond.eq (Jvm.Term.string "QueryTables$Tokens" (65 : Nat)) (Jvm.Term.string "QueryTables$Tokens" (81 : Nat))))).before args s = true := sm_a1 (sm_a1 (sm_a2 (sm_a1 (sm_a2 (sm_a1 (sm_a2 (sm_a1 h)))))))
theorem nw_153 {args : Array Value} {s : State} (h : narrow_1.before args s = true) : ((Jvm.Cond.not (Jvm.Cond.eq (Jvm.Term.string "QueryTables$Tokens" (65 : Nat)) (Jvm.Term.string "QueryTables$Tokens" (83 : Nat))))).before args s = true := sm_a1 (sm_a2 (sm_a1 (sm_a1 (sm_a1 (sm_a2 (sm_a2 (sm_a1 h)))))))
theorem nw_154 {args : Array Value} {s : State} (h : narrow_1.before args s = true) : ((Jvm.Cond.not (Jvm.Cond.eq (Jvm.Term.string "QueryTables$Tokens" (65 : Nat)) (Jvm.Term.string "QueryTables$Tokens" (85 : Nat))))).before args s = true := sm_a2 (sm_a1 (sm_a1 (sm_a1 (sm_a2 (sm_a2 (sm_a2 (sm_a1 h)))))))
theorem nw_155 {args : Array Value} {s : State} (h : narrow_1.before args s = true) : ((Jvm.Cond.not (Jvm.Cond.eq (Jvm.Term.string "QueryTables$Tokens" (65 : Nat)) (Jvm.Term.string "QueryTables$Tokens" (87 : Nat))))).before args s = true := sm_a2 (sm_a2 (sm_a2 (sm_a2 (sm_a2 (sm_a2 (sm_a2 (sm_a2 (sm_a1 h))))))))
theorem nw_156 {args : Array Value} {s : State} (h : narrow_1.before args s = true) : ((Jvm.Cond.not (Jvm.Cond.eq (Jvm.Term.string "QueryTables$Tokens" (65 : Nat)) (Jvm.Term.string "QueryTables$Tokens" (89 : Nat))))).before args s = true := sm_a1 (sm_a1 (sm_a1 (sm_a1 (sm_a2 (sm_a1 (sm_a1 (sm_a2 h)))))))
theorem nw_157 {args : Array Value} {s : State} (h : narrow_1.before args s = true) : ((Jvm.Cond.not (Jvm.Cond.eq (Jvm.Term.string "QueryTables$Tokens" (65 : Nat)) (Jvm.Term.string "QueryTables$Tokens" (91 : Nat))))).before args s = true := sm_a2 (sm_a1 (sm_a1 (sm_a1 (sm_a1 (sm_a2 (sm_a1 (sm_a2 h)))))))
theorem nw_158 {args : Array Value} {s : State} (h : narrow_1.before args s = true) : ((Jvm.Cond.not (Jvm.Cond.eq (Jvm.Term.string "QueryTables$Tokens" (65 : Nat)) (Jvm.Term.string "QueryTables$Tokens" (93 : Nat))))).before args s = true := sm_a2 (sm_a1 (sm_a1 (sm_a1 (sm_a2 (sm_a2 (sm_a1 (sm_a2 h)))))))
theorem nw_159 {args : Array Value} {s : State} (h : narrow_1.before args s = true) : ((Jvm.Cond.not (Jvm.Cond.eq (Jvm.Term.string "QueryTables$Tokens" (65 : Nat)) (Jvm.Term.string "QueryTables$Tokens" (95 : Nat))))).before args s = true := sm_a2 (sm_a2 (sm_a1 (sm_a1 (sm_a1 (sm_a1 (sm_a2 (sm_a2 h)))))))
theorem nw_160 {args : Array Value} {s : State} (h : narrow_1.before args s = true) : ((Jvm.Cond.not (Jvm.Cond.eq (Jvm.Term.string "QueryTables$Tokens" (65 : Nat)) (Jvm.Term.string "QueryTables$Tokens" (97 : Nat))))).before args s = true := sm_a1 (sm_a2 (sm_a2 (sm_a1 (sm_a2 (sm_a1 (sm_a2 (sm_a2 h)))))))
theorem nw_161 {args : Array Value} {s : State} (h : narrow_1.before args s = true) : ((Jvm.Cond.not (Jvm.Cond.eq (Jvm.Term.string "QueryTables$Tokens" (65 : Nat)) (Jvm.Term.string "QueryTables$Tokens" (50 : Nat))))).before args s = true := sm_a2 (sm_a2 (sm_a1 (sm_a1 (sm_a2 (sm_a2 (sm_a2 (sm_a2 h)))))))
theorem nw_162 {args : Array Value} {s : State} (h : narrow_1.before args s = true) : ((Jvm.Cond.not (Jvm.Cond.eq (Jvm.Term.string "QueryTables$Tokens" (71 : Nat)) (Jvm.Term.string "QueryTables$Tokens" (73 : Nat))))).before args s = true := sm_a1 (sm_a1 (sm_a2 (sm_a1 (sm_a1 (sm_a2 (sm_a1 (sm_a1 h)))))))
theorem nw_163 {args : Array Value} {s : State} (h : narrow_1.before args s = true) : ((Jvm.Cond.not (Jvm.Cond.eq (Jvm.Term.string "QueryTables$Tokens" (71 : Nat)) (Jvm.Term.string "QueryTables$Tokens" (75 : Nat))))).before args s = true := sm_a2 (sm_a2 (sm_a2 (sm_a2 (sm_a2 (sm_a1 (sm_a2 (sm_a1 (sm_a1 h))))))))
theorem nw_164 {args : Array Value} {s : State} (h : narrow_1.before args s = true) : ((Jvm.Cond.not (Jvm.Cond.eq (Jvm.Term.string "QueryTables$Tokens" (71 : Nat)) (Jvm.Term.string "QueryTables$Tokens" (77 : Nat))))).before args s = true := sm_a1 (sm_a1 (sm_a2 (sm_a2 (sm_a2 (sm_a2 (sm_a1 (sm_a1 h)))))))
theorem nw_165 {args : Array Value} {s : State} (h : narrow_1.before args s = true) : ((Jvm.Cond.not (Jvm.Cond.eq (Jvm.Term.string "QueryTables$Tokens" (71 : Nat)) (Jvm.Term.string "QueryTables$Tokens" (79 : Nat))))).before args s = true := sm_a2 (sm_a1 (sm_a1 (sm_a2 (sm_a1 (sm_a1 (sm_a2 (sm_a1 h)))))))
theorem nw_166 {args : Array Value} {s : State} (h : narrow_1.before args s = true) : ((Jvm.Cond.not (Jvm.Cond.eq (Jvm.Term.string "QueryTables$Tokens" (71 : Nat)) (Jvm.Term.string "QueryTables$Tokens" (81 : Nat))))).before args s = true := sm_a2 (sm_a1 (sm_a2 (sm_a1 (sm_a2 (sm_a1 (sm_a2 (sm_a1 h)))))))
theorem nw_167 {args : Array Value} {s : State} (h : narrow_1.before args s = true) : ((Jvm.Cond.not (Jvm.Cond.eq (Jvm.Term.string "QueryTables$Tokens" (71 : Nat)) (Jvm.Term.string "QueryTables$Tokens" (83 : Nat))))).before args s = true := sm_a2 (sm_a2 (sm_a1 (sm_a1 (sm_a1 (sm_a2 (sm_a2 (sm_a1 h)))))))
theorem nw_168 {args : Array Value} {s : State} (h : narrow_1.before args s = true) : ((Jvm.Cond.not (Jvm.Cond.eq (Jvm.Term.string "QueryTables$Tokens" (71 : Nat)) (Jvm.Term.string "QueryTables$Tokens" (85 : Nat))))).before args s = true := sm_a1 (sm_a2 (sm_a1 (sm_a1 (sm_a2 (sm_a2 (sm_a2 (sm_a1 h)))))))
theorem nw_169 {args : Array Value} {s : State} (h : narrow_1.before args s = true) : ((Jvm.Cond.not (Jvm.Cond.eq (Jvm.Term.string "QueryTables$Tokens" (71 : Nat)) (Jvm.Term.string "QueryTables$Tokens" (87 : Nat))))).before args s = true := sm_a1 (sm_a1 (sm_a1 (sm_a1 (sm_a1 (sm_a1 (sm_a1 (sm_a2 h)))))))
theorem nw_170 {args : Array Value} {s : State} (h : narrow_1.before args s = true) : ((Jvm.Cond.not (Jvm.Cond.eq (Jvm.Term.string "QueryTables$Tokens" (71 : Nat)) (Jvm.Term.string "QueryTables$Tokens" (89 : Nat))))).before args s = true := sm_a2 (sm_a1 (sm_a1 (sm_a1 (sm_a2 (sm_a1 (sm_a1 (sm_a2 h)))))))
theorem nw_171 {args : Array Value} {s : State} (h : narrow_1.before args s = true) : ((Jvm.Cond.not (Jvm.Cond.eq (Jvm.Term.string "QueryTables$Tokens" (71 : Nat)) (Jvm.Term.string "QueryTables$Tokens" (91 : Nat))))).before args s = true := sm_a1 (sm_a2 (sm_a1 (sm_a1 (sm_a1 (sm_a2 (sm_a1 (sm_a2 h)))))))
theorem nw_172 {args : Array Value} {s : State} (h : narrow_1.before args s = true) : ((Jvm.Cond.not (Jvm.Cond.eq (Jvm.Term.string "QueryTables$Tokens" (71 : Nat)) (Jvm.Term.string "QueryTables$Tokens" (93 : Nat))))).before args s = true := sm_a1 (sm_a2 (sm_a1 (sm_a1 (sm_a2 (sm_a2 (sm_a1 (sm_a2 h)))))))
theorem nw_173 {args : Array Value} {s : State} (h : narrow_1.before args s = true) : ((Jvm.Cond.not (Jvm.Cond.eq (Jvm.Term.string "QueryTables$Tokens" (71 : Nat)) (Jvm.Term.string "QueryTables$Tokens" (95 : Nat))))).before args s = true := sm_a1 (sm_a1 (sm_a2 (sm_a1 (sm_a1 (sm_a1 (sm_a2 (sm_a2 h)))))))
theorem nw_174 {args : Array Value} {s : State} (h : narrow_1.before args s = true) : ((Jvm.Cond.not (Jvm.Cond.eq (Jvm.Term.string "QueryTables$Tokens" (71 : Nat)) (Jvm.Term.string "QueryTables$Tokens" (97 : Nat))))).before args s = true := sm_a2 (sm_a2 (sm_a2 (sm_a1 (sm_a2 (sm_a1 (sm_a2 (sm_a2 h)))))))
theorem nw_175 {args : Array Value} {s : State} (h : narrow_1.before args s = true) : ((Jvm.Cond.not (Jvm.Cond.eq (Jvm.Term.string "QueryTables$Tokens" (71 : Nat)) (Jvm.Term.string "QueryTables$Tokens" (50 : Nat))))).before args s = true := sm_a1 (sm_a1 (sm_a2 (sm_a1 (sm_a2 (sm_a2 (sm_a2 (sm_a2 h)))))))
theorem nw_176 {args : Array Value} {s : State} (h : narrow_1.before args s = true) : ((Jvm.Cond.not (Jvm.Cond.eq (Jvm.Term.string "QueryTables$Tokens" (73 : Nat)) (Jvm.Term.string "QueryTables$Tokens" (75 : Nat))))).before args s = true := sm_a1 (sm_a1 (sm_a1 (sm_a1 (sm_a2 (sm_a2 (sm_a1 (sm_a1 h)))))))
theorem nw_177 {args : Array Value} {s : State} (h : narrow_1.before args s = true) : ((Jvm.Cond.not (Jvm.Cond.eq (Jvm.Term.string "QueryTables$Tokens" (73 : Nat)) (Jvm.Term.string "QueryTables$Tokens" (77 : Nat))))).before args s = true := sm_a2 (sm_a1 (sm_a2 (sm_a2 (sm_a2 (sm_a2 (sm_a1 (sm_a1 h)))))))
theorem nw_178 {args : Array Value} {s : State} (h : narrow_1.before args s = true) : ((Jvm.Cond.not (Jvm.Cond.eq (Jvm.Term.string "QueryTables$Tokens" (73 : Nat)) (Jvm.Term.string "QueryTables$Tokens" (79 : Nat))))).before args s = true := sm_a1 (sm_a2 (sm_a1 (sm_a2 (sm_a1 (sm_a1 (sm_a2 (sm_a1 h)))))))
theorem nw_179 {args : Array Value} {s : State} (h : narrow_1.before args s = true) : ((Jvm.Cond.not (Jvm.Cond.eq (Jvm.Term.string "QueryTables$Tokens" (73 : Nat)) (Jvm.Term.string "QueryTables$Tokens" (81 : Nat))))).before args s = true := sm_a1 (sm_a2 (sm_a2 (sm_a1 (sm_a2 (sm_a1 (sm_a2 (sm_a1 h)))))))
theorem nw_180 {args : Array Value} {s : State} (h : narrow_1.before args s = true) : ((Jvm.Cond.not (Jvm.Cond.eq (Jvm.Term.string "QueryTables$Tokens" (73 : Nat)) (Jvm.Term.string "QueryTables$Tokens" (83 : Nat))))).before args s = true := sm_a1 (sm_a1 (sm_a2 (sm_a1 (sm_a1 (sm_a2 (sm_a2 (sm_a1 h)))))))
theorem nw_181 {args : Array Value} {s : State} (h : narrow_1.before args s = true) : ((Jvm.Cond.not (Jvm.Cond.eq (Jvm.Term.string "QueryTables$Tokens" (73 : Nat)) (Jvm.Term.string "QueryTables$Tokens" (85 : Nat))))).before args s = true := sm_a2 (sm_a2 (sm_a1 (sm_a1 (sm_a2 (sm_a2 (sm_a2 (sm_a1 h)))))))
theorem nw_182 {args : Array Value} {s : State} (h : narrow_1.before args s = true) : ((Jvm.Cond.not (Jvm.Cond.eq (Jvm.Term.string "QueryTables$Tokens" (73 : Nat)) (Jvm.Term.string "QueryTables$Tokens" (87 : Nat))))).before args s = true := sm_a2 (sm_a1 (sm_a1 (sm_a1 (sm_a1 (sm_a1 (sm_a1 (sm_a2 h)))))))
theorem nw_183 {args : Array Value} {s : State} (h : narrow_1.before args s = true) : ((Jvm.Cond.not (Jvm.Cond.eq (Jvm.Term.string "QueryTables$Tokens" (73 : Nat)) (Jvm.Term.string "QueryTables$Tokens" (89 : Nat))))).before args s = true := sm_a1 (sm_a2 (sm_a1 (sm_a1 (sm_a2 (sm_a1 (sm_a1 (sm_a2 h)))))))
theorem nw_184 {args : Array Value} {s : State} (h : narrow_1.before args s = true) : ((Jvm.Cond.not (Jvm.Cond.eq (Jvm.Term.string "QueryTables$Tokens" (73 : Nat)) (Jvm.Term.string "QueryTables$Tokens" (91 : Nat))))).before args s = true := sm_a2 (sm_a2 (sm_a1 (sm_a1 (sm_a1 (sm_a2 (sm_a1 (sm_a2 h)))))))
theorem nw_185 {args : Array Value} {s : State} (h : narrow_1.before args s = true) : ((Jvm.Cond.not (Jvm.Cond.eq (Jvm.Term.string "QueryTables$Tokens" (73 : Nat)) (Jvm.Term.string "QueryTables$Tokens" (93 : Nat))))).before args s = true := sm_a2 (sm_a2 (sm_a1 (sm_a1 (sm_a2 (sm_a2 (sm_a1 (sm_a2 h)))))))
theorem nw_186 {args : Array Value} {s : State} (h : narrow_1.before args s = true) : ((Jvm.Cond.not (Jvm.Cond.eq (Jvm.Term.string "QueryTables$Tokens" (73 : Nat)) (Jvm.Term.string "QueryTables$Tokens" (95 : Nat))))).before args s = true := sm_a2 (sm_a1 (sm_a2 (sm_a1 (sm_a1 (sm_a1 (sm_a2 (sm_a2 h)))))))
theorem nw_187 {args : Array Value} {s : State} (h : narrow_1.before args s = true) : ((Jvm.Cond.not (Jvm.Cond.eq (Jvm.Term.string "QueryTables$Tokens" (73 : Nat)) (Jvm.Term.string "QueryTables$Tokens" (97 : Nat))))).before args s = true := sm_a1 (sm_a1 (sm_a1 (sm_a2 (sm_a2 (sm_a1 (sm_a2 (sm_a2 h)))))))
theorem nw_188 {args : Array Value} {s : State} (h : narrow_1.before args s = true) : ((Jvm.Cond.not (Jvm.Cond.eq (Jvm.Term.string "QueryTables$Tokens" (73 : Nat)) (Jvm.Term.string "QueryTables$Tokens" (50 : Nat))))).before args s = true := sm_a2 (sm_a1 (sm_a2 (sm_a1 (sm_a2 (sm_a2 (sm_a2 (sm_a2 h)))))))
theorem nw_189 {args : Array Value} {s : State} (h : narrow_1.before args s = true) : ((Jvm.Cond.not (Jvm.Cond.eq (Jvm.Term.string "QueryTables$Tokens" (75 : Nat)) (Jvm.Term.string "QueryTables$Tokens" (77 : Nat))))).before args s = true := sm_a1 (sm_a2 (sm_a2 (sm_a2 (sm_a2 (sm_a2 (sm_a1 (sm_a1 h)))))))
theorem nw_190 {args : Array Value} {s : State} (h : narrow_1.before args s = true) : ((Jvm.Cond.not (Jvm.Cond.eq (Jvm.Term.string "QueryTables$Tokens" (75 : Nat)) (Jvm.Term.string "QueryTables$Tokens" (79 : Nat))))).before args s = true := sm_a2 (sm_a2 (sm_a1 (sm_a2 (sm_a1 (sm_a1 (sm_a2 (sm_a1 h)))))))
theorem nw_191 {args : Array Value} {s : State} (h : narrow_1.before args s = true) : ((Jvm.Cond.not (Jvm.Cond.eq (Jvm.Term.string "QueryTables$Tokens" (75 : Nat)) (Jvm.Term.string "QueryTables$Tokens" (81 : Nat))))).before args s = true := sm_a2 (sm_a2 (sm_a2 (sm_a1 (sm_a2 (sm_a1 (sm_a2 (sm_a1 h)))))))
theorem nw_192 {args : Array Value} {s : State} (h : narrow_1.before args s = true) : ((Jvm.Cond.not (Jvm.Cond.eq (Jvm.Term.string "QueryTables$Tokens" (75 : Nat)) (Jvm.Term.string "QueryTables$Tokens" (83 : Nat))))).before args s = true := sm_a2 (sm_a1 (sm_a2 (sm_a1 (sm_a1 (sm_a2 (sm_a2 (sm_a1 h)))))))
theorem nw_193 {args : Array Value} {s : State} (h : narrow_1.before args s = true) : ((Jvm.Cond.not (Jvm.Cond.eq (Jvm.Term.string "QueryTables$Tokens" (75 : Nat)) (Jvm.Term.string "QueryTables$Tokens" (85 : Nat))))).before args s = true := sm_a1 (sm_a1 (sm_a2 (sm_a1 (sm_a2 (sm_a2 (sm_a2 (sm_a1 h)))))))
theorem nw_194 {args : Array Value} {s : State} (h : narrow_1.before args s = true) : ((Jvm.Cond.not (Jvm.Cond.eq (Jvm.Term.string "QueryTables$Tokens" (75 : Nat)) (Jvm.Term.string "QueryTables$Tokens" (87 : Nat))))).before args s = true := sm_a1 (sm_a2 (sm_a1 (sm_a1 (sm_a1 (sm_a1 (sm_a1 (sm_a2 h)))))))
theorem nw_195 {args : Array Value} {s : State} (h : narrow_1.before args s = true) : ((Jvm.Cond.not (Jvm.Cond.eq (Jvm.Term.string "QueryTables$Tokens" (75 : Nat)) (Jvm.Term.string "QueryTables$Tokens" (89 : Nat))))).before args s = true := sm_a2 (sm_a2 (sm_a1 (sm_a1 (sm_a2 (sm_a1 (sm_a1 (sm_a2 h)))))))
theorem nw_196 {args : Array Value} {s : State} (h : narrow_1.before args s = true) : ((Jvm.Cond.not (Jvm.Cond.eq (Jvm.Term.string "QueryTables$Tokens" (75 : Nat)) (Jvm.Term.string "QueryTables$Tokens" (91 : Nat))))).before args s = true := sm_a1 (sm_a1 (sm_a2 (sm_a1 (sm_a1 (sm_a2 (sm_a1 (sm_a2 h)))))))
theorem nw_197 {args : Array Value} {s : State} (h : narrow_1.before args s = true) : ((Jvm.Cond.not (Jvm.Cond.eq (Jvm.Term.string "QueryTables$Tokens" (75 : Nat)) (Jvm.Term.string "QueryTables$Tokens" (93 : Nat))))).before args s = true := sm_a1 (sm_a1 (sm_a2 (sm_a1 (sm_a2 (sm_a2 (sm_a1 (sm_a2 h)))))))
theorem nw_198 {args : Array Value} {s : State} (h : narrow_1.before args s = true) : ((Jvm.Cond.not (Jvm.Cond.eq (Jvm.Term.string "QueryTables$Tokens" (75 : Nat)) (Jvm.Term.string "QueryTables$Tokens" (95 : Nat))))).before args s = true := sm_a1 (sm_a2 (sm_a2 (sm_a1 (sm_a1 (sm_a1 (sm_a2 (sm_a2 h)))))))
theorem nw_199 {args : Array Value} {s : State} (h : narrow_1.before args s = true) : ((Jvm.Cond.not (Jvm.Cond.eq (Jvm.Term.string "QueryTables$Tokens" (75 : Nat)) (Jvm.Term.string "QueryTables$Tokens" (97 : Nat))))).before args s = true := sm_a2 (sm_a1 (sm_a1 (sm_a2 (sm_a2 (sm_a1 (sm_a2 (sm_a2 h)))))))
theorem nw_200 {args : Array Value} {s : State} (h : narrow_1.before args s = true) : ((Jvm.Cond.not (Jvm.Cond.eq (Jvm.Term.string "QueryTables$Tokens" (75 : Nat)) (Jvm.Term.string "QueryTables$Tokens" (50 : Nat))))).before args s = true := sm_a1 (sm_a2 (sm_a2 (sm_a1 (sm_a2 (sm_a2 (sm_a2 (sm_a2 h)))))))
theorem nw_201 {args : Array Value} {s : State} (h : narrow_1.before args s = true) : ((Jvm.Cond.not (Jvm.Cond.eq (Jvm.Term.string "QueryTables$Tokens" (77 : Nat)) (Jvm.Term.string "QueryTables$Tokens" (79 : Nat))))).before args s = true := sm_a1 (sm_a1 (sm_a2 (sm_a2 (sm_a1 (sm_a1 (sm_a2 (sm_a1 h)))))))
theorem nw_202 {args : Array Value} {s : State} (h : narrow_1.before args s = true) : ((Jvm.Cond.not (Jvm.Cond.eq (Jvm.Term.string "QueryTables$Tokens" (77 : Nat)) (Jvm.Term.string "QueryTables$Tokens" (81 : Nat))))).before args s = true := sm_a1 (sm_a1 (sm_a1 (sm_a2 (sm_a2 (sm_a1 (sm_a2 (sm_a1 h)))))))
theorem nw_203 {args : Array Value} {s : State} (h : narrow_1.before args s = true) : ((Jvm.Cond.not (Jvm.Cond.eq (Jvm.Term.string "QueryTables$Tokens" (77 : Nat)) (Jvm.Term.string "QueryTables$Tokens" (83 : Nat))))).before args s = true := sm_a1 (sm_a2 (sm_a2 (sm_a1 (sm_a1 (sm_a2 (sm_a2 (sm_a1 h)))))))
theorem nw_204 {args : Array Value} {s : State} (h : narrow_1.before args s = true) : ((Jvm.Cond.not (Jvm.Cond.eq (Jvm.Term.string "QueryTables$Tokens" (77 : Nat)) (Jvm.Term.string "QueryTables$Tokens" (85 : Nat))))).before args s = true := sm_a2 (sm_a1 (sm_a2 (sm_a1 (sm_a2 (sm_a2 (sm_a2 (sm_a1 h)))))))
theorem nw_205 {args : Array Value} {s : State} (h : narrow_1.before args s = true) : ((Jvm.Cond.not (Jvm.Cond.eq (Jvm.Term.string "QueryTables$Tokens" (77 : Nat)) (Jvm.Term.string "QueryTables$Tokens" (87 : Nat))))).before args s = true := sm_a2 (sm_a2 (sm_a1 (sm_a1 (sm_a1 (sm_a1 (sm_a1 (sm_a2 h)))))))
theorem nw_206 {args : Array Value} {s : State} (h : narrow_1.before args s = true) : ((Jvm.Cond.not (Jvm.Cond.eq (Jvm.Term.string "QueryTables$Tokens" (77 : Nat)) (Jvm.Term.string "QueryTables$Tokens" (89 : Nat))))).before args s = true := sm_a1 (sm_a1 (sm_a2 (sm_a1 (sm_a2 (sm_a1 (sm_a1 (sm_a2 h)))))))
theorem nw_207 {args : Array Value} {s : State} (h : narrow_1.before args s = true) : ((Jvm.Cond.not (Jvm.Cond.eq (Jvm.Term.string "QueryTables$Tokens" (77 : Nat)) (Jvm.Term.string "QueryTables$Tokens" (91 : Nat))))).before args s = true := sm_a2 (sm_a1 (sm_a2 (sm_a1 (sm_a1 (sm_a2 (sm_a1 (sm_a2 h)))))))
theorem nw_208 {args : Array Value} {s : State} (h : narrow_1.before args s = true) : ((Jvm.Cond.not (Jvm.Cond.eq (Jvm.Term.string "QueryTables$Tokens" (77 : Nat)) (Jvm.Term.string "QueryTables$Tokens" (93 : Nat))))).before args s = true := sm_a2 (sm_a1 (sm_a2 (sm_a1 (sm_a2 (sm_a2 (sm_a1 (sm_a2 h)))))))
theorem nw_209 {args : Array Value} {s : State} (h : narrow_1.before args s = true) : ((Jvm.Cond.not (Jvm.Cond.eq (Jvm.Term.string "QueryTables$Tokens" (77 : Nat)) (Jvm.Term.string "QueryTables$Tokens" (95 : Nat))))).before args s = true := sm_a2 (sm_a2 (sm_a2 (sm_a1 (sm_a1 (sm_a1 (sm_a2 (sm_a2 h)))))))
theorem nw_210 {args : Array Value} {s : State} (h : narrow_1.before args s = true) : ((Jvm.Cond.not (Jvm.Cond.eq (Jvm.Term.string "QueryTables$Tokens" (77 : Nat)) (Jvm.Term.string "QueryTables$Tokens" (97 : Nat))))).before args s = true := sm_a1 (sm_a2 (sm_a1 (sm_a2 (sm_a2 (sm_a1 (sm_a2 (sm_a2 h)))))))
theorem nw_211 {args : Array Value} {s : State} (h : narrow_1.before args s = true) : ((Jvm.Cond.not (Jvm.Cond.eq (Jvm.Term.string "QueryTables$Tokens" (77 : Nat)) (Jvm.Term.string "QueryTables$Tokens" (50 : Nat))))).before args s = true := sm_a1 (sm_a2 (sm_a2 (sm_a2 (sm_a1 (sm_a2 (sm_a2 (sm_a2 (sm_a2 h))))))))
theorem nw_212 {args : Array Value} {s : State} (h : narrow_1.before args s = true) : ((Jvm.Cond.not (Jvm.Cond.eq (Jvm.Term.string "QueryTables$Tokens" (79 : Nat)) (Jvm.Term.string "QueryTables$Tokens" (81 : Nat))))).before args s = true := sm_a2 (sm_a1 (sm_a1 (sm_a2 (sm_a2 (sm_a1 (sm_a2 (sm_a1 h)))))))
theorem nw_213 {args : Array Value} {s : State} (h : narrow_1.before args s = true) : ((Jvm.Cond.not (Jvm.Cond.eq (Jvm.Term.string "QueryTables$Tokens" (79 : Nat)) (Jvm.Term.string "QueryTables$Tokens" (83 : Nat))))).before args s = true := sm_a2 (sm_a2 (sm_a2 (sm_a1 (sm_a1 (sm_a2 (sm_a2 (sm_a1 h)))))))
theorem nw_214 {args : Array Value} {s : State} (h : narrow_1.before args s = true) : ((Jvm.Cond.not (Jvm.Cond.eq (Jvm.Term.string "QueryTables$Tokens" (79 : Nat)) (Jvm.Term.string "QueryTables$Tokens" (85 : Nat))))).before args s = true := sm_a1 (sm_a2 (sm_a2 (sm_a1 (sm_a2 (sm_a2 (sm_a2 (sm_a1 h)))))))
theorem nw_215 {args : Array Value} {s : State} (h : narrow_1.before args s = true) : ((Jvm.Cond.not (Jvm.Cond.eq (Jvm.Term.string "QueryTables$Tokens" (79 : Nat)) (Jvm.Term.string "QueryTables$Tokens" (87 : Nat))))).before args s = true := sm_a1 (sm_a1 (sm_a2 (sm_a1 (sm_a1 (sm_a1 (sm_a1 (sm_a2 h)))))))
theorem nw_216 {args : Array Value} {s : State} (h : narrow_1.before args s = true) : ((Jvm.Cond.not (Jvm.Cond.eq (Jvm.Term.string "QueryTables$Tokens" (79 : Nat)) (Jvm.Term.string "QueryTables$Tokens" (89 : Nat))))).before args s = true := sm_a2 (sm_a1 (sm_a2 (sm_a1 (sm_a2 (sm_a1 (sm_a1 (sm_a2 h)))))))
theorem nw_217 {args : Array Value} {s : State} (h : narrow_1.before args s = true) : ((Jvm.Cond.not (Jvm.Cond.eq (Jvm.Term.string "QueryTables$Tokens" (79 : Nat)) (Jvm.Term.string "QueryTables$Tokens" (91 : Nat))))).before args s = true := sm_a1 (sm_a2 (sm_a2 (sm_a1 (sm_a1 (sm_a2 (sm_a1 (sm_a2 h)))))))
theorem nw_218 {args : Array Value} {s : State} (h : narrow_1.before args s = true) : ((Jvm.Cond.not (Jvm.Cond.eq (Jvm.Term.string "QueryTables$Tokens" (79 : Nat)) (Jvm.Term.string "QueryTables$Tokens" (93 : Nat))))).before args s = true := sm_a1 (sm_a2 (sm_a2 (sm_a1 (sm_a2 (sm_a2 (sm_a1 (sm_a2 h)))))))
theorem nw_219 {args : Array Value} {s : State} (h : narrow_1.before args s = true) : ((Jvm.Cond.not (Jvm.Cond.eq (Jvm.Term.string "QueryTables$Tokens" (79 : Nat)) (Jvm.Term.string "QueryTables$Tokens" (95 : Nat))))).before args s = true := sm_a1 (sm_a1 (sm_a1 (sm_a2 (sm_a1 (sm_a1 (sm_a2 (sm_a2 h)))))))
theorem nw_220 {args : Array Value} {s : State} (h : narrow_1.before args s = true) : ((Jvm.Cond.not (Jvm.Cond.eq (Jvm.Term.string "QueryTables$Tokens" (79 : Nat)) (Jvm.Term.string "QueryTables$Tokens" (97 : Nat))))).before args s = true := sm_a2 (sm_a2 (sm_a1 (sm_a2 (sm_a2 (sm_a1 (sm_a2 (sm_a2 h)))))))
theorem nw_221 {args : Array Value} {s : State} (h : narrow_1.before args s = true) : ((Jvm.Cond.not (Jvm.Cond.eq (Jvm.Term.string "QueryTables$Tokens" (79 : Nat)) (Jvm.Term.string "QueryTables$Tokens" (50 : Nat))))).before args s = true := sm_a2 (sm_a2 (sm_a2 (sm_a2 (sm_a1 (sm_a2 (sm_a2 (sm_a2 (sm_a2 h))))))))
theorem nw_222 {args : Array Value} {s : State} (h : narrow_1.before args s = true) : ((Jvm.Cond.not (Jvm.Cond.eq (Jvm.Term.string "QueryTables$Tokens" (81 : Nat)) (Jvm.Term.string "QueryTables$Tokens" (83 : Nat))))).before args s = true := sm_a1 (sm_a1 (sm_a1 (sm_a2 (sm_a1 (sm_a2 (sm_a2 (sm_a1 h)))))))
theorem nw_223 {args : Array Value} {s : State} (h : narrow_1.before args s = true) : ((Jvm.Cond.not (Jvm.Cond.eq (Jvm.Term.string "QueryTables$Tokens" (81 : Nat)) (Jvm.Term.string "QueryTables$Tokens" (85 : Nat))))).before args s = true := sm_a1 (sm_a2 (sm_a2 (sm_a2 (sm_a1 (sm_a2 (sm_a2 (sm_a2 (sm_a1 h))))))))
theorem nw_224 {args : Array Value} {s : State} (h : narrow_1.before args s = true) : ((Jvm.Cond.not (Jvm.Cond.eq (Jvm.Term.string "QueryTables$Tokens" (81 : Nat)) (Jvm.Term.string "QueryTables$Tokens" (87 : Nat))))).before args s = true := sm_a2 (sm_a1 (sm_a2 (sm_a1 (sm_a1 (sm_a1 (sm_a1 (sm_a2 h)))))))
theorem nw_225 {args : Array Value} {s : State} (h : narrow_1.before args s = true) : ((Jvm.Cond.not (Jvm.Cond.eq (Jvm.Term.string "QueryTables$Tokens" (81 : Nat)) (Jvm.Term.string "QueryTables$Tokens" (89 : Nat))))).before args s = true := sm_a1 (sm_a2 (sm_a2 (sm_a1 (sm_a2 (sm_a1 (sm_a1 (sm_a2 h)))))))
theorem nw_226 {args : Array Value} {s : State} (h : narrow_1.before args s = true) : ((Jvm.Cond.not (Jvm.Cond.eq (Jvm.Term.string "QueryTables$Tokens" (81 : Nat)) (Jvm.Term.string "QueryTables$Tokens" (91 : Nat))))).before args s = true := sm_a2 (sm_a2 (sm_a2 (sm_a1 (sm_a1 (sm_a2 (sm_a1 (sm_a2 h)))))))
theorem nw_227 {args : Array Value} {s : State} (h : narrow_1.before args s = true) : ((Jvm.Cond.not (Jvm.Cond.eq (Jvm.Term.string "QueryTables$Tokens" (81 : Nat)) (Jvm.Term.string "QueryTables$Tokens" (93 : Nat))))).before args s = true := sm_a2 (sm_a2 (sm_a2 (sm_a1 (sm_a2 (sm_a2 (sm_a1 (sm_a2 h)))))))
theorem nw_228 {args : Array Value} {s : State} (h : narrow_1.before args s = true) : ((Jvm.Cond.not (Jvm.Cond.eq (Jvm.Term.string "QueryTables$Tokens" (81 : Nat)) (Jvm.Term.string "QueryTables$Tokens" (95 : Nat))))).before args s = true := sm_a2 (sm_a1 (sm_a1 (sm_a2 (sm_a1 (sm_a1 (sm_a2 (sm_a2 h)))))))
theorem nw_229 {args : Array Value} {s : State} (h : narrow_1.before args s = true) : ((Jvm.Cond.not (Jvm.Cond.eq (Jvm.Term.string "QueryTables$Tokens" (81 : Nat)) (Jvm.Term.string "QueryTables$Tokens" (97 : Nat))))).before args s = true := sm_a1 (sm_a1 (sm_a2 (sm_a2 (sm_a2 (sm_a1 (sm_a2 (sm_a2 h)))))))
theorem nw_230 {args : Array Value} {s : State} (h : narrow_1.before args s = true) : ((Jvm.Cond.not (Jvm.Cond.eq (Jvm.Term.string "QueryTables$Tokens" (81 : Nat)) (Jvm.Term.string "QueryTables$Tokens" (50 : Nat))))).before args s = true := sm_a1 (sm_a1 (sm_a1 (sm_a2 (sm_a2 (sm_a2 (sm_a2 (sm_a2 h)))))))
theorem nw_231 {args : Array Value} {s : State} (h : narrow_1.before args s = true) : ((Jvm.Cond.not (Jvm.Cond.eq (Jvm.Term.string "QueryTables$Tokens" (83 : Nat)) (Jvm.Term.string "QueryTables$Tokens" (85 : Nat))))).before args s = true := sm_a2 (sm_a2 (sm_a2 (sm_a2 (sm_a1 (sm_a2 (sm_a2 (sm_a2 (sm_a1 h))))))))
theorem nw_232 {args : Array Value} {s : State} (h : narrow_1.before args s = true) : ((Jvm.Cond.not (Jvm.Cond.eq (Jvm.Term.string "QueryTables$Tokens" (83 : Nat)) (Jvm.Term.string "QueryTables$Tokens" (87 : Nat))))).before args s = true := sm_a1 (sm_a2 (sm_a2 (sm_a1 (sm_a1 (sm_a1 (sm_a1 (sm_a2 h)))))))
theorem nw_233 {args : Array Value} {s : State} (h : narrow_1.before args s = true) : ((Jvm.Cond.not (Jvm.Cond.eq (Jvm.Term.string "QueryTables$Tokens" (83 : Nat)) (Jvm.Term.string "QueryTables$Tokens" (89 : Nat))))).before args s = true := sm_a2 (sm_a2 (sm_a2 (sm_a1 (sm_a2 (sm_a1 (sm_a1 (sm_a2 h)))))))
theorem nw_234 {args : Array Value} {s : State} (h : narrow_1.before args s = true) : ((Jvm.Cond.not (Jvm.Cond.eq (Jvm.Term.string "QueryTables$Tokens" (83 : Nat)) (Jvm.Term.string "QueryTables$Tokens" (91 : Nat))))).before args s = true := sm_a1 (sm_a1 (sm_a1 (sm_a2 (sm_a1 (sm_a2 (sm_a1 (sm_a2 h)))))))
theorem nw_235 {args : Array Value} {s : State} (h : narrow_1.before args s = true) : ((Jvm.Cond.not (Jvm.Cond.eq (Jvm.Term.string "QueryTables$Tokens" (83 : Nat)) (Jvm.Term.string "QueryTables$Tokens" (93 : Nat))))).before args s = true := sm_a1 (sm_a1 (sm_a1 (sm_a2 (sm_a2 (sm_a2 (sm_a1 (sm_a2 h)))))))
theorem nw_236 {args : Array Value} {s : State} (h : narrow_1.before args s = true) : ((Jvm.Cond.not (Jvm.Cond.eq (Jvm.Term.string "QueryTables$Tokens" (83 : Nat)) (Jvm.Term.string "QueryTables$Tokens" (95 : Nat))))).before args s = true := sm_a1 (sm_a2 (sm_a1 (sm_a2 (sm_a1 (sm_a1 (sm_a2 (sm_a2 h)))))))
theorem nw_237 {args : Array Value} {s : State} (h : narrow_1.before args s = true) : ((Jvm.Cond.not (Jvm.Cond.eq (Jvm.Term.string "QueryTables$Tokens" (83 : Nat)) (Jvm.Term.string "QueryTables$Tokens" (97 : Nat))))).before args s = true := sm_a2 (sm_a1 (sm_a2 (sm_a2 (sm_a2 (sm_a1 (sm_a2 (sm_a2 h)))))))
theorem nw_238 {args : Array Value} {s : State} (h : narrow_1.before args s = true) : ((Jvm.Cond.not (Jvm.Cond.eq (Jvm.Term.string "QueryTables$Tokens" (83 : Nat)) (Jvm.Term.string "QueryTables$Tokens" (50 : Nat))))).before args s = true := sm_a2 (sm_a1 (sm_a1 (sm_a2 (sm_a2 (sm_a2 (sm_a2 (sm_a2 h)))))))
theorem nw_239 {args : Array Value} {s : State} (h : narrow_1.before args s = true) : ((Jvm.Cond.not (Jvm.Cond.eq (Jvm.Term.string "QueryTables$Tokens" (85 : Nat)) (Jvm.Term.string "QueryTables$Tokens" (87 : Nat))))).before args s = true := sm_a2 (sm_a2 (sm_a2 (sm_a1 (sm_a1 (sm_a1 (sm_a1 (sm_a2 h)))))))
theorem nw_240 {args : Array Value} {s : State} (h : narrow_1.before args s = true) : ((Jvm.Cond.not (Jvm.Cond.eq (Jvm.Term.string "QueryTables$Tokens" (85 : Nat)) (Jvm.Term.string "QueryTables$Tokens" (89 : Nat))))).before args s = true := sm_a1 (sm_a1 (sm_a1 (sm_a2 (sm_a2 (sm_a1 (sm_a1 (sm_a2 h)))))))
theorem nw_241 {args : Array Value} {s : State} (h : narrow_1.before args s = true) : ((Jvm.Cond.not (Jvm.Cond.eq (Jvm.Term.string "QueryTables$Tokens" (85 : Nat)) (Jvm.Term.string "QueryTables$Tokens" (91 : Nat))))).before args s = true := sm_a2 (sm_a1 (sm_a1 (sm_a2 (sm_a1 (sm_a2 (sm_a1 (sm_a2 h)))))))
theorem nw_242 {args : Array Value} {s : State} (h : narrow_1.before args s = true) : ((Jvm.Cond.not (Jvm.Cond.eq (Jvm.Term.string "QueryTables$Tokens" (85 : Nat)) (Jvm.Term.string "QueryTables$Tokens" (93 : Nat))))).before args s = true := sm_a2 (sm_a1 (sm_a1 (sm_a2 (sm_a2 (sm_a2 (sm_a1 (sm_a2 h)))))))
theorem nw_243 {args : Array Value} {s : State} (h : narrow_1.before args s = true) : ((Jvm.Cond.not (Jvm.Cond.eq (Jvm.Term.string "QueryTables$Tokens" (85 : Nat)) (Jvm.Term.string "QueryTables$Tokens" (95 : Nat))))).before args s = true := sm_a2 (sm_a2 (sm_a1 (sm_a2 (sm_a1 (sm_a1 (sm_a2 (sm_a2 h)))))))
theorem nw_244 {args : Array Value} {s : State} (h : narrow_1.before args s = true) : ((Jvm.Cond.not (Jvm.Cond.eq (Jvm.Term.string "QueryTables$Tokens" (85 : Nat)) (Jvm.Term.string "QueryTables$Tokens" (97 : Nat))))).before args s = true := sm_a1 (sm_a2 (sm_a2 (sm_a2 (sm_a2 (sm_a1 (sm_a2 (sm_a2 h)))))))
theorem nw_245 {args : Array Value} {s : State} (h : narrow_1.before args s = true) : ((Jvm.Cond.not (Jvm.Cond.eq (Jvm.Term.string "QueryTables$Tokens" (85 : Nat)) (Jvm.Term.string "QueryTables$Tokens" (50 : Nat))))).before args s = true := sm_a1 (sm_a2 (sm_a1 (sm_a2 (sm_a2 (sm_a2 (sm_a2 (sm_a2 h)))))))
theorem nw_246 {args : Array Value} {s : State} (h : narrow_1.before args s = true) : ((Jvm.Cond.not (Jvm.Cond.eq (Jvm.Term.string "QueryTables$Tokens" (87 : Nat)) (Jvm.Term.string "QueryTables$Tokens" (89 : Nat))))).before args s = true := sm_a2 (sm_a1 (sm_a1 (sm_a2 (sm_a2 (sm_a1 (sm_a1 (sm_a2 h)))))))
theorem nw_247 {args : Array Value} {s : State} (h : narrow_1.before args s = true) : ((Jvm.Cond.not (Jvm.Cond.eq (Jvm.Term.string "QueryTables$Tokens" (87 : Nat)) (Jvm.Term.string "QueryTables$Tokens" (91 : Nat))))).before args s = true := sm_a1 (sm_a2 (sm_a1 (sm_a2 (sm_a1 (sm_a2 (sm_a1 (sm_a2 h)))))))
theorem nw_248 {args : Array Value} {s : State} (h : narrow_1.before args s = true) : ((Jvm.Cond.not (Jvm.Cond.eq (Jvm.Term.string "QueryTables$Tokens" (87 : Nat)) (Jvm.Term.string "QueryTables$Tokens" (93 : Nat))))).before args s = true := sm_a1 (sm_a2 (sm_a1 (sm_a2 (sm_a2 (sm_a2 (sm_a1 (sm_a2 h)))))))
theorem nw_249 {args : Array Value} {s : State} (h : narrow_1.before args s = true) : ((Jvm.Cond.not (Jvm.Cond.eq (Jvm.Term.string "QueryTables$Tokens" (87 : Nat)) (Jvm.Term.string "QueryTables$Tokens" (95 : Nat))))).before args s = true := sm_a1 (sm_a1 (sm_a2 (sm_a2 (sm_a1 (sm_a1 (sm_a2 (sm_a2 h)))))))
theorem nw_250 {args : Array Value} {s : State} (h : narrow_1.before args s = true) : ((Jvm.Cond.not (Jvm.Cond.eq (Jvm.Term.string "QueryTables$Tokens" (87 : Nat)) (Jvm.Term.string "QueryTables$Tokens" (97 : Nat))))).before args s = true := sm_a1 (sm_a2 (sm_a2 (sm_a2 (sm_a2 (sm_a2 (sm_a1 (sm_a2 (sm_a2 h))))))))
theorem nw_251 {args : Array Value} {s : State} (h : narrow_1.before args s = true) : ((Jvm.Cond.not (Jvm.Cond.eq (Jvm.Term.string "QueryTables$Tokens" (87 : Nat)) (Jvm.Term.string "QueryTables$Tokens" (50 : Nat))))).before args s = true := sm_a2 (sm_a2 (sm_a1 (sm_a2 (sm_a2 (sm_a2 (sm_a2 (sm_a2 h)))))))
theorem nw_252 {args : Array Value} {s : State} (h : narrow_1.before args s = true) : ((Jvm.Cond.not (Jvm.Cond.eq (Jvm.Term.string "QueryTables$Tokens" (89 : Nat)) (Jvm.Term.string "QueryTables$Tokens" (91 : Nat))))).before args s = true := sm_a2 (sm_a2 (sm_a1 (sm_a2 (sm_a1 (sm_a2 (sm_a1 (sm_a2 h)))))))
theorem nw_253 {args : Array Value} {s : State} (h : narrow_1.before args s = true) : ((Jvm.Cond.not (Jvm.Cond.eq (Jvm.Term.string "QueryTables$Tokens" (89 : Nat)) (Jvm.Term.string "QueryTables$Tokens" (93 : Nat))))).before args s = true := sm_a2 (sm_a2 (sm_a1 (sm_a2 (sm_a2 (sm_a2 (sm_a1 (sm_a2 h)))))))
theorem nw_254 {args : Array Value} {s : State} (h : narrow_1.before args s = true) : ((Jvm.Cond.not (Jvm.Cond.eq (Jvm.Term.string "QueryTables$Tokens" (89 : Nat)) (Jvm.Term.string "QueryTables$Tokens" (95 : Nat))))).before args s = true := sm_a2 (sm_a1 (sm_a2 (sm_a2 (sm_a1 (sm_a1 (sm_a2 (sm_a2 h)))))))
theorem nw_255 {args : Array Value} {s : State} (h : narrow_1.before args s = true) : ((Jvm.Cond.not (Jvm.Cond.eq (Jvm.Term.string "QueryTables$Tokens" (89 : Nat)) (Jvm.Term.string "QueryTables$Tokens" (97 : Nat))))).before args s = true := sm_a2 (sm_a2 (sm_a2 (sm_a2 (sm_a2 (sm_a2 (sm_a1 (sm_a2 (sm_a2 h))))))))
theorem nw_256 {args : Array Value} {s : State} (h : narrow_1.before args s = true) : ((Jvm.Cond.not (Jvm.Cond.eq (Jvm.Term.string "QueryTables$Tokens" (89 : Nat)) (Jvm.Term.string "QueryTables$Tokens" (50 : Nat))))).before args s = true := sm_a1 (sm_a1 (sm_a2 (sm_a2 (sm_a2 (sm_a2 (sm_a2 (sm_a2 h)))))))
theorem nw_257 {args : Array Value} {s : State} (h : narrow_1.before args s = true) : ((Jvm.Cond.not (Jvm.Cond.eq (Jvm.Term.string "QueryTables$Tokens" (91 : Nat)) (Jvm.Term.string "QueryTables$Tokens" (93 : Nat))))).before args s = true := sm_a1 (sm_a1 (sm_a2 (sm_a2 (sm_a2 (sm_a2 (sm_a1 (sm_a2 h)))))))
theorem nw_258 {args : Array Value} {s : State} (h : narrow_1.before args s = true) : ((Jvm.Cond.not (Jvm.Cond.eq (Jvm.Term.string "QueryTables$Tokens" (91 : Nat)) (Jvm.Term.string "QueryTables$Tokens" (95 : Nat))))).before args s = true := sm_a1 (sm_a2 (sm_a2 (sm_a2 (sm_a1 (sm_a1 (sm_a2 (sm_a2 h)))))))
theorem nw_259 {args : Array Value} {s : State} (h : narrow_1.before args s = true) : ((Jvm.Cond.not (Jvm.Cond.eq (Jvm.Term.string "QueryTables$Tokens" (91 : Nat)) (Jvm.Term.string "QueryTables$Tokens" (97 : Nat))))).before args s = true := sm_a1 (sm_a1 (sm_a1 (sm_a1 (sm_a1 (sm_a2 (sm_a2 (sm_a2 h)))))))
theorem nw_260 {args : Array Value} {s : State} (h : narrow_1.before args s = true) : ((Jvm.Cond.not (Jvm.Cond.eq (Jvm.Term.string "QueryTables$Tokens" (91 : Nat)) (Jvm.Term.string "QueryTables$Tokens" (50 : Nat))))).before args s = true := sm_a2 (sm_a1 (sm_a2 (sm_a2 (sm_a2 (sm_a2 (sm_a2 (sm_a2 h)))))))
theorem nw_261 {args : Array Value} {s : State} (h : narrow_1.before args s = true) : ((Jvm.Cond.not (Jvm.Cond.eq (Jvm.Term.string "QueryTables$Tokens" (93 : Nat)) (Jvm.Term.string "QueryTables$Tokens" (95 : Nat))))).before args s = true := sm_a1 (sm_a2 (sm_a2 (sm_a2 (sm_a2 (sm_a1 (sm_a1 (sm_a2 (sm_a2 h))))))))
theorem nw_262 {args : Array Value} {s : State} (h : narrow_1.before args s = true) : ((Jvm.Cond.not (Jvm.Cond.eq (Jvm.Term.string "QueryTables$Tokens" (93 : Nat)) (Jvm.Term.string "QueryTables$Tokens" (97 : Nat))))).before args s = true := sm_a2 (sm_a1 (sm_a1 (sm_a1 (sm_a1 (sm_a2 (sm_a2 (sm_a2 h)))))))
theorem nw_263 {args : Array Value} {s : State} (h : narrow_1.before args s = true) : ((Jvm.Cond.not (Jvm.Cond.eq (Jvm.Term.string "QueryTables$Tokens" (93 : Nat)) (Jvm.Term.string "QueryTables$Tokens" (50 : Nat))))).before args s = true := sm_a1 (sm_a2 (sm_a2 (sm_a2 (sm_a2 (sm_a2 (sm_a2 (sm_a2 h)))))))
theorem nw_264 {args : Array Value} {s : State} (h : narrow_1.before args s = true) : ((Jvm.Cond.not (Jvm.Cond.eq (Jvm.Term.string "QueryTables$Tokens" (95 : Nat)) (Jvm.Term.string "QueryTables$Tokens" (97 : Nat))))).before args s = true := sm_a1 (sm_a2 (sm_a1 (sm_a1 (sm_a1 (sm_a2 (sm_a2 (sm_a2 h)))))))
theorem nw_265 {args : Array Value} {s : State} (h : narrow_1.before args s = true) : ((Jvm.Cond.not (Jvm.Cond.eq (Jvm.Term.string "QueryTables$Tokens" (95 : Nat)) (Jvm.Term.string "QueryTables$Tokens" (50 : Nat))))).before args s = true := sm_a1 (sm_a2 (sm_a2 (sm_a2 (sm_a2 (sm_a2 (sm_a2 (sm_a2 (sm_a2 h))))))))
theorem nw_266 {args : Array Value} {s : State} (h : narrow_1.before args s = true) : ((Jvm.Cond.not (Jvm.Cond.eq (Jvm.Term.string "QueryTables$Tokens" (97 : Nat)) (Jvm.Term.string "QueryTables$Tokens" (50 : Nat))))).before args s = true := sm_a2 (sm_a2 (sm_a2 (sm_a2 (sm_a2 (sm_a2 (sm_a2 (sm_a2 (sm_a2 h))))))))
theorem nw_267 {args : Array Value} {s : State} (h : narrow_1.before args s = true) : ((Jvm.Cond.eq (Jvm.Term.static "java/lang/String" "COMPACT_STRINGS" "Z") (Jvm.Term.int (1 : Int32)))).before args s = true := sm_a1 (sm_a2 (sm_a1 (sm_a1 (sm_a1 (sm_a1 (sm_a1 (sm_a1 h)))))))
theorem nw_268 {args : Array Value} {s : State} (h : narrow_1.before args s = true) : ((Jvm.Cond.isRef (Jvm.Term.static "jdk/internal/util/Preconditions" "SIOOBE_FORMATTER" "Ljava/util/function/BiFunction;"))).before args s = true := sm_a2 (sm_a2 (sm_a1 (sm_a1 (sm_a1 (sm_a1 (sm_a1 (sm_a1 h)))))))
def sm_tm (i : Nat) : Term := match sm_lits[i]? with
  | some x => .string x.2.1 x.2.2.1
  | none => .int 0
theorem tx_ex {args : Array Value} {s : State} (h : narrow_1.before args s = true) : ∀ i, i < sm_nS → (Cond.exactly (sm_tm i) "java/lang/String").before args s = true
  | 0, _ => nw_0 h
  | 1, _ => nw_1 h
  | 2, _ => nw_2 h
  | 3, _ => nw_3 h
  | 4, _ => nw_4 h
  | 5, _ => nw_5 h
  | 6, _ => nw_6 h
  | 7, _ => nw_7 h
  | 8, _ => nw_8 h
  | 9, _ => nw_9 h
  | 10, _ => nw_10 h
  | 11, _ => nw_11 h
  | 12, _ => nw_12 h
  | 13, _ => nw_13 h
  | 14, _ => nw_14 h
  | 15, _ => nw_15 h
  | i + 16, q => absurd q (by show ¬ i + 16 < 16; omega)
theorem tx_co {args : Array Value} {s : State} (h : narrow_1.before args s = true) : ∀ i, i < sm_nS → (Cond.eq (.field (sm_tm i) "java/lang/String" "coder" "B") (.int 0)).before args s = true
  | 0, _ => nw_16 h
  | 1, _ => nw_17 h
  | 2, _ => nw_18 h
  | 3, _ => nw_19 h
  | 4, _ => nw_20 h
  | 5, _ => nw_21 h
  | 6, _ => nw_22 h
  | 7, _ => nw_23 h
  | 8, _ => nw_24 h
  | 9, _ => nw_25 h
  | 10, _ => nw_26 h
  | 11, _ => nw_27 h
  | 12, _ => nw_28 h
  | 13, _ => nw_29 h
  | 14, _ => nw_30 h
  | 15, _ => nw_31 h
  | i + 16, q => absurd q (by show ¬ i + 16 < 16; omega)
theorem tx_ar {args : Array Value} {s : State} (h : narrow_1.before args s = true) : ∀ i, i < sm_nS → (Cond.arrayOf (.field (sm_tm i) "java/lang/String" "value" "[B") .byte).before args s = true
  | 0, _ => nw_32 h
  | 1, _ => nw_33 h
  | 2, _ => nw_34 h
  | 3, _ => nw_35 h
  | 4, _ => nw_36 h
  | 5, _ => nw_37 h
  | 6, _ => nw_38 h
  | 7, _ => nw_39 h
  | 8, _ => nw_40 h
  | 9, _ => nw_41 h
  | 10, _ => nw_42 h
  | 11, _ => nw_43 h
  | 12, _ => nw_44 h
  | 13, _ => nw_45 h
  | 14, _ => nw_46 h
  | 15, _ => nw_47 h
  | i + 16, q => absurd q (by show ¬ i + 16 < 16; omega)
theorem tx_le {args : Array Value} {s : State} (h : narrow_1.before args s = true) : ∀ i, i < sm_nS → (Cond.eq (.length (.field (sm_tm i) "java/lang/String" "value" "[B")) (.int (Int32.ofNat (sm_len.getD i 0)))).before args s = true
  | 0, _ => nw_48 h
  | 1, _ => nw_49 h
  | 2, _ => nw_50 h
  | 3, _ => nw_51 h
  | 4, _ => nw_52 h
  | 5, _ => nw_53 h
  | 6, _ => nw_54 h
  | 7, _ => nw_55 h
  | 8, _ => nw_56 h
  | 9, _ => nw_57 h
  | 10, _ => nw_58 h
  | 11, _ => nw_59 h
  | 12, _ => nw_60 h
  | 13, _ => nw_61 h
  | 14, _ => nw_62 h
  | 15, _ => nw_63 h
  | i + 16, q => absurd q (by show ¬ i + 16 < 16; omega)
theorem tx_el0 {args : Array Value} {s : State} (h : narrow_1.before args s = true) : ∀ j, j < 6 → (Cond.eq (.elem (.field (sm_tm 0) "java/lang/String" "value" "[B") (.int (Int32.ofNat j))) (.int ((sm_byt.getD 0 []).getD j 0))).before args s = true
  | 0, _ => nw_64 h
  | 1, _ => nw_65 h
  | 2, _ => nw_66 h
  | 3, _ => nw_67 h
  | 4, _ => nw_68 h
  | 5, _ => nw_69 h
  | j + 6, q => absurd q (by omega)
theorem tx_ne0 {args : Array Value} {s : State} (h : narrow_1.before args s = true) : ∀ j, j < 16 → 0 ≠ j → (Cond.not (Cond.eq (sm_tm 0) (sm_tm j))).before args s = true ∨ (Cond.not (Cond.eq (sm_tm j) (sm_tm 0))).before args s = true
  | 0, _, q => absurd rfl q
  | 1, _, _ => Or.inl (nw_147 h)
  | 2, _, _ => Or.inl (nw_148 h)
  | 3, _, _ => Or.inl (nw_149 h)
  | 4, _, _ => Or.inl (nw_150 h)
  | 5, _, _ => Or.inl (nw_151 h)
  | 6, _, _ => Or.inl (nw_152 h)
  | 7, _, _ => Or.inl (nw_153 h)
  | 8, _, _ => Or.inl (nw_154 h)
  | 9, _, _ => Or.inl (nw_155 h)
  | 10, _, _ => Or.inl (nw_156 h)
  | 11, _, _ => Or.inl (nw_157 h)
  | 12, _, _ => Or.inl (nw_158 h)
  | 13, _, _ => Or.inl (nw_159 h)
  | 14, _, _ => Or.inl (nw_160 h)
  | 15, _, _ => Or.inl (nw_161 h)
  | j + 16, q, _ => absurd q (by omega)
theorem tx_el1 {args : Array Value} {s : State} (h : narrow_1.before args s = true) : ∀ j, j < 5 → (Cond.eq (.elem (.field (sm_tm 1) "java/lang/String" "value" "[B") (.int (Int32.ofNat j))) (.int ((sm_byt.getD 1 []).getD j 0))).before args s = true
  | 0, _ => nw_70 h
  | 1, _ => nw_71 h
  | 2, _ => nw_72 h
  | 3, _ => nw_73 h
  | 4, _ => nw_74 h
  | j + 5, q => absurd q (by omega)
theorem tx_ne1 {args : Array Value} {s : State} (h : narrow_1.before args s = true) : ∀ j, j < 16 → 1 ≠ j → (Cond.not (Cond.eq (sm_tm 1) (sm_tm j))).before args s = true ∨ (Cond.not (Cond.eq (sm_tm j) (sm_tm 1))).before args s = true
  | 0, _, _ => Or.inr (nw_147 h)
  | 1, _, q => absurd rfl q
  | 2, _, _ => Or.inl (nw_162 h)
  | 3, _, _ => Or.inl (nw_163 h)
  | 4, _, _ => Or.inl (nw_164 h)
  | 5, _, _ => Or.inl (nw_165 h)
  | 6, _, _ => Or.inl (nw_166 h)
  | 7, _, _ => Or.inl (nw_167 h)
  | 8, _, _ => Or.inl (nw_168 h)
  | 9, _, _ => Or.inl (nw_169 h)
  | 10, _, _ => Or.inl (nw_170 h)
  | 11, _, _ => Or.inl (nw_171 h)
  | 12, _, _ => Or.inl (nw_172 h)
  | 13, _, _ => Or.inl (nw_173 h)
  | 14, _, _ => Or.inl (nw_174 h)
  | 15, _, _ => Or.inl (nw_175 h)
  | j + 16, q, _ => absurd q (by omega)
theorem tx_el2 {args : Array Value} {s : State} (h : narrow_1.before args s = true) : ∀ j, j < 6 → (Cond.eq (.elem (.field (sm_tm 2) "java/lang/String" "value" "[B") (.int (Int32.ofNat j))) (.int ((sm_byt.getD 2 []).getD j 0))).before args s = true
  | 0, _ => nw_75 h
  | 1, _ => nw_76 h
  | 2, _ => nw_77 h
  | 3, _ => nw_78 h
  | 4, _ => nw_79 h
  | 5, _ => nw_80 h
  | j + 6, q => absurd q (by omega)
theorem tx_ne2 {args : Array Value} {s : State} (h : narrow_1.before args s = true) : ∀ j, j < 16 → 2 ≠ j → (Cond.not (Cond.eq (sm_tm 2) (sm_tm j))).before args s = true ∨ (Cond.not (Cond.eq (sm_tm j) (sm_tm 2))).before args s = true
  | 0, _, _ => Or.inr (nw_148 h)
  | 1, _, _ => Or.inr (nw_162 h)
  | 2, _, q => absurd rfl q
  | 3, _, _ => Or.inl (nw_176 h)
  | 4, _, _ => Or.inl (nw_177 h)
  | 5, _, _ => Or.inl (nw_178 h)
  | 6, _, _ => Or.inl (nw_179 h)
  | 7, _, _ => Or.inl (nw_180 h)
  | 8, _, _ => Or.inl (nw_181 h)
  | 9, _, _ => Or.inl (nw_182 h)
  | 10, _, _ => Or.inl (nw_183 h)
  | 11, _, _ => Or.inl (nw_184 h)
  | 12, _, _ => Or.inl (nw_185 h)
  | 13, _, _ => Or.inl (nw_186 h)
  | 14, _, _ => Or.inl (nw_187 h)
  | 15, _, _ => Or.inl (nw_188 h)
  | j + 16, q, _ => absurd q (by omega)
theorem tx_el3 {args : Array Value} {s : State} (h : narrow_1.before args s = true) : ∀ j, j < 6 → (Cond.eq (.elem (.field (sm_tm 3) "java/lang/String" "value" "[B") (.int (Int32.ofNat j))) (.int ((sm_byt.getD 3 []).getD j 0))).before args s = true
  | 0, _ => nw_81 h
  | 1, _ => nw_82 h
  | 2, _ => nw_83 h
  | 3, _ => nw_84 h
  | 4, _ => nw_85 h
  | 5, _ => nw_86 h
  | j + 6, q => absurd q (by omega)
theorem tx_ne3 {args : Array Value} {s : State} (h : narrow_1.before args s = true) : ∀ j, j < 16 → 3 ≠ j → (Cond.not (Cond.eq (sm_tm 3) (sm_tm j))).before args s = true ∨ (Cond.not (Cond.eq (sm_tm j) (sm_tm 3))).before args s = true
  | 0, _, _ => Or.inr (nw_149 h)
  | 1, _, _ => Or.inr (nw_163 h)
  | 2, _, _ => Or.inr (nw_176 h)
  | 3, _, q => absurd rfl q
  | 4, _, _ => Or.inl (nw_189 h)
  | 5, _, _ => Or.inl (nw_190 h)
  | 6, _, _ => Or.inl (nw_191 h)
  | 7, _, _ => Or.inl (nw_192 h)
  | 8, _, _ => Or.inl (nw_193 h)
  | 9, _, _ => Or.inl (nw_194 h)
  | 10, _, _ => Or.inl (nw_195 h)
  | 11, _, _ => Or.inl (nw_196 h)
  | 12, _, _ => Or.inl (nw_197 h)
  | 13, _, _ => Or.inl (nw_198 h)
  | 14, _, _ => Or.inl (nw_199 h)
  | 15, _, _ => Or.inl (nw_200 h)
  | j + 16, q, _ => absurd q (by omega)
theorem tx_el4 {args : Array Value} {s : State} (h : narrow_1.before args s = true) : ∀ j, j < 6 → (Cond.eq (.elem (.field (sm_tm 4) "java/lang/String" "value" "[B") (.int (Int32.ofNat j))) (.int ((sm_byt.getD 4 []).getD j 0))).before args s = true
  | 0, _ => nw_87 h
  | 1, _ => nw_88 h
  | 2, _ => nw_89 h
  | 3, _ => nw_90 h
  | 4, _ => nw_91 h
  | 5, _ => nw_92 h
  | j + 6, q => absurd q (by omega)
theorem tx_ne4 {args : Array Value} {s : State} (h : narrow_1.before args s = true) : ∀ j, j < 16 → 4 ≠ j → (Cond.not (Cond.eq (sm_tm 4) (sm_tm j))).before args s = true ∨ (Cond.not (Cond.eq (sm_tm j) (sm_tm 4))).before args s = true
  | 0, _, _ => Or.inr (nw_150 h)
  | 1, _, _ => Or.inr (nw_164 h)
  | 2, _, _ => Or.inr (nw_177 h)
  | 3, _, _ => Or.inr (nw_189 h)
  | 4, _, q => absurd rfl q
  | 5, _, _ => Or.inl (nw_201 h)
  | 6, _, _ => Or.inl (nw_202 h)
  | 7, _, _ => Or.inl (nw_203 h)
  | 8, _, _ => Or.inl (nw_204 h)
  | 9, _, _ => Or.inl (nw_205 h)
  | 10, _, _ => Or.inl (nw_206 h)
  | 11, _, _ => Or.inl (nw_207 h)
  | 12, _, _ => Or.inl (nw_208 h)
  | 13, _, _ => Or.inl (nw_209 h)
  | 14, _, _ => Or.inl (nw_210 h)
  | 15, _, _ => Or.inl (nw_211 h)
  | j + 16, q, _ => absurd q (by omega)
theorem tx_el5 {args : Array Value} {s : State} (h : narrow_1.before args s = true) : ∀ j, j < 6 → (Cond.eq (.elem (.field (sm_tm 5) "java/lang/String" "value" "[B") (.int (Int32.ofNat j))) (.int ((sm_byt.getD 5 []).getD j 0))).before args s = true
  | 0, _ => nw_93 h
  | 1, _ => nw_94 h
  | 2, _ => nw_95 h
  | 3, _ => nw_96 h
  | 4, _ => nw_97 h
  | 5, _ => nw_98 h
  | j + 6, q => absurd q (by omega)
theorem tx_ne5 {args : Array Value} {s : State} (h : narrow_1.before args s = true) : ∀ j, j < 16 → 5 ≠ j → (Cond.not (Cond.eq (sm_tm 5) (sm_tm j))).before args s = true ∨ (Cond.not (Cond.eq (sm_tm j) (sm_tm 5))).before args s = true
  | 0, _, _ => Or.inr (nw_151 h)
  | 1, _, _ => Or.inr (nw_165 h)
  | 2, _, _ => Or.inr (nw_178 h)
  | 3, _, _ => Or.inr (nw_190 h)
  | 4, _, _ => Or.inr (nw_201 h)
  | 5, _, q => absurd rfl q
  | 6, _, _ => Or.inl (nw_212 h)
  | 7, _, _ => Or.inl (nw_213 h)
  | 8, _, _ => Or.inl (nw_214 h)
  | 9, _, _ => Or.inl (nw_215 h)
  | 10, _, _ => Or.inl (nw_216 h)
  | 11, _, _ => Or.inl (nw_217 h)
  | 12, _, _ => Or.inl (nw_218 h)
  | 13, _, _ => Or.inl (nw_219 h)
  | 14, _, _ => Or.inl (nw_220 h)
  | 15, _, _ => Or.inl (nw_221 h)
  | j + 16, q, _ => absurd q (by omega)
theorem tx_el6 {args : Array Value} {s : State} (h : narrow_1.before args s = true) : ∀ j, j < 4 → (Cond.eq (.elem (.field (sm_tm 6) "java/lang/String" "value" "[B") (.int (Int32.ofNat j))) (.int ((sm_byt.getD 6 []).getD j 0))).before args s = true
  | 0, _ => nw_99 h
  | 1, _ => nw_100 h
  | 2, _ => nw_101 h
  | 3, _ => nw_102 h
  | j + 4, q => absurd q (by omega)
theorem tx_ne6 {args : Array Value} {s : State} (h : narrow_1.before args s = true) : ∀ j, j < 16 → 6 ≠ j → (Cond.not (Cond.eq (sm_tm 6) (sm_tm j))).before args s = true ∨ (Cond.not (Cond.eq (sm_tm j) (sm_tm 6))).before args s = true
  | 0, _, _ => Or.inr (nw_152 h)
  | 1, _, _ => Or.inr (nw_166 h)
  | 2, _, _ => Or.inr (nw_179 h)
  | 3, _, _ => Or.inr (nw_191 h)
  | 4, _, _ => Or.inr (nw_202 h)
  | 5, _, _ => Or.inr (nw_212 h)
  | 6, _, q => absurd rfl q
  | 7, _, _ => Or.inl (nw_222 h)
  | 8, _, _ => Or.inl (nw_223 h)
  | 9, _, _ => Or.inl (nw_224 h)
  | 10, _, _ => Or.inl (nw_225 h)
  | 11, _, _ => Or.inl (nw_226 h)
  | 12, _, _ => Or.inl (nw_227 h)
  | 13, _, _ => Or.inl (nw_228 h)
  | 14, _, _ => Or.inl (nw_229 h)
  | 15, _, _ => Or.inl (nw_230 h)
  | j + 16, q, _ => absurd q (by omega)
theorem tx_el7 {args : Array Value} {s : State} (h : narrow_1.before args s = true) : ∀ j, j < 5 → (Cond.eq (.elem (.field (sm_tm 7) "java/lang/String" "value" "[B") (.int (Int32.ofNat j))) (.int ((sm_byt.getD 7 []).getD j 0))).before args s = true
  | 0, _ => nw_103 h
  | 1, _ => nw_104 h
  | 2, _ => nw_105 h
  | 3, _ => nw_106 h
  | 4, _ => nw_107 h
  | j + 5, q => absurd q (by omega)
theorem tx_ne7 {args : Array Value} {s : State} (h : narrow_1.before args s = true) : ∀ j, j < 16 → 7 ≠ j → (Cond.not (Cond.eq (sm_tm 7) (sm_tm j))).before args s = true ∨ (Cond.not (Cond.eq (sm_tm j) (sm_tm 7))).before args s = true
  | 0, _, _ => Or.inr (nw_153 h)
  | 1, _, _ => Or.inr (nw_167 h)
  | 2, _, _ => Or.inr (nw_180 h)
  | 3, _, _ => Or.inr (nw_192 h)
  | 4, _, _ => Or.inr (nw_203 h)
  | 5, _, _ => Or.inr (nw_213 h)
  | 6, _, _ => Or.inr (nw_222 h)
  | 7, _, q => absurd rfl q
  | 8, _, _ => Or.inl (nw_231 h)
  | 9, _, _ => Or.inl (nw_232 h)
  | 10, _, _ => Or.inl (nw_233 h)
  | 11, _, _ => Or.inl (nw_234 h)
  | 12, _, _ => Or.inl (nw_235 h)
  | 13, _, _ => Or.inl (nw_236 h)
  | 14, _, _ => Or.inl (nw_237 h)
  | 15, _, _ => Or.inl (nw_238 h)
  | j + 16, q, _ => absurd q (by omega)
theorem tx_el8 {args : Array Value} {s : State} (h : narrow_1.before args s = true) : ∀ j, j < 5 → (Cond.eq (.elem (.field (sm_tm 8) "java/lang/String" "value" "[B") (.int (Int32.ofNat j))) (.int ((sm_byt.getD 8 []).getD j 0))).before args s = true
  | 0, _ => nw_108 h
  | 1, _ => nw_109 h
  | 2, _ => nw_110 h
  | 3, _ => nw_111 h
  | 4, _ => nw_112 h
  | j + 5, q => absurd q (by omega)
theorem tx_ne8 {args : Array Value} {s : State} (h : narrow_1.before args s = true) : ∀ j, j < 16 → 8 ≠ j → (Cond.not (Cond.eq (sm_tm 8) (sm_tm j))).before args s = true ∨ (Cond.not (Cond.eq (sm_tm j) (sm_tm 8))).before args s = true
  | 0, _, _ => Or.inr (nw_154 h)
  | 1, _, _ => Or.inr (nw_168 h)
  | 2, _, _ => Or.inr (nw_181 h)
  | 3, _, _ => Or.inr (nw_193 h)
  | 4, _, _ => Or.inr (nw_204 h)
  | 5, _, _ => Or.inr (nw_214 h)
  | 6, _, _ => Or.inr (nw_223 h)
  | 7, _, _ => Or.inr (nw_231 h)
  | 8, _, q => absurd rfl q
  | 9, _, _ => Or.inl (nw_239 h)
  | 10, _, _ => Or.inl (nw_240 h)
  | 11, _, _ => Or.inl (nw_241 h)
  | 12, _, _ => Or.inl (nw_242 h)
  | 13, _, _ => Or.inl (nw_243 h)
  | 14, _, _ => Or.inl (nw_244 h)
  | 15, _, _ => Or.inl (nw_245 h)
  | j + 16, q, _ => absurd q (by omega)
theorem tx_el9 {args : Array Value} {s : State} (h : narrow_1.before args s = true) : ∀ j, j < 4 → (Cond.eq (.elem (.field (sm_tm 9) "java/lang/String" "value" "[B") (.int (Int32.ofNat j))) (.int ((sm_byt.getD 9 []).getD j 0))).before args s = true
  | 0, _ => nw_113 h
  | 1, _ => nw_114 h
  | 2, _ => nw_115 h
  | 3, _ => nw_116 h
  | j + 4, q => absurd q (by omega)
theorem tx_ne9 {args : Array Value} {s : State} (h : narrow_1.before args s = true) : ∀ j, j < 16 → 9 ≠ j → (Cond.not (Cond.eq (sm_tm 9) (sm_tm j))).before args s = true ∨ (Cond.not (Cond.eq (sm_tm j) (sm_tm 9))).before args s = true
  | 0, _, _ => Or.inr (nw_155 h)
  | 1, _, _ => Or.inr (nw_169 h)
  | 2, _, _ => Or.inr (nw_182 h)
  | 3, _, _ => Or.inr (nw_194 h)
  | 4, _, _ => Or.inr (nw_205 h)
  | 5, _, _ => Or.inr (nw_215 h)
  | 6, _, _ => Or.inr (nw_224 h)
  | 7, _, _ => Or.inr (nw_232 h)
  | 8, _, _ => Or.inr (nw_239 h)
  | 9, _, q => absurd rfl q
  | 10, _, _ => Or.inl (nw_246 h)
  | 11, _, _ => Or.inl (nw_247 h)
  | 12, _, _ => Or.inl (nw_248 h)
  | 13, _, _ => Or.inl (nw_249 h)
  | 14, _, _ => Or.inl (nw_250 h)
  | 15, _, _ => Or.inl (nw_251 h)
  | j + 16, q, _ => absurd q (by omega)
theorem tx_el10 {args : Array Value} {s : State} (h : narrow_1.before args s = true) : ∀ j, j < 5 → (Cond.eq (.elem (.field (sm_tm 10) "java/lang/String" "value" "[B") (.int (Int32.ofNat j))) (.int ((sm_byt.getD 10 []).getD j 0))).before args s = true
  | 0, _ => nw_117 h
  | 1, _ => nw_118 h
  | 2, _ => nw_119 h
  | 3, _ => nw_120 h
  | 4, _ => nw_121 h
  | j + 5, q => absurd q (by omega)
theorem tx_ne10 {args : Array Value} {s : State} (h : narrow_1.before args s = true) : ∀ j, j < 16 → 10 ≠ j → (Cond.not (Cond.eq (sm_tm 10) (sm_tm j))).before args s = true ∨ (Cond.not (Cond.eq (sm_tm j) (sm_tm 10))).before args s = true
  | 0, _, _ => Or.inr (nw_156 h)
  | 1, _, _ => Or.inr (nw_170 h)
  | 2, _, _ => Or.inr (nw_183 h)
  | 3, _, _ => Or.inr (nw_195 h)
  | 4, _, _ => Or.inr (nw_206 h)
  | 5, _, _ => Or.inr (nw_216 h)
  | 6, _, _ => Or.inr (nw_225 h)
  | 7, _, _ => Or.inr (nw_233 h)
  | 8, _, _ => Or.inr (nw_240 h)
  | 9, _, _ => Or.inr (nw_246 h)
  | 10, _, q => absurd rfl q
  | 11, _, _ => Or.inl (nw_252 h)
  | 12, _, _ => Or.inl (nw_253 h)
  | 13, _, _ => Or.inl (nw_254 h)
  | 14, _, _ => Or.inl (nw_255 h)
  | 15, _, _ => Or.inl (nw_256 h)
  | j + 16, q, _ => absurd q (by omega)
theorem tx_el11 {args : Array Value} {s : State} (h : narrow_1.before args s = true) : ∀ j, j < 4 → (Cond.eq (.elem (.field (sm_tm 11) "java/lang/String" "value" "[B") (.int (Int32.ofNat j))) (.int ((sm_byt.getD 11 []).getD j 0))).before args s = true
  | 0, _ => nw_122 h
  | 1, _ => nw_123 h
  | 2, _ => nw_124 h
  | 3, _ => nw_125 h
  | j + 4, q => absurd q (by omega)
theorem tx_ne11 {args : Array Value} {s : State} (h : narrow_1.before args s = true) : ∀ j, j < 16 → 11 ≠ j → (Cond.not (Cond.eq (sm_tm 11) (sm_tm j))).before args s = true ∨ (Cond.not (Cond.eq (sm_tm j) (sm_tm 11))).before args s = true
  | 0, _, _ => Or.inr (nw_157 h)
  | 1, _, _ => Or.inr (nw_171 h)
  | 2, _, _ => Or.inr (nw_184 h)
  | 3, _, _ => Or.inr (nw_196 h)
  | 4, _, _ => Or.inr (nw_207 h)
  | 5, _, _ => Or.inr (nw_217 h)
  | 6, _, _ => Or.inr (nw_226 h)
  | 7, _, _ => Or.inr (nw_234 h)
  | 8, _, _ => Or.inr (nw_241 h)
  | 9, _, _ => Or.inr (nw_247 h)
  | 10, _, _ => Or.inr (nw_252 h)
  | 11, _, q => absurd rfl q
  | 12, _, _ => Or.inl (nw_257 h)
  | 13, _, _ => Or.inl (nw_258 h)
  | 14, _, _ => Or.inl (nw_259 h)
  | 15, _, _ => Or.inl (nw_260 h)
  | j + 16, q, _ => absurd q (by omega)
theorem tx_el12 {args : Array Value} {s : State} (h : narrow_1.before args s = true) : ∀ j, j < 2 → (Cond.eq (.elem (.field (sm_tm 12) "java/lang/String" "value" "[B") (.int (Int32.ofNat j))) (.int ((sm_byt.getD 12 []).getD j 0))).before args s = true
  | 0, _ => nw_126 h
  | 1, _ => nw_127 h
  | j + 2, q => absurd q (by omega)
theorem tx_ne12 {args : Array Value} {s : State} (h : narrow_1.before args s = true) : ∀ j, j < 16 → 12 ≠ j → (Cond.not (Cond.eq (sm_tm 12) (sm_tm j))).before args s = true ∨ (Cond.not (Cond.eq (sm_tm j) (sm_tm 12))).before args s = true
  | 0, _, _ => Or.inr (nw_158 h)
  | 1, _, _ => Or.inr (nw_172 h)
  | 2, _, _ => Or.inr (nw_185 h)
  | 3, _, _ => Or.inr (nw_197 h)
  | 4, _, _ => Or.inr (nw_208 h)
  | 5, _, _ => Or.inr (nw_218 h)
  | 6, _, _ => Or.inr (nw_227 h)
  | 7, _, _ => Or.inr (nw_235 h)
  | 8, _, _ => Or.inr (nw_242 h)
  | 9, _, _ => Or.inr (nw_248 h)
  | 10, _, _ => Or.inr (nw_253 h)
  | 11, _, _ => Or.inr (nw_257 h)
  | 12, _, q => absurd rfl q
  | 13, _, _ => Or.inl (nw_261 h)
  | 14, _, _ => Or.inl (nw_262 h)
  | 15, _, _ => Or.inl (nw_263 h)
  | j + 16, q, _ => absurd q (by omega)
theorem tx_el13 {args : Array Value} {s : State} (h : narrow_1.before args s = true) : ∀ j, j < 3 → (Cond.eq (.elem (.field (sm_tm 13) "java/lang/String" "value" "[B") (.int (Int32.ofNat j))) (.int ((sm_byt.getD 13 []).getD j 0))).before args s = true
  | 0, _ => nw_128 h
  | 1, _ => nw_129 h
  | 2, _ => nw_130 h
  | j + 3, q => absurd q (by omega)
theorem tx_ne13 {args : Array Value} {s : State} (h : narrow_1.before args s = true) : ∀ j, j < 16 → 13 ≠ j → (Cond.not (Cond.eq (sm_tm 13) (sm_tm j))).before args s = true ∨ (Cond.not (Cond.eq (sm_tm j) (sm_tm 13))).before args s = true
  | 0, _, _ => Or.inr (nw_159 h)
  | 1, _, _ => Or.inr (nw_173 h)
  | 2, _, _ => Or.inr (nw_186 h)
  | 3, _, _ => Or.inr (nw_198 h)
  | 4, _, _ => Or.inr (nw_209 h)
  | 5, _, _ => Or.inr (nw_219 h)
  | 6, _, _ => Or.inr (nw_228 h)
  | 7, _, _ => Or.inr (nw_236 h)
  | 8, _, _ => Or.inr (nw_243 h)
  | 9, _, _ => Or.inr (nw_249 h)
  | 10, _, _ => Or.inr (nw_254 h)
  | 11, _, _ => Or.inr (nw_258 h)
  | 12, _, _ => Or.inr (nw_261 h)
  | 13, _, q => absurd rfl q
  | 14, _, _ => Or.inl (nw_264 h)
  | 15, _, _ => Or.inl (nw_265 h)
  | j + 16, q, _ => absurd q (by omega)
theorem tx_el14 {args : Array Value} {s : State} (h : narrow_1.before args s = true) : ∀ j, j < 3 → (Cond.eq (.elem (.field (sm_tm 14) "java/lang/String" "value" "[B") (.int (Int32.ofNat j))) (.int ((sm_byt.getD 14 []).getD j 0))).before args s = true
  | 0, _ => nw_131 h
  | 1, _ => nw_132 h
  | 2, _ => nw_133 h
  | j + 3, q => absurd q (by omega)
theorem tx_ne14 {args : Array Value} {s : State} (h : narrow_1.before args s = true) : ∀ j, j < 16 → 14 ≠ j → (Cond.not (Cond.eq (sm_tm 14) (sm_tm j))).before args s = true ∨ (Cond.not (Cond.eq (sm_tm j) (sm_tm 14))).before args s = true
  | 0, _, _ => Or.inr (nw_160 h)
  | 1, _, _ => Or.inr (nw_174 h)
  | 2, _, _ => Or.inr (nw_187 h)
  | 3, _, _ => Or.inr (nw_199 h)
  | 4, _, _ => Or.inr (nw_210 h)
  | 5, _, _ => Or.inr (nw_220 h)
  | 6, _, _ => Or.inr (nw_229 h)
  | 7, _, _ => Or.inr (nw_237 h)
  | 8, _, _ => Or.inr (nw_244 h)
  | 9, _, _ => Or.inr (nw_250 h)
  | 10, _, _ => Or.inr (nw_255 h)
  | 11, _, _ => Or.inr (nw_259 h)
  | 12, _, _ => Or.inr (nw_262 h)
  | 13, _, _ => Or.inr (nw_264 h)
  | 14, _, q => absurd rfl q
  | 15, _, _ => Or.inl (nw_266 h)
  | j + 16, q, _ => absurd q (by omega)
theorem tx_el15 {args : Array Value} {s : State} (h : narrow_1.before args s = true) : ∀ j, j < 13 → (Cond.eq (.elem (.field (sm_tm 15) "java/lang/String" "value" "[B") (.int (Int32.ofNat j))) (.int ((sm_byt.getD 15 []).getD j 0))).before args s = true
  | 0, _ => nw_134 h
  | 1, _ => nw_135 h
  | 2, _ => nw_136 h
  | 3, _ => nw_137 h
  | 4, _ => nw_138 h
  | 5, _ => nw_139 h
  | 6, _ => nw_140 h
  | 7, _ => nw_141 h
  | 8, _ => nw_142 h
  | 9, _ => nw_143 h
  | 10, _ => nw_144 h
  | 11, _ => nw_145 h
  | 12, _ => nw_146 h
  | j + 13, q => absurd q (by omega)
theorem tx_ne15 {args : Array Value} {s : State} (h : narrow_1.before args s = true) : ∀ j, j < 16 → 15 ≠ j → (Cond.not (Cond.eq (sm_tm 15) (sm_tm j))).before args s = true ∨ (Cond.not (Cond.eq (sm_tm j) (sm_tm 15))).before args s = true
  | 0, _, _ => Or.inr (nw_161 h)
  | 1, _, _ => Or.inr (nw_175 h)
  | 2, _, _ => Or.inr (nw_188 h)
  | 3, _, _ => Or.inr (nw_200 h)
  | 4, _, _ => Or.inr (nw_211 h)
  | 5, _, _ => Or.inr (nw_221 h)
  | 6, _, _ => Or.inr (nw_230 h)
  | 7, _, _ => Or.inr (nw_238 h)
  | 8, _, _ => Or.inr (nw_245 h)
  | 9, _, _ => Or.inr (nw_251 h)
  | 10, _, _ => Or.inr (nw_256 h)
  | 11, _, _ => Or.inr (nw_260 h)
  | 12, _, _ => Or.inr (nw_263 h)
  | 13, _, _ => Or.inr (nw_265 h)
  | 14, _, _ => Or.inr (nw_266 h)
  | 15, _, q => absurd rfl q
  | j + 16, q, _ => absurd q (by omega)
theorem tx_el {args : Array Value} {s : State} (h : narrow_1.before args s = true) : ∀ i, i < sm_nS → ∀ j, j < sm_len.getD i 0 → (Cond.eq (.elem (.field (sm_tm i) "java/lang/String" "value" "[B") (.int (Int32.ofNat j))) (.int ((sm_byt.getD i []).getD j 0))).before args s = true
  | 0, _ => tx_el0 h
  | 1, _ => tx_el1 h
  | 2, _ => tx_el2 h
  | 3, _ => tx_el3 h
  | 4, _ => tx_el4 h
  | 5, _ => tx_el5 h
  | 6, _ => tx_el6 h
  | 7, _ => tx_el7 h
  | 8, _ => tx_el8 h
  | 9, _ => tx_el9 h
  | 10, _ => tx_el10 h
  | 11, _ => tx_el11 h
  | 12, _ => tx_el12 h
  | 13, _ => tx_el13 h
  | 14, _ => tx_el14 h
  | 15, _ => tx_el15 h
  | i + 16, q => absurd q (by show ¬ i + 16 < 16; omega)
theorem tx_ne {args : Array Value} {s : State} (h : narrow_1.before args s = true) : ∀ i, i < sm_nS → ∀ j, j < sm_nS → i ≠ j → (Cond.not (Cond.eq (sm_tm i) (sm_tm j))).before args s = true ∨ (Cond.not (Cond.eq (sm_tm j) (sm_tm i))).before args s = true
  | 0, _ => tx_ne0 h
  | 1, _ => tx_ne1 h
  | 2, _ => tx_ne2 h
  | 3, _ => tx_ne3 h
  | 4, _ => tx_ne4 h
  | 5, _ => tx_ne5 h
  | 6, _ => tx_ne6 h
  | 7, _ => tx_ne7 h
  | 8, _ => tx_ne8 h
  | 9, _ => tx_ne9 h
  | 10, _ => tx_ne10 h
  | 11, _ => tx_ne11 h
  | 12, _ => tx_ne12 h
  | 13, _ => tx_ne13 h
  | 14, _ => tx_ne14 h
  | 15, _ => tx_ne15 h
  | i + 16, q => absurd q (by show ¬ i + 16 < 16; omega)
theorem sr_0 : Cond.stringRef "QueryTables$Tokens" 65 "create" ∈ lw_tbl := List.mem_append_right _ (sm_r1 (List.mem_of_getElem? (i := 208) rfl))
theorem sr_1 : Cond.stringRef "QueryTables$Tokens" 71 "index" ∈ lw_tbl := List.mem_append_right _ (sm_r2 (List.mem_of_getElem? (i := 20) rfl))
theorem sr_2 : Cond.stringRef "QueryTables$Tokens" 73 "insert" ∈ lw_tbl := List.mem_append_right _ (sm_r2 (List.mem_of_getElem? (i := 21) rfl))
theorem sr_3 : Cond.stringRef "QueryTables$Tokens" 75 "update" ∈ lw_tbl := List.mem_append_right _ (sm_r2 (List.mem_of_getElem? (i := 22) rfl))
theorem sr_4 : Cond.stringRef "QueryTables$Tokens" 77 "delete" ∈ lw_tbl := List.mem_append_right _ (sm_r2 (List.mem_of_getElem? (i := 23) rfl))
theorem sr_5 : Cond.stringRef "QueryTables$Tokens" 79 "select" ∈ lw_tbl := List.mem_append_right _ (sm_r2 (List.mem_of_getElem? (i := 24) rfl))
theorem sr_6 : Cond.stringRef "QueryTables$Tokens" 81 "from" ∈ lw_tbl := List.mem_append_right _ (sm_r2 (List.mem_of_getElem? (i := 28) rfl))
theorem sr_7 : Cond.stringRef "QueryTables$Tokens" 83 "where" ∈ lw_tbl := List.mem_append_right _ (sm_r2 (List.mem_of_getElem? (i := 29) rfl))
theorem sr_8 : Cond.stringRef "QueryTables$Tokens" 85 "order" ∈ lw_tbl := List.mem_append_right _ (sm_r2 (List.mem_of_getElem? (i := 30) rfl))
theorem sr_9 : Cond.stringRef "QueryTables$Tokens" 87 "desc" ∈ lw_tbl := List.mem_append_right _ (sm_r2 (List.mem_of_getElem? (i := 31) rfl))
theorem sr_10 : Cond.stringRef "QueryTables$Tokens" 89 "limit" ∈ lw_tbl := List.mem_append_right _ (sm_r2 (List.mem_of_getElem? (i := 32) rfl))
theorem sr_11 : Cond.stringRef "QueryTables$Tokens" 91 "null" ∈ lw_tbl := List.mem_append_right _ (sm_r2 (List.mem_of_getElem? (i := 33) rfl))
theorem sr_12 : Cond.stringRef "QueryTables$Tokens" 93 "or" ∈ lw_tbl := List.mem_append_right _ (sm_r2 (List.mem_of_getElem? (i := 34) rfl))
theorem sr_13 : Cond.stringRef "QueryTables$Tokens" 95 "and" ∈ lw_tbl := List.mem_append_right _ (sm_r2 (List.mem_of_getElem? (i := 35) rfl))
theorem sr_14 : Cond.stringRef "QueryTables$Tokens" 97 "not" ∈ lw_tbl := List.mem_append_right _ (sm_r2 (List.mem_of_getElem? (i := 36) rfl))
theorem sr_15 : Cond.stringRef "QueryTables$Tokens" 50 "()[],.+-*/=<>" ∈ lw_tbl := List.mem_append_right _ (sm_r2 (List.mem_of_getElem? (i := 41) rfl))
theorem sr_all : ∀ (k : Nat) (own : String) (idx : Nat) (tx : String), (k, own, idx, tx) ∈ sm_lits → k < sm_nS ∧ Cond.stringRef own idx tx ∈ lw_tbl ∧ sm_tm k = .string own idx := by
  intro k own idx tx hm
  have hx : ∀ x ∈ sm_lits, x.1 < sm_nS ∧ Cond.stringRef x.2.1 x.2.2.1 x.2.2.2 ∈ lw_tbl ∧ sm_tm x.1 = .string x.2.1 x.2.2.1 := List.forall_mem_cons.mpr ⟨⟨Nat.le_of_ble_eq_true rfl, sr_0, rfl⟩, List.forall_mem_cons.mpr ⟨⟨Nat.le_of_ble_eq_true rfl, sr_1, rfl⟩, List.forall_mem_cons.mpr ⟨⟨Nat.le_of_ble_eq_true rfl, sr_2, rfl⟩, List.forall_mem_cons.mpr ⟨⟨Nat.le_of_ble_eq_true rfl, sr_3, rfl⟩, List.forall_mem_cons.mpr ⟨⟨Nat.le_of_ble_eq_true rfl, sr_4, rfl⟩, List.forall_mem_cons.mpr ⟨⟨Nat.le_of_ble_eq_true rfl, sr_5, rfl⟩, List.forall_mem_cons.mpr ⟨⟨Nat.le_of_ble_eq_true rfl, sr_6, rfl⟩, List.forall_mem_cons.mpr ⟨⟨Nat.le_of_ble_eq_true rfl, sr_7, rfl⟩, List.forall_mem_cons.mpr ⟨⟨Nat.le_of_ble_eq_true rfl, sr_8, rfl⟩, List.forall_mem_cons.mpr ⟨⟨Nat.le_of_ble_eq_true rfl, sr_9, rfl⟩, List.forall_mem_cons.mpr ⟨⟨Nat.le_of_ble_eq_true rfl, sr_10, rfl⟩, List.forall_mem_cons.mpr ⟨⟨Nat.le_of_ble_eq_true rfl, sr_11, rfl⟩, List.forall_mem_cons.mpr ⟨⟨Nat.le_of_ble_eq_true rfl, sr_12, rfl⟩, List.forall_mem_cons.mpr ⟨⟨Nat.le_of_ble_eq_true rfl, sr_13, rfl⟩, List.forall_mem_cons.mpr ⟨⟨Nat.le_of_ble_eq_true rfl, sr_14, rfl⟩, List.forall_mem_cons.mpr ⟨⟨Nat.le_of_ble_eq_true rfl, sr_15, rfl⟩, fun _ h => absurd h List.not_mem_nil⟩⟩⟩⟩⟩⟩⟩⟩⟩⟩⟩⟩⟩⟩⟩⟩
  exact hx _ hm
theorem ls_cs : Cond.laysStatic "java/lang/String" "COMPACT_STRINGS" "Z" ∈ lw_tbl := List.mem_append_right _ (sm_r1 (List.mem_of_getElem? (i := 221) rfl))
theorem ls_sf : Cond.laysStatic "jdk/internal/util/Preconditions" "SIOOBE_FORMATTER" "Ljava/util/function/BiFunction;" ∈ lw_tbl := List.mem_append_right _ (sm_r1 (List.mem_of_getElem? (i := 237) rfl))
theorem li_cs : Cond.initialized "java/lang/String" ∈ lw_tbl := List.mem_append_right _ (sm_r0 (List.mem_of_getElem? (i := 12) rfl))
theorem li_sf : Cond.initialized "jdk/internal/util/Preconditions" ∈ lw_tbl := List.mem_append_right _ (sm_r0 (List.mem_of_getElem? (i := 14) rfl))
theorem sm_T_ex {args : Array Value} {s : State} {sb : Nat} (hts : ∀ w ∈ lw_tbl, w.before args s = true) (h : narrow_1.before args s = true) : ∃ b : UInt32 → Option Nat, b 0 = some sb ∧ sm_T s.heap.size b s.heap s := by
  have hA : ∀ a : Nat, a < s.heap.size → ¬ s.heap.size ≤ a := fun a ha => by omega
  obtain ⟨adK, adV, hS, hE⟩ := vk_Sof (N := sm_nS) (tm := sm_tm) (len := sm_len) (byt := sm_byt) (A := fun q => s.heap.size ≤ q) (by decide) (tx_ex h) (tx_co h) (tx_ar h) (tx_le h) (tx_el h) (fun i j hi hj hij => tx_ne h i hi j hj hij) hA
  have hZ := va_Zof (A := fun q => s.heap.size ≤ q) (hts _ ls_cs) (hts _ li_cs) (va_eqi (nw_267 h)) hA
  have hQ := va_Zqof (A := fun q => s.heap.size ≤ q) (hts _ ls_sf) (hts _ li_sf) (nw_268 h) hA
  obtain ⟨fm, hM⟩ : ∃ fm : Option Nat, va_Z "jdk/internal/util/Preconditions" "SIOOBE_FORMATTER" "Ljava/util/function/BiFunction;" (va_rf fm) (fun q => s.heap.size ≤ q) s s.heap := by
    rcases hQ with hQ | ⟨t, hQ⟩
    · exact ⟨none, hQ⟩
    · exact ⟨some t, hQ⟩
  have k1 : ∀ i, i < sm_nS → sm_sK (UInt32.ofNat (2 * i + 1)) = some i := by decide
  have k2 : ∀ i, i < sm_nS → sm_sK (UInt32.ofNat (2 * i + 2)) = none ∧ sm_sV (UInt32.ofNat (2 * i + 2)) = some i := by decide
  have k3 : ∀ i, i < sm_nS → ¬ UInt32.ofNat (2 * i + 1) = 0 ∧ ¬ UInt32.ofNat (2 * i + 1) = 1000 ∧ ¬ UInt32.ofNat (2 * i + 2) = 0 ∧ ¬ UInt32.ofNat (2 * i + 2) = 1000 := by decide
  refine ⟨fun u => if u = 0 then some sb else if u = 1000 then fm else match sm_sK u with | some i => some (adK i) | none => (match sm_sV u with | some i => some (adV i) | none => none), if_pos rfl, adK, adV, fun i hi => ⟨?_, ?_⟩, hS, hZ, ?_, fun k own idx tx hm => ?_⟩
  · show (if _ then _ else if _ then _ else _) = _
    rw [if_neg (k3 i hi).1, if_neg (k3 i hi).2.1, k1 i hi]
  · show (if _ then _ else if _ then _ else _) = _
    rw [if_neg (k3 i hi).2.2.1, if_neg (k3 i hi).2.2.2, (k2 i hi).1, (k2 i hi).2]
  · show va_Z _ _ _ (va_rf (if (1000 : UInt32) = 0 then _ else if (1000 : UInt32) = 1000 then fm else _)) _ s s.heap
    rw [if_neg (by decide), if_pos rfl]
    exact hM
  · obtain ⟨q1, q2, q3⟩ := sr_all k own idx tx hm
    have e := hE k q1
    rw [q3] at e
    exact vk_R.of (hts _ q2) e
