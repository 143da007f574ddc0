theorem k_andl {a b : Cond} {args : Array Value} {s : State} (h : (Cond.and a b).before args s = true) : a.before args s = true := by
  rw [Cond.before_and, Bool.and_eq_true] at h
  exact h.1
theorem k_andr {a b : Cond} {args : Array Value} {s : State} (h : (Cond.and a b).before args s = true) : b.before args s = true := by
  rw [Cond.before_and, Bool.and_eq_true] at h
  exact h.2
theorem nf0 {args : Array Value} {s : State} (h : (Jvm.Cond.and given_1 narrow_1).before args s = true) : (Jvm.Cond.arrayOf (Jvm.Term.arg (0 : Nat)) Jvm.ClassFile.FieldType.int).before args s = true := (k_andl (k_andl (k_andl (k_andl (k_andl (k_andl (k_andl (k_andl (k_andr h)))))))))
theorem nf1 {args : Array Value} {s : State} (h : (Jvm.Cond.and given_1 narrow_1).before args s = true) : (Jvm.Cond.le (Jvm.Term.length (Jvm.Term.arg (0 : Nat))) (Jvm.Term.int (3072 : Int32))).before args s = true := (k_andr (k_andl (k_andl (k_andl (k_andl (k_andl (k_andl (k_andl (k_andr h)))))))))
theorem nf2 {args : Array Value} {s : State} (h : (Jvm.Cond.and given_1 narrow_1).before args s = true) : (Jvm.Cond.eq (Jvm.Term.static "java/lang/String" "COMPACT_STRINGS" "Z") (Jvm.Term.int (1 : Int32))).before args s = true := (k_andl (k_andr (k_andl (k_andl (k_andl (k_andl (k_andl (k_andl (k_andr h)))))))))
-- compact: nf2
theorem nf3 {args : Array Value} {s : State} (h : (Jvm.Cond.and given_1 narrow_1).before args s = true) : (Jvm.Cond.isRef (Jvm.Term.static "jdk/internal/util/Preconditions" "SIOOBE_FORMATTER" "Ljava/util/function/BiFunction;")).before args s = true := (k_andr (k_andr (k_andl (k_andl (k_andl (k_andl (k_andl (k_andl (k_andr h)))))))))
theorem nf4 {args : Array Value} {s : State} (h : (Jvm.Cond.and given_1 narrow_1).before args s = true) : (Jvm.Cond.eq (Jvm.Term.static "java/lang/StringUTF16" "$assertionsDisabled" "Z") (Jvm.Term.int (1 : Int32))).before args s = true := (k_andl (k_andl (k_andr (k_andl (k_andl (k_andl (k_andl (k_andl (k_andr h)))))))))
theorem nf5 {args : Array Value} {s : State} (h : (Jvm.Cond.and given_1 narrow_1).before args s = true) : (Jvm.Cond.eq (Jvm.Term.static "java/lang/StringUTF16" "HI_BYTE_SHIFT" "I") (Jvm.Term.int (0 : Int32))).before args s = true := (k_andr (k_andl (k_andr (k_andl (k_andl (k_andl (k_andl (k_andl (k_andr h)))))))))
theorem nf6 {args : Array Value} {s : State} (h : (Jvm.Cond.and given_1 narrow_1).before args s = true) : (Jvm.Cond.eq (Jvm.Term.static "java/lang/StringUTF16" "LO_BYTE_SHIFT" "I") (Jvm.Term.int (8 : Int32))).before args s = true := (k_andl (k_andr (k_andr (k_andl (k_andl (k_andl (k_andl (k_andl (k_andr h)))))))))
theorem nf7 {args : Array Value} {s : State} (h : (Jvm.Cond.and given_1 narrow_1).before args s = true) : (Jvm.Cond.exactly (Jvm.Term.string "TwoAsks$Tokens" (45 : Nat)) "java/lang/String").before args s = true := (k_andr (k_andr (k_andr (k_andl (k_andl (k_andl (k_andl (k_andl (k_andr h)))))))))
theorem nf8 {args : Array Value} {s : State} (h : (Jvm.Cond.and given_1 narrow_1).before args s = true) : (Jvm.Cond.eq (Jvm.Term.field (Jvm.Term.string "TwoAsks$Tokens" (45 : Nat)) "java/lang/String" "coder" "B") (Jvm.Term.int (0 : Int32))).before args s = true := (k_andl (k_andl (k_andl (k_andr (k_andl (k_andl (k_andl (k_andl (k_andr h)))))))))
theorem nf9 {args : Array Value} {s : State} (h : (Jvm.Cond.and given_1 narrow_1).before args s = true) : (Jvm.Cond.arrayOf (Jvm.Term.field (Jvm.Term.string "TwoAsks$Tokens" (45 : Nat)) "java/lang/String" "value" "[B") Jvm.ClassFile.FieldType.byte).before args s = true := (k_andr (k_andl (k_andl (k_andr (k_andl (k_andl (k_andl (k_andl (k_andr h)))))))))
theorem nf10 {args : Array Value} {s : State} (h : (Jvm.Cond.and given_1 narrow_1).before args s = true) : (Jvm.Cond.eq (Jvm.Term.length (Jvm.Term.field (Jvm.Term.string "TwoAsks$Tokens" (45 : Nat)) "java/lang/String" "value" "[B")) (Jvm.Term.int (3 : Int32))).before args s = true := (k_andl (k_andr (k_andl (k_andr (k_andl (k_andl (k_andl (k_andl (k_andr h)))))))))
theorem nf11 {args : Array Value} {s : State} (h : (Jvm.Cond.and given_1 narrow_1).before args s = true) : (Jvm.Cond.eq (Jvm.Term.elem (Jvm.Term.field (Jvm.Term.string "TwoAsks$Tokens" (45 : Nat)) "java/lang/String" "value" "[B") (Jvm.Term.int (0 : Int32))) (Jvm.Term.int (114 : Int32))).before args s = true := (k_andr (k_andr (k_andl (k_andr (k_andl (k_andl (k_andl (k_andl (k_andr h)))))))))
theorem nf12 {args : Array Value} {s : State} (h : (Jvm.Cond.and given_1 narrow_1).before args s = true) : (Jvm.Cond.eq (Jvm.Term.elem (Jvm.Term.field (Jvm.Term.string "TwoAsks$Tokens" (45 : Nat)) "java/lang/String" "value" "[B") (Jvm.Term.int (1 : Int32))) (Jvm.Term.int (111 : Int32))).before args s = true := (k_andl (k_andl (k_andr (k_andr (k_andl (k_andl (k_andl (k_andl (k_andr h)))))))))
theorem nf13 {args : Array Value} {s : State} (h : (Jvm.Cond.and given_1 narrow_1).before args s = true) : (Jvm.Cond.eq (Jvm.Term.elem (Jvm.Term.field (Jvm.Term.string "TwoAsks$Tokens" (45 : Nat)) "java/lang/String" "value" "[B") (Jvm.Term.int (2 : Int32))) (Jvm.Term.int (119 : Int32))).before args s = true := (k_andr (k_andl (k_andr (k_andr (k_andl (k_andl (k_andl (k_andl (k_andr h)))))))))
theorem nf14 {args : Array Value} {s : State} (h : (Jvm.Cond.and given_1 narrow_1).before args s = true) : (Jvm.Cond.exactly (Jvm.Term.string "TwoAsks$Tokens" (47 : Nat)) "java/lang/String").before args s = true := (k_andl (k_andr (k_andr (k_andr (k_andl (k_andl (k_andl (k_andl (k_andr h)))))))))
theorem nf15 {args : Array Value} {s : State} (h : (Jvm.Cond.and given_1 narrow_1).before args s = true) : (Jvm.Cond.eq (Jvm.Term.field (Jvm.Term.string "TwoAsks$Tokens" (47 : Nat)) "java/lang/String" "coder" "B") (Jvm.Term.int (0 : Int32))).before args s = true := (k_andl (k_andr (k_andr (k_andr (k_andr (k_andl (k_andl (k_andl (k_andl (k_andr h))))))))))
theorem nf16 {args : Array Value} {s : State} (h : (Jvm.Cond.and given_1 narrow_1).before args s = true) : (Jvm.Cond.arrayOf (Jvm.Term.field (Jvm.Term.string "TwoAsks$Tokens" (47 : Nat)) "java/lang/String" "value" "[B") Jvm.ClassFile.FieldType.byte).before args s = true := (k_andr (k_andr (k_andr (k_andr (k_andr (k_andl (k_andl (k_andl (k_andl (k_andr h))))))))))
theorem nf17 {args : Array Value} {s : State} (h : (Jvm.Cond.and given_1 narrow_1).before args s = true) : (Jvm.Cond.eq (Jvm.Term.length (Jvm.Term.field (Jvm.Term.string "TwoAsks$Tokens" (47 : Nat)) "java/lang/String" "value" "[B")) (Jvm.Term.int (4 : Int32))).before args s = true := (k_andl (k_andl (k_andl (k_andl (k_andr (k_andl (k_andl (k_andl (k_andr h)))))))))
theorem nf18 {args : Array Value} {s : State} (h : (Jvm.Cond.and given_1 narrow_1).before args s = true) : (Jvm.Cond.eq (Jvm.Term.elem (Jvm.Term.field (Jvm.Term.string "TwoAsks$Tokens" (47 : Nat)) "java/lang/String" "value" "[B") (Jvm.Term.int (0 : Int32))) (Jvm.Term.int (108 : Int32))).before args s = true := (k_andr (k_andl (k_andl (k_andl (k_andr (k_andl (k_andl (k_andl (k_andr h)))))))))
theorem nf19 {args : Array Value} {s : State} (h : (Jvm.Cond.and given_1 narrow_1).before args s = true) : (Jvm.Cond.eq (Jvm.Term.elem (Jvm.Term.field (Jvm.Term.string "TwoAsks$Tokens" (47 : Nat)) "java/lang/String" "value" "[B") (Jvm.Term.int (1 : Int32))) (Jvm.Term.int (105 : Int32))).before args s = true := (k_andl (k_andr (k_andl (k_andl (k_andr (k_andl (k_andl (k_andl (k_andr h)))))))))
theorem nf20 {args : Array Value} {s : State} (h : (Jvm.Cond.and given_1 narrow_1).before args s = true) : (Jvm.Cond.eq (Jvm.Term.elem (Jvm.Term.field (Jvm.Term.string "TwoAsks$Tokens" (47 : Nat)) "java/lang/String" "value" "[B") (Jvm.Term.int (2 : Int32))) (Jvm.Term.int (115 : Int32))).before args s = true := (k_andr (k_andr (k_andl (k_andl (k_andr (k_andl (k_andl (k_andl (k_andr h)))))))))
theorem nf21 {args : Array Value} {s : State} (h : (Jvm.Cond.and given_1 narrow_1).before args s = true) : (Jvm.Cond.eq (Jvm.Term.elem (Jvm.Term.field (Jvm.Term.string "TwoAsks$Tokens" (47 : Nat)) "java/lang/String" "value" "[B") (Jvm.Term.int (3 : Int32))) (Jvm.Term.int (116 : Int32))).before args s = true := (k_andl (k_andl (k_andr (k_andl (k_andr (k_andl (k_andl (k_andl (k_andr h)))))))))
theorem nf22 {args : Array Value} {s : State} (h : (Jvm.Cond.and given_1 narrow_1).before args s = true) : (Jvm.Cond.not (Jvm.Cond.eq (Jvm.Term.string "TwoAsks$Tokens" (45 : Nat)) (Jvm.Term.string "TwoAsks$Tokens" (47 : Nat)))).before args s = true := (k_andr (k_andl (k_andr (k_andl (k_andr (k_andl (k_andl (k_andl (k_andr h)))))))))
theorem nf23 {args : Array Value} {s : State} (h : (Jvm.Cond.and given_1 narrow_1).before args s = true) : (Jvm.Cond.exactly (Jvm.Term.string "TwoAsks$Tokens" (49 : Nat)) "java/lang/String").before args s = true := (k_andl (k_andr (k_andr (k_andl (k_andr (k_andl (k_andl (k_andl (k_andr h)))))))))
theorem nf24 {args : Array Value} {s : State} (h : (Jvm.Cond.and given_1 narrow_1).before args s = true) : (Jvm.Cond.eq (Jvm.Term.field (Jvm.Term.string "TwoAsks$Tokens" (49 : Nat)) "java/lang/String" "coder" "B") (Jvm.Term.int (0 : Int32))).before args s = true := (k_andr (k_andr (k_andr (k_andl (k_andr (k_andl (k_andl (k_andl (k_andr h)))))))))
theorem nf25 {args : Array Value} {s : State} (h : (Jvm.Cond.and given_1 narrow_1).before args s = true) : (Jvm.Cond.arrayOf (Jvm.Term.field (Jvm.Term.string "TwoAsks$Tokens" (49 : Nat)) "java/lang/String" "value" "[B") Jvm.ClassFile.FieldType.byte).before args s = true := (k_andl (k_andl (k_andl (k_andr (k_andr (k_andl (k_andl (k_andl (k_andr h)))))))))
theorem nf26 {args : Array Value} {s : State} (h : (Jvm.Cond.and given_1 narrow_1).before args s = true) : (Jvm.Cond.eq (Jvm.Term.length (Jvm.Term.field (Jvm.Term.string "TwoAsks$Tokens" (49 : Nat)) "java/lang/String" "value" "[B")) (Jvm.Term.int (3 : Int32))).before args s = true := (k_andr (k_andl (k_andl (k_andr (k_andr (k_andl (k_andl (k_andl (k_andr h)))))))))
theorem nf27 {args : Array Value} {s : State} (h : (Jvm.Cond.and given_1 narrow_1).before args s = true) : (Jvm.Cond.eq (Jvm.Term.elem (Jvm.Term.field (Jvm.Term.string "TwoAsks$Tokens" (49 : Nat)) "java/lang/String" "value" "[B") (Jvm.Term.int (0 : Int32))) (Jvm.Term.int (97 : Int32))).before args s = true := (k_andl (k_andr (k_andl (k_andr (k_andr (k_andl (k_andl (k_andl (k_andr h)))))))))
theorem nf28 {args : Array Value} {s : State} (h : (Jvm.Cond.and given_1 narrow_1).before args s = true) : (Jvm.Cond.eq (Jvm.Term.elem (Jvm.Term.field (Jvm.Term.string "TwoAsks$Tokens" (49 : Nat)) "java/lang/String" "value" "[B") (Jvm.Term.int (1 : Int32))) (Jvm.Term.int (115 : Int32))).before args s = true := (k_andr (k_andr (k_andl (k_andr (k_andr (k_andl (k_andl (k_andl (k_andr h)))))))))
theorem nf29 {args : Array Value} {s : State} (h : (Jvm.Cond.and given_1 narrow_1).before args s = true) : (Jvm.Cond.eq (Jvm.Term.elem (Jvm.Term.field (Jvm.Term.string "TwoAsks$Tokens" (49 : Nat)) "java/lang/String" "value" "[B") (Jvm.Term.int (2 : Int32))) (Jvm.Term.int (107 : Int32))).before args s = true := (k_andl (k_andl (k_andr (k_andr (k_andr (k_andl (k_andl (k_andl (k_andr h)))))))))
theorem nf30 {args : Array Value} {s : State} (h : (Jvm.Cond.and given_1 narrow_1).before args s = true) : (Jvm.Cond.not (Jvm.Cond.eq (Jvm.Term.string "TwoAsks$Tokens" (45 : Nat)) (Jvm.Term.string "TwoAsks$Tokens" (49 : Nat)))).before args s = true := (k_andr (k_andl (k_andr (k_andr (k_andr (k_andl (k_andl (k_andl (k_andr h)))))))))
theorem nf31 {args : Array Value} {s : State} (h : (Jvm.Cond.and given_1 narrow_1).before args s = true) : (Jvm.Cond.not (Jvm.Cond.eq (Jvm.Term.string "TwoAsks$Tokens" (47 : Nat)) (Jvm.Term.string "TwoAsks$Tokens" (49 : Nat)))).before args s = true := (k_andl (k_andr (k_andr (k_andr (k_andr (k_andl (k_andl (k_andl (k_andr h)))))))))
theorem nf32 {args : Array Value} {s : State} (h : (Jvm.Cond.and given_1 narrow_1).before args s = true) : (Jvm.Cond.exactly (Jvm.Term.string "TwoAsks$Tokens" (51 : Nat)) "java/lang/String").before args s = true := (k_andl (k_andr (k_andr (k_andr (k_andr (k_andr (k_andl (k_andl (k_andl (k_andr h))))))))))
theorem nf33 {args : Array Value} {s : State} (h : (Jvm.Cond.and given_1 narrow_1).before args s = true) : (Jvm.Cond.eq (Jvm.Term.field (Jvm.Term.string "TwoAsks$Tokens" (51 : Nat)) "java/lang/String" "coder" "B") (Jvm.Term.int (0 : Int32))).before args s = true := (k_andr (k_andr (k_andr (k_andr (k_andr (k_andr (k_andl (k_andl (k_andl (k_andr h))))))))))
theorem nf34 {args : Array Value} {s : State} (h : (Jvm.Cond.and given_1 narrow_1).before args s = true) : (Jvm.Cond.arrayOf (Jvm.Term.field (Jvm.Term.string "TwoAsks$Tokens" (51 : Nat)) "java/lang/String" "value" "[B") Jvm.ClassFile.FieldType.byte).before args s = true := (k_andl (k_andl (k_andl (k_andl (k_andl (k_andr (k_andl (k_andl (k_andr h)))))))))
theorem nf35 {args : Array Value} {s : State} (h : (Jvm.Cond.and given_1 narrow_1).before args s = true) : (Jvm.Cond.eq (Jvm.Term.length (Jvm.Term.field (Jvm.Term.string "TwoAsks$Tokens" (51 : Nat)) "java/lang/String" "value" "[B")) (Jvm.Term.int (5 : Int32))).before args s = true := (k_andr (k_andl (k_andl (k_andl (k_andl (k_andr (k_andl (k_andl (k_andr h)))))))))
theorem nf36 {args : Array Value} {s : State} (h : (Jvm.Cond.and given_1 narrow_1).before args s = true) : (Jvm.Cond.eq (Jvm.Term.elem (Jvm.Term.field (Jvm.Term.string "TwoAsks$Tokens" (51 : Nat)) "java/lang/String" "value" "[B") (Jvm.Term.int (0 : Int32))) (Jvm.Term.int (112 : Int32))).before args s = true := (k_andl (k_andr (k_andl (k_andl (k_andl (k_andr (k_andl (k_andl (k_andr h)))))))))
theorem nf37 {args : Array Value} {s : State} (h : (Jvm.Cond.and given_1 narrow_1).before args s = true) : (Jvm.Cond.eq (Jvm.Term.elem (Jvm.Term.field (Jvm.Term.string "TwoAsks$Tokens" (51 : Nat)) "java/lang/String" "value" "[B") (Jvm.Term.int (1 : Int32))) (Jvm.Term.int (114 : Int32))).before args s = true := (k_andr (k_andr (k_andl (k_andl (k_andl (k_andr (k_andl (k_andl (k_andr h)))))))))
theorem nf38 {args : Array Value} {s : State} (h : (Jvm.Cond.and given_1 narrow_1).before args s = true) : (Jvm.Cond.eq (Jvm.Term.elem (Jvm.Term.field (Jvm.Term.string "TwoAsks$Tokens" (51 : Nat)) "java/lang/String" "value" "[B") (Jvm.Term.int (2 : Int32))) (Jvm.Term.int (105 : Int32))).before args s = true := (k_andl (k_andl (k_andr (k_andl (k_andl (k_andr (k_andl (k_andl (k_andr h)))))))))
theorem nf39 {args : Array Value} {s : State} (h : (Jvm.Cond.and given_1 narrow_1).before args s = true) : (Jvm.Cond.eq (Jvm.Term.elem (Jvm.Term.field (Jvm.Term.string "TwoAsks$Tokens" (51 : Nat)) "java/lang/String" "value" "[B") (Jvm.Term.int (3 : Int32))) (Jvm.Term.int (109 : Int32))).before args s = true := (k_andr (k_andl (k_andr (k_andl (k_andl (k_andr (k_andl (k_andl (k_andr h)))))))))
theorem nf40 {args : Array Value} {s : State} (h : (Jvm.Cond.and given_1 narrow_1).before args s = true) : (Jvm.Cond.eq (Jvm.Term.elem (Jvm.Term.field (Jvm.Term.string "TwoAsks$Tokens" (51 : Nat)) "java/lang/String" "value" "[B") (Jvm.Term.int (4 : Int32))) (Jvm.Term.int (101 : Int32))).before args s = true := (k_andl (k_andr (k_andr (k_andl (k_andl (k_andr (k_andl (k_andl (k_andr h)))))))))
theorem nf41 {args : Array Value} {s : State} (h : (Jvm.Cond.and given_1 narrow_1).before args s = true) : (Jvm.Cond.not (Jvm.Cond.eq (Jvm.Term.string "TwoAsks$Tokens" (45 : Nat)) (Jvm.Term.string "TwoAsks$Tokens" (51 : Nat)))).before args s = true := (k_andr (k_andr (k_andr (k_andl (k_andl (k_andr (k_andl (k_andl (k_andr h)))))))))
theorem nf42 {args : Array Value} {s : State} (h : (Jvm.Cond.and given_1 narrow_1).before args s = true) : (Jvm.Cond.not (Jvm.Cond.eq (Jvm.Term.string "TwoAsks$Tokens" (47 : Nat)) (Jvm.Term.string "TwoAsks$Tokens" (51 : Nat)))).before args s = true := (k_andl (k_andl (k_andl (k_andr (k_andl (k_andr (k_andl (k_andl (k_andr h)))))))))
theorem nf43 {args : Array Value} {s : State} (h : (Jvm.Cond.and given_1 narrow_1).before args s = true) : (Jvm.Cond.not (Jvm.Cond.eq (Jvm.Term.string "TwoAsks$Tokens" (49 : Nat)) (Jvm.Term.string "TwoAsks$Tokens" (51 : Nat)))).before args s = true := (k_andr (k_andl (k_andl (k_andr (k_andl (k_andr (k_andl (k_andl (k_andr h)))))))))
theorem nf44 {args : Array Value} {s : State} (h : (Jvm.Cond.and given_1 narrow_1).before args s = true) : (Jvm.Cond.exactly (Jvm.Term.string "TwoAsks$Tokens" (53 : Nat)) "java/lang/String").before args s = true := (k_andl (k_andr (k_andl (k_andr (k_andl (k_andr (k_andl (k_andl (k_andr h)))))))))
theorem nf45 {args : Array Value} {s : State} (h : (Jvm.Cond.and given_1 narrow_1).before args s = true) : (Jvm.Cond.eq (Jvm.Term.field (Jvm.Term.string "TwoAsks$Tokens" (53 : Nat)) "java/lang/String" "coder" "B") (Jvm.Term.int (0 : Int32))).before args s = true := (k_andr (k_andr (k_andl (k_andr (k_andl (k_andr (k_andl (k_andl (k_andr h)))))))))
theorem nf46 {args : Array Value} {s : State} (h : (Jvm.Cond.and given_1 narrow_1).before args s = true) : (Jvm.Cond.arrayOf (Jvm.Term.field (Jvm.Term.string "TwoAsks$Tokens" (53 : Nat)) "java/lang/String" "value" "[B") Jvm.ClassFile.FieldType.byte).before args s = true := (k_andl (k_andl (k_andr (k_andr (k_andl (k_andr (k_andl (k_andl (k_andr h)))))))))
theorem nf47 {args : Array Value} {s : State} (h : (Jvm.Cond.and given_1 narrow_1).before args s = true) : (Jvm.Cond.eq (Jvm.Term.length (Jvm.Term.field (Jvm.Term.string "TwoAsks$Tokens" (53 : Nat)) "java/lang/String" "value" "[B")) (Jvm.Term.int (5 : Int32))).before args s = true := (k_andr (k_andl (k_andr (k_andr (k_andl (k_andr (k_andl (k_andl (k_andr h)))))))))
theorem nf48 {args : Array Value} {s : State} (h : (Jvm.Cond.and given_1 narrow_1).before args s = true) : (Jvm.Cond.eq (Jvm.Term.elem (Jvm.Term.field (Jvm.Term.string "TwoAsks$Tokens" (53 : Nat)) "java/lang/String" "value" "[B") (Jvm.Term.int (0 : Int32))) (Jvm.Term.int (115 : Int32))).before args s = true := (k_andl (k_andr (k_andr (k_andr (k_andl (k_andr (k_andl (k_andl (k_andr h)))))))))
theorem nf49 {args : Array Value} {s : State} (h : (Jvm.Cond.and given_1 narrow_1).before args s = true) : (Jvm.Cond.eq (Jvm.Term.elem (Jvm.Term.field (Jvm.Term.string "TwoAsks$Tokens" (53 : Nat)) "java/lang/String" "value" "[B") (Jvm.Term.int (1 : Int32))) (Jvm.Term.int (104 : Int32))).before args s = true := (k_andl (k_andr (k_andr (k_andr (k_andr (k_andl (k_andr (k_andl (k_andl (k_andr h))))))))))
theorem nf50 {args : Array Value} {s : State} (h : (Jvm.Cond.and given_1 narrow_1).before args s = true) : (Jvm.Cond.eq (Jvm.Term.elem (Jvm.Term.field (Jvm.Term.string "TwoAsks$Tokens" (53 : Nat)) "java/lang/String" "value" "[B") (Jvm.Term.int (2 : Int32))) (Jvm.Term.int (97 : Int32))).before args s = true := (k_andr (k_andr (k_andr (k_andr (k_andr (k_andl (k_andr (k_andl (k_andl (k_andr h))))))))))
theorem nf51 {args : Array Value} {s : State} (h : (Jvm.Cond.and given_1 narrow_1).before args s = true) : (Jvm.Cond.eq (Jvm.Term.elem (Jvm.Term.field (Jvm.Term.string "TwoAsks$Tokens" (53 : Nat)) "java/lang/String" "value" "[B") (Jvm.Term.int (3 : Int32))) (Jvm.Term.int (114 : Int32))).before args s = true := (k_andl (k_andl (k_andl (k_andl (k_andr (k_andr (k_andl (k_andl (k_andr h)))))))))
theorem nf52 {args : Array Value} {s : State} (h : (Jvm.Cond.and given_1 narrow_1).before args s = true) : (Jvm.Cond.eq (Jvm.Term.elem (Jvm.Term.field (Jvm.Term.string "TwoAsks$Tokens" (53 : Nat)) "java/lang/String" "value" "[B") (Jvm.Term.int (4 : Int32))) (Jvm.Term.int (101 : Int32))).before args s = true := (k_andr (k_andl (k_andl (k_andl (k_andr (k_andr (k_andl (k_andl (k_andr h)))))))))
theorem nf53 {args : Array Value} {s : State} (h : (Jvm.Cond.and given_1 narrow_1).before args s = true) : (Jvm.Cond.not (Jvm.Cond.eq (Jvm.Term.string "TwoAsks$Tokens" (45 : Nat)) (Jvm.Term.string "TwoAsks$Tokens" (53 : Nat)))).before args s = true := (k_andl (k_andr (k_andl (k_andl (k_andr (k_andr (k_andl (k_andl (k_andr h)))))))))
theorem nf54 {args : Array Value} {s : State} (h : (Jvm.Cond.and given_1 narrow_1).before args s = true) : (Jvm.Cond.not (Jvm.Cond.eq (Jvm.Term.string "TwoAsks$Tokens" (47 : Nat)) (Jvm.Term.string "TwoAsks$Tokens" (53 : Nat)))).before args s = true := (k_andr (k_andr (k_andl (k_andl (k_andr (k_andr (k_andl (k_andl (k_andr h)))))))))
theorem nf55 {args : Array Value} {s : State} (h : (Jvm.Cond.and given_1 narrow_1).before args s = true) : (Jvm.Cond.not (Jvm.Cond.eq (Jvm.Term.string "TwoAsks$Tokens" (49 : Nat)) (Jvm.Term.string "TwoAsks$Tokens" (53 : Nat)))).before args s = true := (k_andl (k_andl (k_andr (k_andl (k_andr (k_andr (k_andl (k_andl (k_andr h)))))))))
theorem nf56 {args : Array Value} {s : State} (h : (Jvm.Cond.and given_1 narrow_1).before args s = true) : (Jvm.Cond.not (Jvm.Cond.eq (Jvm.Term.string "TwoAsks$Tokens" (51 : Nat)) (Jvm.Term.string "TwoAsks$Tokens" (53 : Nat)))).before args s = true := (k_andr (k_andl (k_andr (k_andl (k_andr (k_andr (k_andl (k_andl (k_andr h)))))))))
theorem nf57 {args : Array Value} {s : State} (h : (Jvm.Cond.and given_1 narrow_1).before args s = true) : (Jvm.Cond.exactly (Jvm.Term.string "TwoAsks$Tokens" (55 : Nat)) "java/lang/String").before args s = true := (k_andl (k_andr (k_andr (k_andl (k_andr (k_andr (k_andl (k_andl (k_andr h)))))))))
theorem nf58 {args : Array Value} {s : State} (h : (Jvm.Cond.and given_1 narrow_1).before args s = true) : (Jvm.Cond.eq (Jvm.Term.field (Jvm.Term.string "TwoAsks$Tokens" (55 : Nat)) "java/lang/String" "coder" "B") (Jvm.Term.int (0 : Int32))).before args s = true := (k_andl (k_andr (k_andr (k_andr (k_andl (k_andr (k_andr (k_andl (k_andl (k_andr h))))))))))
theorem nf59 {args : Array Value} {s : State} (h : (Jvm.Cond.and given_1 narrow_1).before args s = true) : (Jvm.Cond.arrayOf (Jvm.Term.field (Jvm.Term.string "TwoAsks$Tokens" (55 : Nat)) "java/lang/String" "value" "[B") Jvm.ClassFile.FieldType.byte).before args s = true := (k_andr (k_andr (k_andr (k_andr (k_andl (k_andr (k_andr (k_andl (k_andl (k_andr h))))))))))
theorem nf60 {args : Array Value} {s : State} (h : (Jvm.Cond.and given_1 narrow_1).before args s = true) : (Jvm.Cond.eq (Jvm.Term.length (Jvm.Term.field (Jvm.Term.string "TwoAsks$Tokens" (55 : Nat)) "java/lang/String" "value" "[B")) (Jvm.Term.int (3 : Int32))).before args s = true := (k_andl (k_andl (k_andl (k_andr (k_andr (k_andr (k_andl (k_andl (k_andr h)))))))))
theorem nf61 {args : Array Value} {s : State} (h : (Jvm.Cond.and given_1 narrow_1).before args s = true) : (Jvm.Cond.eq (Jvm.Term.elem (Jvm.Term.field (Jvm.Term.string "TwoAsks$Tokens" (55 : Nat)) "java/lang/String" "value" "[B") (Jvm.Term.int (0 : Int32))) (Jvm.Term.int (98 : Int32))).before args s = true := (k_andr (k_andl (k_andl (k_andr (k_andr (k_andr (k_andl (k_andl (k_andr h)))))))))
theorem nf62 {args : Array Value} {s : State} (h : (Jvm.Cond.and given_1 narrow_1).before args s = true) : (Jvm.Cond.eq (Jvm.Term.elem (Jvm.Term.field (Jvm.Term.string "TwoAsks$Tokens" (55 : Nat)) "java/lang/String" "value" "[B") (Jvm.Term.int (1 : Int32))) (Jvm.Term.int (97 : Int32))).before args s = true := (k_andl (k_andr (k_andl (k_andr (k_andr (k_andr (k_andl (k_andl (k_andr h)))))))))
theorem nf63 {args : Array Value} {s : State} (h : (Jvm.Cond.and given_1 narrow_1).before args s = true) : (Jvm.Cond.eq (Jvm.Term.elem (Jvm.Term.field (Jvm.Term.string "TwoAsks$Tokens" (55 : Nat)) "java/lang/String" "value" "[B") (Jvm.Term.int (2 : Int32))) (Jvm.Term.int (103 : Int32))).before args s = true := (k_andr (k_andr (k_andl (k_andr (k_andr (k_andr (k_andl (k_andl (k_andr h)))))))))
theorem nf64 {args : Array Value} {s : State} (h : (Jvm.Cond.and given_1 narrow_1).before args s = true) : (Jvm.Cond.not (Jvm.Cond.eq (Jvm.Term.string "TwoAsks$Tokens" (45 : Nat)) (Jvm.Term.string "TwoAsks$Tokens" (55 : Nat)))).before args s = true := (k_andl (k_andl (k_andr (k_andr (k_andr (k_andr (k_andl (k_andl (k_andr h)))))))))
theorem nf65 {args : Array Value} {s : State} (h : (Jvm.Cond.and given_1 narrow_1).before args s = true) : (Jvm.Cond.not (Jvm.Cond.eq (Jvm.Term.string "TwoAsks$Tokens" (47 : Nat)) (Jvm.Term.string "TwoAsks$Tokens" (55 : Nat)))).before args s = true := (k_andr (k_andl (k_andr (k_andr (k_andr (k_andr (k_andl (k_andl (k_andr h)))))))))
theorem nf66 {args : Array Value} {s : State} (h : (Jvm.Cond.and given_1 narrow_1).before args s = true) : (Jvm.Cond.not (Jvm.Cond.eq (Jvm.Term.string "TwoAsks$Tokens" (49 : Nat)) (Jvm.Term.string "TwoAsks$Tokens" (55 : Nat)))).before args s = true := (k_andl (k_andr (k_andr (k_andr (k_andr (k_andr (k_andl (k_andl (k_andr h)))))))))
theorem nf67 {args : Array Value} {s : State} (h : (Jvm.Cond.and given_1 narrow_1).before args s = true) : (Jvm.Cond.not (Jvm.Cond.eq (Jvm.Term.string "TwoAsks$Tokens" (51 : Nat)) (Jvm.Term.string "TwoAsks$Tokens" (55 : Nat)))).before args s = true := (k_andl (k_andr (k_andr (k_andr (k_andr (k_andr (k_andr (k_andl (k_andl (k_andr h))))))))))
theorem nf68 {args : Array Value} {s : State} (h : (Jvm.Cond.and given_1 narrow_1).before args s = true) : (Jvm.Cond.not (Jvm.Cond.eq (Jvm.Term.string "TwoAsks$Tokens" (53 : Nat)) (Jvm.Term.string "TwoAsks$Tokens" (55 : Nat)))).before args s = true := (k_andr (k_andr (k_andr (k_andr (k_andr (k_andr (k_andr (k_andl (k_andl (k_andr h))))))))))
theorem nf69 {args : Array Value} {s : State} (h : (Jvm.Cond.and given_1 narrow_1).before args s = true) : (Jvm.Cond.exactly (Jvm.Term.string "TwoAsks$Tokens" (57 : Nat)) "java/lang/String").before args s = true := (k_andl (k_andl (k_andl (k_andl (k_andl (k_andl (k_andr (k_andl (k_andr h)))))))))
theorem nf70 {args : Array Value} {s : State} (h : (Jvm.Cond.and given_1 narrow_1).before args s = true) : (Jvm.Cond.eq (Jvm.Term.field (Jvm.Term.string "TwoAsks$Tokens" (57 : Nat)) "java/lang/String" "coder" "B") (Jvm.Term.int (0 : Int32))).before args s = true := (k_andr (k_andl (k_andl (k_andl (k_andl (k_andl (k_andr (k_andl (k_andr h)))))))))
theorem nf71 {args : Array Value} {s : State} (h : (Jvm.Cond.and given_1 narrow_1).before args s = true) : (Jvm.Cond.arrayOf (Jvm.Term.field (Jvm.Term.string "TwoAsks$Tokens" (57 : Nat)) "java/lang/String" "value" "[B") Jvm.ClassFile.FieldType.byte).before args s = true := (k_andl (k_andr (k_andl (k_andl (k_andl (k_andl (k_andr (k_andl (k_andr h)))))))))
theorem nf72 {args : Array Value} {s : State} (h : (Jvm.Cond.and given_1 narrow_1).before args s = true) : (Jvm.Cond.eq (Jvm.Term.length (Jvm.Term.field (Jvm.Term.string "TwoAsks$Tokens" (57 : Nat)) "java/lang/String" "value" "[B")) (Jvm.Term.int (5 : Int32))).before args s = true := (k_andr (k_andr (k_andl (k_andl (k_andl (k_andl (k_andr (k_andl (k_andr h)))))))))
theorem nf73 {args : Array Value} {s : State} (h : (Jvm.Cond.and given_1 narrow_1).before args s = true) : (Jvm.Cond.eq (Jvm.Term.elem (Jvm.Term.field (Jvm.Term.string "TwoAsks$Tokens" (57 : Nat)) "java/lang/String" "value" "[B") (Jvm.Term.int (0 : Int32))) (Jvm.Term.int (98 : Int32))).before args s = true := (k_andl (k_andl (k_andr (k_andl (k_andl (k_andl (k_andr (k_andl (k_andr h)))))))))
theorem nf74 {args : Array Value} {s : State} (h : (Jvm.Cond.and given_1 narrow_1).before args s = true) : (Jvm.Cond.eq (Jvm.Term.elem (Jvm.Term.field (Jvm.Term.string "TwoAsks$Tokens" (57 : Nat)) "java/lang/String" "value" "[B") (Jvm.Term.int (1 : Int32))) (Jvm.Term.int (111 : Int32))).before args s = true := (k_andr (k_andl (k_andr (k_andl (k_andl (k_andl (k_andr (k_andl (k_andr h)))))))))
theorem nf75 {args : Array Value} {s : State} (h : (Jvm.Cond.and given_1 narrow_1).before args s = true) : (Jvm.Cond.eq (Jvm.Term.elem (Jvm.Term.field (Jvm.Term.string "TwoAsks$Tokens" (57 : Nat)) "java/lang/String" "value" "[B") (Jvm.Term.int (2 : Int32))) (Jvm.Term.int (117 : Int32))).before args s = true := (k_andl (k_andr (k_andr (k_andl (k_andl (k_andl (k_andr (k_andl (k_andr h)))))))))
theorem nf76 {args : Array Value} {s : State} (h : (Jvm.Cond.and given_1 narrow_1).before args s = true) : (Jvm.Cond.eq (Jvm.Term.elem (Jvm.Term.field (Jvm.Term.string "TwoAsks$Tokens" (57 : Nat)) "java/lang/String" "value" "[B") (Jvm.Term.int (3 : Int32))) (Jvm.Term.int (110 : Int32))).before args s = true := (k_andr (k_andr (k_andr (k_andl (k_andl (k_andl (k_andr (k_andl (k_andr h)))))))))
theorem nf77 {args : Array Value} {s : State} (h : (Jvm.Cond.and given_1 narrow_1).before args s = true) : (Jvm.Cond.eq (Jvm.Term.elem (Jvm.Term.field (Jvm.Term.string "TwoAsks$Tokens" (57 : Nat)) "java/lang/String" "value" "[B") (Jvm.Term.int (4 : Int32))) (Jvm.Term.int (100 : Int32))).before args s = true := (k_andl (k_andl (k_andl (k_andr (k_andl (k_andl (k_andr (k_andl (k_andr h)))))))))
theorem nf78 {args : Array Value} {s : State} (h : (Jvm.Cond.and given_1 narrow_1).before args s = true) : (Jvm.Cond.not (Jvm.Cond.eq (Jvm.Term.string "TwoAsks$Tokens" (45 : Nat)) (Jvm.Term.string "TwoAsks$Tokens" (57 : Nat)))).before args s = true := (k_andr (k_andl (k_andl (k_andr (k_andl (k_andl (k_andr (k_andl (k_andr h)))))))))
theorem nf79 {args : Array Value} {s : State} (h : (Jvm.Cond.and given_1 narrow_1).before args s = true) : (Jvm.Cond.not (Jvm.Cond.eq (Jvm.Term.string "TwoAsks$Tokens" (47 : Nat)) (Jvm.Term.string "TwoAsks$Tokens" (57 : Nat)))).before args s = true := (k_andl (k_andr (k_andl (k_andr (k_andl (k_andl (k_andr (k_andl (k_andr h)))))))))
theorem nf80 {args : Array Value} {s : State} (h : (Jvm.Cond.and given_1 narrow_1).before args s = true) : (Jvm.Cond.not (Jvm.Cond.eq (Jvm.Term.string "TwoAsks$Tokens" (49 : Nat)) (Jvm.Term.string "TwoAsks$Tokens" (57 : Nat)))).before args s = true := (k_andr (k_andr (k_andl (k_andr (k_andl (k_andl (k_andr (k_andl (k_andr h)))))))))
theorem nf81 {args : Array Value} {s : State} (h : (Jvm.Cond.and given_1 narrow_1).before args s = true) : (Jvm.Cond.not (Jvm.Cond.eq (Jvm.Term.string "TwoAsks$Tokens" (51 : Nat)) (Jvm.Term.string "TwoAsks$Tokens" (57 : Nat)))).before args s = true := (k_andl (k_andl (k_andr (k_andr (k_andl (k_andl (k_andr (k_andl (k_andr h)))))))))
theorem nf82 {args : Array Value} {s : State} (h : (Jvm.Cond.and given_1 narrow_1).before args s = true) : (Jvm.Cond.not (Jvm.Cond.eq (Jvm.Term.string "TwoAsks$Tokens" (53 : Nat)) (Jvm.Term.string "TwoAsks$Tokens" (57 : Nat)))).before args s = true := (k_andr (k_andl (k_andr (k_andr (k_andl (k_andl (k_andr (k_andl (k_andr h)))))))))
theorem nf83 {args : Array Value} {s : State} (h : (Jvm.Cond.and given_1 narrow_1).before args s = true) : (Jvm.Cond.not (Jvm.Cond.eq (Jvm.Term.string "TwoAsks$Tokens" (55 : Nat)) (Jvm.Term.string "TwoAsks$Tokens" (57 : Nat)))).before args s = true := (k_andl (k_andr (k_andr (k_andr (k_andl (k_andl (k_andr (k_andl (k_andr h)))))))))
theorem nf84 {args : Array Value} {s : State} (h : (Jvm.Cond.and given_1 narrow_1).before args s = true) : (Jvm.Cond.exactly (Jvm.Term.string "TwoAsks$Tokens" (59 : Nat)) "java/lang/String").before args s = true := (k_andl (k_andr (k_andr (k_andr (k_andr (k_andl (k_andl (k_andr (k_andl (k_andr h))))))))))
theorem nf85 {args : Array Value} {s : State} (h : (Jvm.Cond.and given_1 narrow_1).before args s = true) : (Jvm.Cond.eq (Jvm.Term.field (Jvm.Term.string "TwoAsks$Tokens" (59 : Nat)) "java/lang/String" "coder" "B") (Jvm.Term.int (0 : Int32))).before args s = true := (k_andr (k_andr (k_andr (k_andr (k_andr (k_andl (k_andl (k_andr (k_andl (k_andr h))))))))))
theorem nf86 {args : Array Value} {s : State} (h : (Jvm.Cond.and given_1 narrow_1).before args s = true) : (Jvm.Cond.arrayOf (Jvm.Term.field (Jvm.Term.string "TwoAsks$Tokens" (59 : Nat)) "java/lang/String" "value" "[B") Jvm.ClassFile.FieldType.byte).before args s = true := (k_andl (k_andl (k_andl (k_andl (k_andr (k_andl (k_andr (k_andl (k_andr h)))))))))
theorem nf87 {args : Array Value} {s : State} (h : (Jvm.Cond.and given_1 narrow_1).before args s = true) : (Jvm.Cond.eq (Jvm.Term.length (Jvm.Term.field (Jvm.Term.string "TwoAsks$Tokens" (59 : Nat)) "java/lang/String" "value" "[B")) (Jvm.Term.int (4 : Int32))).before args s = true := (k_andr (k_andl (k_andl (k_andl (k_andr (k_andl (k_andr (k_andl (k_andr h)))))))))
theorem nf88 {args : Array Value} {s : State} (h : (Jvm.Cond.and given_1 narrow_1).before args s = true) : (Jvm.Cond.eq (Jvm.Term.elem (Jvm.Term.field (Jvm.Term.string "TwoAsks$Tokens" (59 : Nat)) "java/lang/String" "value" "[B") (Jvm.Term.int (0 : Int32))) (Jvm.Term.int (108 : Int32))).before args s = true := (k_andl (k_andr (k_andl (k_andl (k_andr (k_andl (k_andr (k_andl (k_andr h)))))))))
theorem nf89 {args : Array Value} {s : State} (h : (Jvm.Cond.and given_1 narrow_1).before args s = true) : (Jvm.Cond.eq (Jvm.Term.elem (Jvm.Term.field (Jvm.Term.string "TwoAsks$Tokens" (59 : Nat)) "java/lang/String" "value" "[B") (Jvm.Term.int (1 : Int32))) (Jvm.Term.int (105 : Int32))).before args s = true := (k_andr (k_andr (k_andl (k_andl (k_andr (k_andl (k_andr (k_andl (k_andr h)))))))))
theorem nf90 {args : Array Value} {s : State} (h : (Jvm.Cond.and given_1 narrow_1).before args s = true) : (Jvm.Cond.eq (Jvm.Term.elem (Jvm.Term.field (Jvm.Term.string "TwoAsks$Tokens" (59 : Nat)) "java/lang/String" "value" "[B") (Jvm.Term.int (2 : Int32))) (Jvm.Term.int (97 : Int32))).before args s = true := (k_andl (k_andl (k_andr (k_andl (k_andr (k_andl (k_andr (k_andl (k_andr h)))))))))
theorem nf91 {args : Array Value} {s : State} (h : (Jvm.Cond.and given_1 narrow_1).before args s = true) : (Jvm.Cond.eq (Jvm.Term.elem (Jvm.Term.field (Jvm.Term.string "TwoAsks$Tokens" (59 : Nat)) "java/lang/String" "value" "[B") (Jvm.Term.int (3 : Int32))) (Jvm.Term.int (114 : Int32))).before args s = true := (k_andr (k_andl (k_andr (k_andl (k_andr (k_andl (k_andr (k_andl (k_andr h)))))))))
theorem nf92 {args : Array Value} {s : State} (h : (Jvm.Cond.and given_1 narrow_1).before args s = true) : (Jvm.Cond.not (Jvm.Cond.eq (Jvm.Term.string "TwoAsks$Tokens" (45 : Nat)) (Jvm.Term.string "TwoAsks$Tokens" (59 : Nat)))).before args s = true := (k_andl (k_andr (k_andr (k_andl (k_andr (k_andl (k_andr (k_andl (k_andr h)))))))))
theorem nf93 {args : Array Value} {s : State} (h : (Jvm.Cond.and given_1 narrow_1).before args s = true) : (Jvm.Cond.not (Jvm.Cond.eq (Jvm.Term.string "TwoAsks$Tokens" (47 : Nat)) (Jvm.Term.string "TwoAsks$Tokens" (59 : Nat)))).before args s = true := (k_andl (k_andr (k_andr (k_andr (k_andl (k_andr (k_andl (k_andr (k_andl (k_andr h))))))))))
theorem nf94 {args : Array Value} {s : State} (h : (Jvm.Cond.and given_1 narrow_1).before args s = true) : (Jvm.Cond.not (Jvm.Cond.eq (Jvm.Term.string "TwoAsks$Tokens" (49 : Nat)) (Jvm.Term.string "TwoAsks$Tokens" (59 : Nat)))).before args s = true := (k_andr (k_andr (k_andr (k_andr (k_andl (k_andr (k_andl (k_andr (k_andl (k_andr h))))))))))
theorem nf95 {args : Array Value} {s : State} (h : (Jvm.Cond.and given_1 narrow_1).before args s = true) : (Jvm.Cond.not (Jvm.Cond.eq (Jvm.Term.string "TwoAsks$Tokens" (51 : Nat)) (Jvm.Term.string "TwoAsks$Tokens" (59 : Nat)))).before args s = true := (k_andl (k_andl (k_andl (k_andr (k_andr (k_andl (k_andr (k_andl (k_andr h)))))))))
theorem nf96 {args : Array Value} {s : State} (h : (Jvm.Cond.and given_1 narrow_1).before args s = true) : (Jvm.Cond.not (Jvm.Cond.eq (Jvm.Term.string "TwoAsks$Tokens" (53 : Nat)) (Jvm.Term.string "TwoAsks$Tokens" (59 : Nat)))).before args s = true := (k_andr (k_andl (k_andl (k_andr (k_andr (k_andl (k_andr (k_andl (k_andr h)))))))))
theorem nf97 {args : Array Value} {s : State} (h : (Jvm.Cond.and given_1 narrow_1).before args s = true) : (Jvm.Cond.not (Jvm.Cond.eq (Jvm.Term.string "TwoAsks$Tokens" (55 : Nat)) (Jvm.Term.string "TwoAsks$Tokens" (59 : Nat)))).before args s = true := (k_andl (k_andr (k_andl (k_andr (k_andr (k_andl (k_andr (k_andl (k_andr h)))))))))
theorem nf98 {args : Array Value} {s : State} (h : (Jvm.Cond.and given_1 narrow_1).before args s = true) : (Jvm.Cond.not (Jvm.Cond.eq (Jvm.Term.string "TwoAsks$Tokens" (57 : Nat)) (Jvm.Term.string "TwoAsks$Tokens" (59 : Nat)))).before args s = true := (k_andr (k_andr (k_andl (k_andr (k_andr (k_andl (k_andr (k_andl (k_andr h)))))))))
theorem nf99 {args : Array Value} {s : State} (h : (Jvm.Cond.and given_1 narrow_1).before args s = true) : (Jvm.Cond.exactly (Jvm.Term.string "TwoAsks$Tokens" (61 : Nat)) "java/lang/String").before args s = true := (k_andl (k_andl (k_andr (k_andr (k_andr (k_andl (k_andr (k_andl (k_andr h)))))))))
theorem nf100 {args : Array Value} {s : State} (h : (Jvm.Cond.and given_1 narrow_1).before args s = true) : (Jvm.Cond.eq (Jvm.Term.field (Jvm.Term.string "TwoAsks$Tokens" (61 : Nat)) "java/lang/String" "coder" "B") (Jvm.Term.int (0 : Int32))).before args s = true := (k_andr (k_andl (k_andr (k_andr (k_andr (k_andl (k_andr (k_andl (k_andr h)))))))))
theorem nf101 {args : Array Value} {s : State} (h : (Jvm.Cond.and given_1 narrow_1).before args s = true) : (Jvm.Cond.arrayOf (Jvm.Term.field (Jvm.Term.string "TwoAsks$Tokens" (61 : Nat)) "java/lang/String" "value" "[B") Jvm.ClassFile.FieldType.byte).before args s = true := (k_andl (k_andr (k_andr (k_andr (k_andr (k_andl (k_andr (k_andl (k_andr h)))))))))
theorem nf102 {args : Array Value} {s : State} (h : (Jvm.Cond.and given_1 narrow_1).before args s = true) : (Jvm.Cond.eq (Jvm.Term.length (Jvm.Term.field (Jvm.Term.string "TwoAsks$Tokens" (61 : Nat)) "java/lang/String" "value" "[B")) (Jvm.Term.int (2 : Int32))).before args s = true := (k_andl (k_andr (k_andr (k_andr (k_andr (k_andr (k_andl (k_andr (k_andl (k_andr h))))))))))
theorem nf103 {args : Array Value} {s : State} (h : (Jvm.Cond.and given_1 narrow_1).before args s = true) : (Jvm.Cond.eq (Jvm.Term.elem (Jvm.Term.field (Jvm.Term.string "TwoAsks$Tokens" (61 : Nat)) "java/lang/String" "value" "[B") (Jvm.Term.int (0 : Int32))) (Jvm.Term.int (105 : Int32))).before args s = true := (k_andr (k_andr (k_andr (k_andr (k_andr (k_andr (k_andl (k_andr (k_andl (k_andr h))))))))))
theorem nf104 {args : Array Value} {s : State} (h : (Jvm.Cond.and given_1 narrow_1).before args s = true) : (Jvm.Cond.eq (Jvm.Term.elem (Jvm.Term.field (Jvm.Term.string "TwoAsks$Tokens" (61 : Nat)) "java/lang/String" "value" "[B") (Jvm.Term.int (1 : Int32))) (Jvm.Term.int (102 : Int32))).before args s = true := (k_andl (k_andl (k_andl (k_andl (k_andl (k_andr (k_andr (k_andl (k_andr h)))))))))
theorem nf105 {args : Array Value} {s : State} (h : (Jvm.Cond.and given_1 narrow_1).before args s = true) : (Jvm.Cond.not (Jvm.Cond.eq (Jvm.Term.string "TwoAsks$Tokens" (45 : Nat)) (Jvm.Term.string "TwoAsks$Tokens" (61 : Nat)))).before args s = true := (k_andr (k_andl (k_andl (k_andl (k_andl (k_andr (k_andr (k_andl (k_andr h)))))))))
theorem nf106 {args : Array Value} {s : State} (h : (Jvm.Cond.and given_1 narrow_1).before args s = true) : (Jvm.Cond.not (Jvm.Cond.eq (Jvm.Term.string "TwoAsks$Tokens" (47 : Nat)) (Jvm.Term.string "TwoAsks$Tokens" (61 : Nat)))).before args s = true := (k_andl (k_andr (k_andl (k_andl (k_andl (k_andr (k_andr (k_andl (k_andr h)))))))))
theorem nf107 {args : Array Value} {s : State} (h : (Jvm.Cond.and given_1 narrow_1).before args s = true) : (Jvm.Cond.not (Jvm.Cond.eq (Jvm.Term.string "TwoAsks$Tokens" (49 : Nat)) (Jvm.Term.string "TwoAsks$Tokens" (61 : Nat)))).before args s = true := (k_andr (k_andr (k_andl (k_andl (k_andl (k_andr (k_andr (k_andl (k_andr h)))))))))
theorem nf108 {args : Array Value} {s : State} (h : (Jvm.Cond.and given_1 narrow_1).before args s = true) : (Jvm.Cond.not (Jvm.Cond.eq (Jvm.Term.string "TwoAsks$Tokens" (51 : Nat)) (Jvm.Term.string "TwoAsks$Tokens" (61 : Nat)))).before args s = true := (k_andl (k_andl (k_andr (k_andl (k_andl (k_andr (k_andr (k_andl (k_andr h)))))))))
theorem nf109 {args : Array Value} {s : State} (h : (Jvm.Cond.and given_1 narrow_1).before args s = true) : (Jvm.Cond.not (Jvm.Cond.eq (Jvm.Term.string "TwoAsks$Tokens" (53 : Nat)) (Jvm.Term.string "TwoAsks$Tokens" (61 : Nat)))).before args s = true := (k_andr (k_andl (k_andr (k_andl (k_andl (k_andr (k_andr (k_andl (k_andr h)))))))))
theorem nf110 {args : Array Value} {s : State} (h : (Jvm.Cond.and given_1 narrow_1).before args s = true) : (Jvm.Cond.not (Jvm.Cond.eq (Jvm.Term.string "TwoAsks$Tokens" (55 : Nat)) (Jvm.Term.string "TwoAsks$Tokens" (61 : Nat)))).before args s = true := (k_andl (k_andr (k_andr (k_andl (k_andl (k_andr (k_andr (k_andl (k_andr h)))))))))
theorem nf111 {args : Array Value} {s : State} (h : (Jvm.Cond.and given_1 narrow_1).before args s = true) : (Jvm.Cond.not (Jvm.Cond.eq (Jvm.Term.string "TwoAsks$Tokens" (57 : Nat)) (Jvm.Term.string "TwoAsks$Tokens" (61 : Nat)))).before args s = true := (k_andr (k_andr (k_andr (k_andl (k_andl (k_andr (k_andr (k_andl (k_andr h)))))))))
theorem nf112 {args : Array Value} {s : State} (h : (Jvm.Cond.and given_1 narrow_1).before args s = true) : (Jvm.Cond.not (Jvm.Cond.eq (Jvm.Term.string "TwoAsks$Tokens" (59 : Nat)) (Jvm.Term.string "TwoAsks$Tokens" (61 : Nat)))).before args s = true := (k_andl (k_andl (k_andl (k_andr (k_andl (k_andr (k_andr (k_andl (k_andr h)))))))))
theorem nf113 {args : Array Value} {s : State} (h : (Jvm.Cond.and given_1 narrow_1).before args s = true) : (Jvm.Cond.exactly (Jvm.Term.string "TwoAsks$Tokens" (63 : Nat)) "java/lang/String").before args s = true := (k_andr (k_andl (k_andl (k_andr (k_andl (k_andr (k_andr (k_andl (k_andr h)))))))))
theorem nf114 {args : Array Value} {s : State} (h : (Jvm.Cond.and given_1 narrow_1).before args s = true) : (Jvm.Cond.eq (Jvm.Term.field (Jvm.Term.string "TwoAsks$Tokens" (63 : Nat)) "java/lang/String" "coder" "B") (Jvm.Term.int (0 : Int32))).before args s = true := (k_andl (k_andr (k_andl (k_andr (k_andl (k_andr (k_andr (k_andl (k_andr h)))))))))
theorem nf115 {args : Array Value} {s : State} (h : (Jvm.Cond.and given_1 narrow_1).before args s = true) : (Jvm.Cond.arrayOf (Jvm.Term.field (Jvm.Term.string "TwoAsks$Tokens" (63 : Nat)) "java/lang/String" "value" "[B") Jvm.ClassFile.FieldType.byte).before args s = true := (k_andr (k_andr (k_andl (k_andr (k_andl (k_andr (k_andr (k_andl (k_andr h)))))))))
theorem nf116 {args : Array Value} {s : State} (h : (Jvm.Cond.and given_1 narrow_1).before args s = true) : (Jvm.Cond.eq (Jvm.Term.length (Jvm.Term.field (Jvm.Term.string "TwoAsks$Tokens" (63 : Nat)) "java/lang/String" "value" "[B")) (Jvm.Term.int (4 : Int32))).before args s = true := (k_andl (k_andl (k_andr (k_andr (k_andl (k_andr (k_andr (k_andl (k_andr h)))))))))
theorem nf117 {args : Array Value} {s : State} (h : (Jvm.Cond.and given_1 narrow_1).before args s = true) : (Jvm.Cond.eq (Jvm.Term.elem (Jvm.Term.field (Jvm.Term.string "TwoAsks$Tokens" (63 : Nat)) "java/lang/String" "value" "[B") (Jvm.Term.int (0 : Int32))) (Jvm.Term.int (116 : Int32))).before args s = true := (k_andr (k_andl (k_andr (k_andr (k_andl (k_andr (k_andr (k_andl (k_andr h)))))))))
theorem nf118 {args : Array Value} {s : State} (h : (Jvm.Cond.and given_1 narrow_1).before args s = true) : (Jvm.Cond.eq (Jvm.Term.elem (Jvm.Term.field (Jvm.Term.string "TwoAsks$Tokens" (63 : Nat)) "java/lang/String" "value" "[B") (Jvm.Term.int (1 : Int32))) (Jvm.Term.int (104 : Int32))).before args s = true := (k_andl (k_andr (k_andr (k_andr (k_andl (k_andr (k_andr (k_andl (k_andr h)))))))))
theorem nf119 {args : Array Value} {s : State} (h : (Jvm.Cond.and given_1 narrow_1).before args s = true) : (Jvm.Cond.eq (Jvm.Term.elem (Jvm.Term.field (Jvm.Term.string "TwoAsks$Tokens" (63 : Nat)) "java/lang/String" "value" "[B") (Jvm.Term.int (2 : Int32))) (Jvm.Term.int (101 : Int32))).before args s = true := (k_andl (k_andr (k_andr (k_andr (k_andr (k_andl (k_andr (k_andr (k_andl (k_andr h))))))))))
theorem nf120 {args : Array Value} {s : State} (h : (Jvm.Cond.and given_1 narrow_1).before args s = true) : (Jvm.Cond.eq (Jvm.Term.elem (Jvm.Term.field (Jvm.Term.string "TwoAsks$Tokens" (63 : Nat)) "java/lang/String" "value" "[B") (Jvm.Term.int (3 : Int32))) (Jvm.Term.int (110 : Int32))).before args s = true := (k_andr (k_andr (k_andr (k_andr (k_andr (k_andl (k_andr (k_andr (k_andl (k_andr h))))))))))
theorem nf121 {args : Array Value} {s : State} (h : (Jvm.Cond.and given_1 narrow_1).before args s = true) : (Jvm.Cond.not (Jvm.Cond.eq (Jvm.Term.string "TwoAsks$Tokens" (45 : Nat)) (Jvm.Term.string "TwoAsks$Tokens" (63 : Nat)))).before args s = true := (k_andl (k_andl (k_andl (k_andl (k_andr (k_andr (k_andr (k_andl (k_andr h)))))))))
theorem nf122 {args : Array Value} {s : State} (h : (Jvm.Cond.and given_1 narrow_1).before args s = true) : (Jvm.Cond.not (Jvm.Cond.eq (Jvm.Term.string "TwoAsks$Tokens" (47 : Nat)) (Jvm.Term.string "TwoAsks$Tokens" (63 : Nat)))).before args s = true := (k_andr (k_andl (k_andl (k_andl (k_andr (k_andr (k_andr (k_andl (k_andr h)))))))))
theorem nf123 {args : Array Value} {s : State} (h : (Jvm.Cond.and given_1 narrow_1).before args s = true) : (Jvm.Cond.not (Jvm.Cond.eq (Jvm.Term.string "TwoAsks$Tokens" (49 : Nat)) (Jvm.Term.string "TwoAsks$Tokens" (63 : Nat)))).before args s = true := (k_andl (k_andr (k_andl (k_andl (k_andr (k_andr (k_andr (k_andl (k_andr h)))))))))
theorem nf124 {args : Array Value} {s : State} (h : (Jvm.Cond.and given_1 narrow_1).before args s = true) : (Jvm.Cond.not (Jvm.Cond.eq (Jvm.Term.string "TwoAsks$Tokens" (51 : Nat)) (Jvm.Term.string "TwoAsks$Tokens" (63 : Nat)))).before args s = true := (k_andr (k_andr (k_andl (k_andl (k_andr (k_andr (k_andr (k_andl (k_andr h)))))))))
theorem nf125 {args : Array Value} {s : State} (h : (Jvm.Cond.and given_1 narrow_1).before args s = true) : (Jvm.Cond.not (Jvm.Cond.eq (Jvm.Term.string "TwoAsks$Tokens" (53 : Nat)) (Jvm.Term.string "TwoAsks$Tokens" (63 : Nat)))).before args s = true := (k_andl (k_andl (k_andr (k_andl (k_andr (k_andr (k_andr (k_andl (k_andr h)))))))))
theorem nf126 {args : Array Value} {s : State} (h : (Jvm.Cond.and given_1 narrow_1).before args s = true) : (Jvm.Cond.not (Jvm.Cond.eq (Jvm.Term.string "TwoAsks$Tokens" (55 : Nat)) (Jvm.Term.string "TwoAsks$Tokens" (63 : Nat)))).before args s = true := (k_andr (k_andl (k_andr (k_andl (k_andr (k_andr (k_andr (k_andl (k_andr h)))))))))
theorem nf127 {args : Array Value} {s : State} (h : (Jvm.Cond.and given_1 narrow_1).before args s = true) : (Jvm.Cond.not (Jvm.Cond.eq (Jvm.Term.string "TwoAsks$Tokens" (57 : Nat)) (Jvm.Term.string "TwoAsks$Tokens" (63 : Nat)))).before args s = true := (k_andl (k_andr (k_andr (k_andl (k_andr (k_andr (k_andr (k_andl (k_andr h)))))))))
theorem nf128 {args : Array Value} {s : State} (h : (Jvm.Cond.and given_1 narrow_1).before args s = true) : (Jvm.Cond.not (Jvm.Cond.eq (Jvm.Term.string "TwoAsks$Tokens" (59 : Nat)) (Jvm.Term.string "TwoAsks$Tokens" (63 : Nat)))).before args s = true := (k_andl (k_andr (k_andr (k_andr (k_andl (k_andr (k_andr (k_andr (k_andl (k_andr h))))))))))
theorem nf129 {args : Array Value} {s : State} (h : (Jvm.Cond.and given_1 narrow_1).before args s = true) : (Jvm.Cond.not (Jvm.Cond.eq (Jvm.Term.string "TwoAsks$Tokens" (61 : Nat)) (Jvm.Term.string "TwoAsks$Tokens" (63 : Nat)))).before args s = true := (k_andr (k_andr (k_andr (k_andr (k_andl (k_andr (k_andr (k_andr (k_andl (k_andr h))))))))))
theorem nf130 {args : Array Value} {s : State} (h : (Jvm.Cond.and given_1 narrow_1).before args s = true) : (Jvm.Cond.exactly (Jvm.Term.string "TwoAsks$Tokens" (65 : Nat)) "java/lang/String").before args s = true := (k_andl (k_andl (k_andl (k_andr (k_andr (k_andr (k_andr (k_andl (k_andr h)))))))))
theorem nf131 {args : Array Value} {s : State} (h : (Jvm.Cond.and given_1 narrow_1).before args s = true) : (Jvm.Cond.eq (Jvm.Term.field (Jvm.Term.string "TwoAsks$Tokens" (65 : Nat)) "java/lang/String" "coder" "B") (Jvm.Term.int (0 : Int32))).before args s = true := (k_andr (k_andl (k_andl (k_andr (k_andr (k_andr (k_andr (k_andl (k_andr h)))))))))
theorem nf132 {args : Array Value} {s : State} (h : (Jvm.Cond.and given_1 narrow_1).before args s = true) : (Jvm.Cond.arrayOf (Jvm.Term.field (Jvm.Term.string "TwoAsks$Tokens" (65 : Nat)) "java/lang/String" "value" "[B") Jvm.ClassFile.FieldType.byte).before args s = true := (k_andl (k_andr (k_andl (k_andr (k_andr (k_andr (k_andr (k_andl (k_andr h)))))))))
theorem nf133 {args : Array Value} {s : State} (h : (Jvm.Cond.and given_1 narrow_1).before args s = true) : (Jvm.Cond.eq (Jvm.Term.length (Jvm.Term.field (Jvm.Term.string "TwoAsks$Tokens" (65 : Nat)) "java/lang/String" "value" "[B")) (Jvm.Term.int (4 : Int32))).before args s = true := (k_andr (k_andr (k_andl (k_andr (k_andr (k_andr (k_andr (k_andl (k_andr h)))))))))
theorem nf134 {args : Array Value} {s : State} (h : (Jvm.Cond.and given_1 narrow_1).before args s = true) : (Jvm.Cond.eq (Jvm.Term.elem (Jvm.Term.field (Jvm.Term.string "TwoAsks$Tokens" (65 : Nat)) "java/lang/String" "value" "[B") (Jvm.Term.int (0 : Int32))) (Jvm.Term.int (101 : Int32))).before args s = true := (k_andl (k_andl (k_andr (k_andr (k_andr (k_andr (k_andr (k_andl (k_andr h)))))))))
theorem nf135 {args : Array Value} {s : State} (h : (Jvm.Cond.and given_1 narrow_1).before args s = true) : (Jvm.Cond.eq (Jvm.Term.elem (Jvm.Term.field (Jvm.Term.string "TwoAsks$Tokens" (65 : Nat)) "java/lang/String" "value" "[B") (Jvm.Term.int (1 : Int32))) (Jvm.Term.int (108 : Int32))).before args s = true := (k_andr (k_andl (k_andr (k_andr (k_andr (k_andr (k_andr (k_andl (k_andr h)))))))))
theorem nf136 {args : Array Value} {s : State} (h : (Jvm.Cond.and given_1 narrow_1).before args s = true) : (Jvm.Cond.eq (Jvm.Term.elem (Jvm.Term.field (Jvm.Term.string "TwoAsks$Tokens" (65 : Nat)) "java/lang/String" "value" "[B") (Jvm.Term.int (2 : Int32))) (Jvm.Term.int (115 : Int32))).before args s = true := (k_andl (k_andr (k_andr (k_andr (k_andr (k_andr (k_andr (k_andl (k_andr h)))))))))
theorem nf137 {args : Array Value} {s : State} (h : (Jvm.Cond.and given_1 narrow_1).before args s = true) : (Jvm.Cond.eq (Jvm.Term.elem (Jvm.Term.field (Jvm.Term.string "TwoAsks$Tokens" (65 : Nat)) "java/lang/String" "value" "[B") (Jvm.Term.int (3 : Int32))) (Jvm.Term.int (101 : Int32))).before args s = true := (k_andl (k_andr (k_andr (k_andr (k_andr (k_andr (k_andr (k_andr (k_andl (k_andr h))))))))))
theorem nf138 {args : Array Value} {s : State} (h : (Jvm.Cond.and given_1 narrow_1).before args s = true) : (Jvm.Cond.not (Jvm.Cond.eq (Jvm.Term.string "TwoAsks$Tokens" (45 : Nat)) (Jvm.Term.string "TwoAsks$Tokens" (65 : Nat)))).before args s = true := (k_andr (k_andr (k_andr (k_andr (k_andr (k_andr (k_andr (k_andr (k_andl (k_andr h))))))))))
theorem nf139 {args : Array Value} {s : State} (h : (Jvm.Cond.and given_1 narrow_1).before args s = true) : (Jvm.Cond.not (Jvm.Cond.eq (Jvm.Term.string "TwoAsks$Tokens" (47 : Nat)) (Jvm.Term.string "TwoAsks$Tokens" (65 : Nat)))).before args s = true := (k_andl (k_andl (k_andl (k_andl (k_andl (k_andl (k_andl (k_andr (k_andr h)))))))))
theorem nf140 {args : Array Value} {s : State} (h : (Jvm.Cond.and given_1 narrow_1).before args s = true) : (Jvm.Cond.not (Jvm.Cond.eq (Jvm.Term.string "TwoAsks$Tokens" (49 : Nat)) (Jvm.Term.string "TwoAsks$Tokens" (65 : Nat)))).before args s = true := (k_andr (k_andl (k_andl (k_andl (k_andl (k_andl (k_andl (k_andr (k_andr h)))))))))
theorem nf141 {args : Array Value} {s : State} (h : (Jvm.Cond.and given_1 narrow_1).before args s = true) : (Jvm.Cond.not (Jvm.Cond.eq (Jvm.Term.string "TwoAsks$Tokens" (51 : Nat)) (Jvm.Term.string "TwoAsks$Tokens" (65 : Nat)))).before args s = true := (k_andl (k_andr (k_andl (k_andl (k_andl (k_andl (k_andl (k_andr (k_andr h)))))))))
theorem nf142 {args : Array Value} {s : State} (h : (Jvm.Cond.and given_1 narrow_1).before args s = true) : (Jvm.Cond.not (Jvm.Cond.eq (Jvm.Term.string "TwoAsks$Tokens" (53 : Nat)) (Jvm.Term.string "TwoAsks$Tokens" (65 : Nat)))).before args s = true := (k_andr (k_andr (k_andl (k_andl (k_andl (k_andl (k_andl (k_andr (k_andr h)))))))))
theorem nf143 {args : Array Value} {s : State} (h : (Jvm.Cond.and given_1 narrow_1).before args s = true) : (Jvm.Cond.not (Jvm.Cond.eq (Jvm.Term.string "TwoAsks$Tokens" (55 : Nat)) (Jvm.Term.string "TwoAsks$Tokens" (65 : Nat)))).before args s = true := (k_andl (k_andl (k_andr (k_andl (k_andl (k_andl (k_andl (k_andr (k_andr h)))))))))
theorem nf144 {args : Array Value} {s : State} (h : (Jvm.Cond.and given_1 narrow_1).before args s = true) : (Jvm.Cond.not (Jvm.Cond.eq (Jvm.Term.string "TwoAsks$Tokens" (57 : Nat)) (Jvm.Term.string "TwoAsks$Tokens" (65 : Nat)))).before args s = true := (k_andr (k_andl (k_andr (k_andl (k_andl (k_andl (k_andl (k_andr (k_andr h)))))))))
theorem nf145 {args : Array Value} {s : State} (h : (Jvm.Cond.and given_1 narrow_1).before args s = true) : (Jvm.Cond.not (Jvm.Cond.eq (Jvm.Term.string "TwoAsks$Tokens" (59 : Nat)) (Jvm.Term.string "TwoAsks$Tokens" (65 : Nat)))).before args s = true := (k_andl (k_andr (k_andr (k_andl (k_andl (k_andl (k_andl (k_andr (k_andr h)))))))))
theorem nf146 {args : Array Value} {s : State} (h : (Jvm.Cond.and given_1 narrow_1).before args s = true) : (Jvm.Cond.not (Jvm.Cond.eq (Jvm.Term.string "TwoAsks$Tokens" (61 : Nat)) (Jvm.Term.string "TwoAsks$Tokens" (65 : Nat)))).before args s = true := (k_andr (k_andr (k_andr (k_andl (k_andl (k_andl (k_andl (k_andr (k_andr h)))))))))
theorem nf147 {args : Array Value} {s : State} (h : (Jvm.Cond.and given_1 narrow_1).before args s = true) : (Jvm.Cond.not (Jvm.Cond.eq (Jvm.Term.string "TwoAsks$Tokens" (63 : Nat)) (Jvm.Term.string "TwoAsks$Tokens" (65 : Nat)))).before args s = true := (k_andl (k_andl (k_andl (k_andr (k_andl (k_andl (k_andl (k_andr (k_andr h)))))))))
theorem nf148 {args : Array Value} {s : State} (h : (Jvm.Cond.and given_1 narrow_1).before args s = true) : (Jvm.Cond.exactly (Jvm.Term.string "TwoAsks$Tokens" (67 : Nat)) "java/lang/String").before args s = true := (k_andr (k_andl (k_andl (k_andr (k_andl (k_andl (k_andl (k_andr (k_andr h)))))))))
theorem nf149 {args : Array Value} {s : State} (h : (Jvm.Cond.and given_1 narrow_1).before args s = true) : (Jvm.Cond.eq (Jvm.Term.field (Jvm.Term.string "TwoAsks$Tokens" (67 : Nat)) "java/lang/String" "coder" "B") (Jvm.Term.int (0 : Int32))).before args s = true := (k_andl (k_andr (k_andl (k_andr (k_andl (k_andl (k_andl (k_andr (k_andr h)))))))))
theorem nf150 {args : Array Value} {s : State} (h : (Jvm.Cond.and given_1 narrow_1).before args s = true) : (Jvm.Cond.arrayOf (Jvm.Term.field (Jvm.Term.string "TwoAsks$Tokens" (67 : Nat)) "java/lang/String" "value" "[B") Jvm.ClassFile.FieldType.byte).before args s = true := (k_andr (k_andr (k_andl (k_andr (k_andl (k_andl (k_andl (k_andr (k_andr h)))))))))
theorem nf151 {args : Array Value} {s : State} (h : (Jvm.Cond.and given_1 narrow_1).before args s = true) : (Jvm.Cond.eq (Jvm.Term.length (Jvm.Term.field (Jvm.Term.string "TwoAsks$Tokens" (67 : Nat)) "java/lang/String" "value" "[B")) (Jvm.Term.int (5 : Int32))).before args s = true := (k_andl (k_andl (k_andr (k_andr (k_andl (k_andl (k_andl (k_andr (k_andr h)))))))))
theorem nf152 {args : Array Value} {s : State} (h : (Jvm.Cond.and given_1 narrow_1).before args s = true) : (Jvm.Cond.eq (Jvm.Term.elem (Jvm.Term.field (Jvm.Term.string "TwoAsks$Tokens" (67 : Nat)) "java/lang/String" "value" "[B") (Jvm.Term.int (0 : Int32))) (Jvm.Term.int (112 : Int32))).before args s = true := (k_andr (k_andl (k_andr (k_andr (k_andl (k_andl (k_andl (k_andr (k_andr h)))))))))
theorem nf153 {args : Array Value} {s : State} (h : (Jvm.Cond.and given_1 narrow_1).before args s = true) : (Jvm.Cond.eq (Jvm.Term.elem (Jvm.Term.field (Jvm.Term.string "TwoAsks$Tokens" (67 : Nat)) "java/lang/String" "value" "[B") (Jvm.Term.int (1 : Int32))) (Jvm.Term.int (108 : Int32))).before args s = true := (k_andl (k_andr (k_andr (k_andr (k_andl (k_andl (k_andl (k_andr (k_andr h)))))))))
theorem nf154 {args : Array Value} {s : State} (h : (Jvm.Cond.and given_1 narrow_1).before args s = true) : (Jvm.Cond.eq (Jvm.Term.elem (Jvm.Term.field (Jvm.Term.string "TwoAsks$Tokens" (67 : Nat)) "java/lang/String" "value" "[B") (Jvm.Term.int (2 : Int32))) (Jvm.Term.int (97 : Int32))).before args s = true := (k_andl (k_andr (k_andr (k_andr (k_andr (k_andl (k_andl (k_andl (k_andr (k_andr h))))))))))
theorem nf155 {args : Array Value} {s : State} (h : (Jvm.Cond.and given_1 narrow_1).before args s = true) : (Jvm.Cond.eq (Jvm.Term.elem (Jvm.Term.field (Jvm.Term.string "TwoAsks$Tokens" (67 : Nat)) "java/lang/String" "value" "[B") (Jvm.Term.int (3 : Int32))) (Jvm.Term.int (99 : Int32))).before args s = true := (k_andr (k_andr (k_andr (k_andr (k_andr (k_andl (k_andl (k_andl (k_andr (k_andr h))))))))))
theorem nf156 {args : Array Value} {s : State} (h : (Jvm.Cond.and given_1 narrow_1).before args s = true) : (Jvm.Cond.eq (Jvm.Term.elem (Jvm.Term.field (Jvm.Term.string "TwoAsks$Tokens" (67 : Nat)) "java/lang/String" "value" "[B") (Jvm.Term.int (4 : Int32))) (Jvm.Term.int (101 : Int32))).before args s = true := (k_andl (k_andl (k_andl (k_andl (k_andr (k_andl (k_andl (k_andr (k_andr h)))))))))
theorem nf157 {args : Array Value} {s : State} (h : (Jvm.Cond.and given_1 narrow_1).before args s = true) : (Jvm.Cond.not (Jvm.Cond.eq (Jvm.Term.string "TwoAsks$Tokens" (45 : Nat)) (Jvm.Term.string "TwoAsks$Tokens" (67 : Nat)))).before args s = true := (k_andr (k_andl (k_andl (k_andl (k_andr (k_andl (k_andl (k_andr (k_andr h)))))))))
theorem nf158 {args : Array Value} {s : State} (h : (Jvm.Cond.and given_1 narrow_1).before args s = true) : (Jvm.Cond.not (Jvm.Cond.eq (Jvm.Term.string "TwoAsks$Tokens" (47 : Nat)) (Jvm.Term.string "TwoAsks$Tokens" (67 : Nat)))).before args s = true := (k_andl (k_andr (k_andl (k_andl (k_andr (k_andl (k_andl (k_andr (k_andr h)))))))))
theorem nf159 {args : Array Value} {s : State} (h : (Jvm.Cond.and given_1 narrow_1).before args s = true) : (Jvm.Cond.not (Jvm.Cond.eq (Jvm.Term.string "TwoAsks$Tokens" (49 : Nat)) (Jvm.Term.string "TwoAsks$Tokens" (67 : Nat)))).before args s = true := (k_andr (k_andr (k_andl (k_andl (k_andr (k_andl (k_andl (k_andr (k_andr h)))))))))
theorem nf160 {args : Array Value} {s : State} (h : (Jvm.Cond.and given_1 narrow_1).before args s = true) : (Jvm.Cond.not (Jvm.Cond.eq (Jvm.Term.string "TwoAsks$Tokens" (51 : Nat)) (Jvm.Term.string "TwoAsks$Tokens" (67 : Nat)))).before args s = true := (k_andl (k_andl (k_andr (k_andl (k_andr (k_andl (k_andl (k_andr (k_andr h)))))))))
theorem nf161 {args : Array Value} {s : State} (h : (Jvm.Cond.and given_1 narrow_1).before args s = true) : (Jvm.Cond.not (Jvm.Cond.eq (Jvm.Term.string "TwoAsks$Tokens" (53 : Nat)) (Jvm.Term.string "TwoAsks$Tokens" (67 : Nat)))).before args s = true := (k_andr (k_andl (k_andr (k_andl (k_andr (k_andl (k_andl (k_andr (k_andr h)))))))))
theorem nf162 {args : Array Value} {s : State} (h : (Jvm.Cond.and given_1 narrow_1).before args s = true) : (Jvm.Cond.not (Jvm.Cond.eq (Jvm.Term.string "TwoAsks$Tokens" (55 : Nat)) (Jvm.Term.string "TwoAsks$Tokens" (67 : Nat)))).before args s = true := (k_andl (k_andr (k_andr (k_andl (k_andr (k_andl (k_andl (k_andr (k_andr h)))))))))
theorem nf163 {args : Array Value} {s : State} (h : (Jvm.Cond.and given_1 narrow_1).before args s = true) : (Jvm.Cond.not (Jvm.Cond.eq (Jvm.Term.string "TwoAsks$Tokens" (57 : Nat)) (Jvm.Term.string "TwoAsks$Tokens" (67 : Nat)))).before args s = true := (k_andl (k_andr (k_andr (k_andr (k_andl (k_andr (k_andl (k_andl (k_andr (k_andr h))))))))))
theorem nf164 {args : Array Value} {s : State} (h : (Jvm.Cond.and given_1 narrow_1).before args s = true) : (Jvm.Cond.not (Jvm.Cond.eq (Jvm.Term.string "TwoAsks$Tokens" (59 : Nat)) (Jvm.Term.string "TwoAsks$Tokens" (67 : Nat)))).before args s = true := (k_andr (k_andr (k_andr (k_andr (k_andl (k_andr (k_andl (k_andl (k_andr (k_andr h))))))))))
theorem nf165 {args : Array Value} {s : State} (h : (Jvm.Cond.and given_1 narrow_1).before args s = true) : (Jvm.Cond.not (Jvm.Cond.eq (Jvm.Term.string "TwoAsks$Tokens" (61 : Nat)) (Jvm.Term.string "TwoAsks$Tokens" (67 : Nat)))).before args s = true := (k_andl (k_andl (k_andl (k_andr (k_andr (k_andl (k_andl (k_andr (k_andr h)))))))))
theorem nf166 {args : Array Value} {s : State} (h : (Jvm.Cond.and given_1 narrow_1).before args s = true) : (Jvm.Cond.not (Jvm.Cond.eq (Jvm.Term.string "TwoAsks$Tokens" (63 : Nat)) (Jvm.Term.string "TwoAsks$Tokens" (67 : Nat)))).before args s = true := (k_andr (k_andl (k_andl (k_andr (k_andr (k_andl (k_andl (k_andr (k_andr h)))))))))
theorem nf167 {args : Array Value} {s : State} (h : (Jvm.Cond.and given_1 narrow_1).before args s = true) : (Jvm.Cond.not (Jvm.Cond.eq (Jvm.Term.string "TwoAsks$Tokens" (65 : Nat)) (Jvm.Term.string "TwoAsks$Tokens" (67 : Nat)))).before args s = true := (k_andl (k_andr (k_andl (k_andr (k_andr (k_andl (k_andl (k_andr (k_andr h)))))))))
theorem nf168 {args : Array Value} {s : State} (h : (Jvm.Cond.and given_1 narrow_1).before args s = true) : (Jvm.Cond.exactly (Jvm.Term.string "TwoAsks$Tokens" (69 : Nat)) "java/lang/String").before args s = true := (k_andr (k_andr (k_andl (k_andr (k_andr (k_andl (k_andl (k_andr (k_andr h)))))))))
theorem nf169 {args : Array Value} {s : State} (h : (Jvm.Cond.and given_1 narrow_1).before args s = true) : (Jvm.Cond.eq (Jvm.Term.field (Jvm.Term.string "TwoAsks$Tokens" (69 : Nat)) "java/lang/String" "coder" "B") (Jvm.Term.int (0 : Int32))).before args s = true := (k_andl (k_andl (k_andr (k_andr (k_andr (k_andl (k_andl (k_andr (k_andr h)))))))))
theorem nf170 {args : Array Value} {s : State} (h : (Jvm.Cond.and given_1 narrow_1).before args s = true) : (Jvm.Cond.arrayOf (Jvm.Term.field (Jvm.Term.string "TwoAsks$Tokens" (69 : Nat)) "java/lang/String" "value" "[B") Jvm.ClassFile.FieldType.byte).before args s = true := (k_andr (k_andl (k_andr (k_andr (k_andr (k_andl (k_andl (k_andr (k_andr h)))))))))
theorem nf171 {args : Array Value} {s : State} (h : (Jvm.Cond.and given_1 narrow_1).before args s = true) : (Jvm.Cond.eq (Jvm.Term.length (Jvm.Term.field (Jvm.Term.string "TwoAsks$Tokens" (69 : Nat)) "java/lang/String" "value" "[B")) (Jvm.Term.int (5 : Int32))).before args s = true := (k_andl (k_andr (k_andr (k_andr (k_andr (k_andl (k_andl (k_andr (k_andr h)))))))))
theorem nf172 {args : Array Value} {s : State} (h : (Jvm.Cond.and given_1 narrow_1).before args s = true) : (Jvm.Cond.eq (Jvm.Term.elem (Jvm.Term.field (Jvm.Term.string "TwoAsks$Tokens" (69 : Nat)) "java/lang/String" "value" "[B") (Jvm.Term.int (0 : Int32))) (Jvm.Term.int (97 : Int32))).before args s = true := (k_andl (k_andr (k_andr (k_andr (k_andr (k_andr (k_andl (k_andl (k_andr (k_andr h))))))))))
theorem nf173 {args : Array Value} {s : State} (h : (Jvm.Cond.and given_1 narrow_1).before args s = true) : (Jvm.Cond.eq (Jvm.Term.elem (Jvm.Term.field (Jvm.Term.string "TwoAsks$Tokens" (69 : Nat)) "java/lang/String" "value" "[B") (Jvm.Term.int (1 : Int32))) (Jvm.Term.int (104 : Int32))).before args s = true := (k_andr (k_andr (k_andr (k_andr (k_andr (k_andr (k_andl (k_andl (k_andr (k_andr h))))))))))
theorem nf174 {args : Array Value} {s : State} (h : (Jvm.Cond.and given_1 narrow_1).before args s = true) : (Jvm.Cond.eq (Jvm.Term.elem (Jvm.Term.field (Jvm.Term.string "TwoAsks$Tokens" (69 : Nat)) "java/lang/String" "value" "[B") (Jvm.Term.int (2 : Int32))) (Jvm.Term.int (101 : Int32))).before args s = true := (k_andl (k_andl (k_andl (k_andl (k_andl (k_andr (k_andl (k_andr (k_andr h)))))))))
theorem nf175 {args : Array Value} {s : State} (h : (Jvm.Cond.and given_1 narrow_1).before args s = true) : (Jvm.Cond.eq (Jvm.Term.elem (Jvm.Term.field (Jvm.Term.string "TwoAsks$Tokens" (69 : Nat)) "java/lang/String" "value" "[B") (Jvm.Term.int (3 : Int32))) (Jvm.Term.int (97 : Int32))).before args s = true := (k_andr (k_andl (k_andl (k_andl (k_andl (k_andr (k_andl (k_andr (k_andr h)))))))))
theorem nf176 {args : Array Value} {s : State} (h : (Jvm.Cond.and given_1 narrow_1).before args s = true) : (Jvm.Cond.eq (Jvm.Term.elem (Jvm.Term.field (Jvm.Term.string "TwoAsks$Tokens" (69 : Nat)) "java/lang/String" "value" "[B") (Jvm.Term.int (4 : Int32))) (Jvm.Term.int (100 : Int32))).before args s = true := (k_andl (k_andr (k_andl (k_andl (k_andl (k_andr (k_andl (k_andr (k_andr h)))))))))
theorem nf177 {args : Array Value} {s : State} (h : (Jvm.Cond.and given_1 narrow_1).before args s = true) : (Jvm.Cond.not (Jvm.Cond.eq (Jvm.Term.string "TwoAsks$Tokens" (45 : Nat)) (Jvm.Term.string "TwoAsks$Tokens" (69 : Nat)))).before args s = true := (k_andr (k_andr (k_andl (k_andl (k_andl (k_andr (k_andl (k_andr (k_andr h)))))))))
theorem nf178 {args : Array Value} {s : State} (h : (Jvm.Cond.and given_1 narrow_1).before args s = true) : (Jvm.Cond.not (Jvm.Cond.eq (Jvm.Term.string "TwoAsks$Tokens" (47 : Nat)) (Jvm.Term.string "TwoAsks$Tokens" (69 : Nat)))).before args s = true := (k_andl (k_andl (k_andr (k_andl (k_andl (k_andr (k_andl (k_andr (k_andr h)))))))))
theorem nf179 {args : Array Value} {s : State} (h : (Jvm.Cond.and given_1 narrow_1).before args s = true) : (Jvm.Cond.not (Jvm.Cond.eq (Jvm.Term.string "TwoAsks$Tokens" (49 : Nat)) (Jvm.Term.string "TwoAsks$Tokens" (69 : Nat)))).before args s = true := (k_andr (k_andl (k_andr (k_andl (k_andl (k_andr (k_andl (k_andr (k_andr h)))))))))
theorem nf180 {args : Array Value} {s : State} (h : (Jvm.Cond.and given_1 narrow_1).before args s = true) : (Jvm.Cond.not (Jvm.Cond.eq (Jvm.Term.string "TwoAsks$Tokens" (51 : Nat)) (Jvm.Term.string "TwoAsks$Tokens" (69 : Nat)))).before args s = true := (k_andl (k_andr (k_andr (k_andl (k_andl (k_andr (k_andl (k_andr (k_andr h)))))))))
theorem nf181 {args : Array Value} {s : State} (h : (Jvm.Cond.and given_1 narrow_1).before args s = true) : (Jvm.Cond.not (Jvm.Cond.eq (Jvm.Term.string "TwoAsks$Tokens" (53 : Nat)) (Jvm.Term.string "TwoAsks$Tokens" (69 : Nat)))).before args s = true := (k_andr (k_andr (k_andr (k_andl (k_andl (k_andr (k_andl (k_andr (k_andr h)))))))))
theorem nf182 {args : Array Value} {s : State} (h : (Jvm.Cond.and given_1 narrow_1).before args s = true) : (Jvm.Cond.not (Jvm.Cond.eq (Jvm.Term.string "TwoAsks$Tokens" (55 : Nat)) (Jvm.Term.string "TwoAsks$Tokens" (69 : Nat)))).before args s = true := (k_andl (k_andl (k_andl (k_andr (k_andl (k_andr (k_andl (k_andr (k_andr h)))))))))
theorem nf183 {args : Array Value} {s : State} (h : (Jvm.Cond.and given_1 narrow_1).before args s = true) : (Jvm.Cond.not (Jvm.Cond.eq (Jvm.Term.string "TwoAsks$Tokens" (57 : Nat)) (Jvm.Term.string "TwoAsks$Tokens" (69 : Nat)))).before args s = true := (k_andr (k_andl (k_andl (k_andr (k_andl (k_andr (k_andl (k_andr (k_andr h)))))))))
theorem nf184 {args : Array Value} {s : State} (h : (Jvm.Cond.and given_1 narrow_1).before args s = true) : (Jvm.Cond.not (Jvm.Cond.eq (Jvm.Term.string "TwoAsks$Tokens" (59 : Nat)) (Jvm.Term.string "TwoAsks$Tokens" (69 : Nat)))).before args s = true := (k_andl (k_andr (k_andl (k_andr (k_andl (k_andr (k_andl (k_andr (k_andr h)))))))))
theorem nf185 {args : Array Value} {s : State} (h : (Jvm.Cond.and given_1 narrow_1).before args s = true) : (Jvm.Cond.not (Jvm.Cond.eq (Jvm.Term.string "TwoAsks$Tokens" (61 : Nat)) (Jvm.Term.string "TwoAsks$Tokens" (69 : Nat)))).before args s = true := (k_andr (k_andr (k_andl (k_andr (k_andl (k_andr (k_andl (k_andr (k_andr h)))))))))
theorem nf186 {args : Array Value} {s : State} (h : (Jvm.Cond.and given_1 narrow_1).before args s = true) : (Jvm.Cond.not (Jvm.Cond.eq (Jvm.Term.string "TwoAsks$Tokens" (63 : Nat)) (Jvm.Term.string "TwoAsks$Tokens" (69 : Nat)))).before args s = true := (k_andl (k_andl (k_andr (k_andr (k_andl (k_andr (k_andl (k_andr (k_andr h)))))))))
theorem nf187 {args : Array Value} {s : State} (h : (Jvm.Cond.and given_1 narrow_1).before args s = true) : (Jvm.Cond.not (Jvm.Cond.eq (Jvm.Term.string "TwoAsks$Tokens" (65 : Nat)) (Jvm.Term.string "TwoAsks$Tokens" (69 : Nat)))).before args s = true := (k_andr (k_andl (k_andr (k_andr (k_andl (k_andr (k_andl (k_andr (k_andr h)))))))))
theorem nf188 {args : Array Value} {s : State} (h : (Jvm.Cond.and given_1 narrow_1).before args s = true) : (Jvm.Cond.not (Jvm.Cond.eq (Jvm.Term.string "TwoAsks$Tokens" (67 : Nat)) (Jvm.Term.string "TwoAsks$Tokens" (69 : Nat)))).before args s = true := (k_andl (k_andr (k_andr (k_andr (k_andl (k_andr (k_andl (k_andr (k_andr h)))))))))
theorem nf189 {args : Array Value} {s : State} (h : (Jvm.Cond.and given_1 narrow_1).before args s = true) : (Jvm.Cond.exactly (Jvm.Term.string "TwoAsks$Tokens" (71 : Nat)) "java/lang/String").before args s = true := (k_andl (k_andr (k_andr (k_andr (k_andr (k_andl (k_andr (k_andl (k_andr (k_andr h))))))))))
theorem nf190 {args : Array Value} {s : State} (h : (Jvm.Cond.and given_1 narrow_1).before args s = true) : (Jvm.Cond.eq (Jvm.Term.field (Jvm.Term.string "TwoAsks$Tokens" (71 : Nat)) "java/lang/String" "coder" "B") (Jvm.Term.int (0 : Int32))).before args s = true := (k_andr (k_andr (k_andr (k_andr (k_andr (k_andl (k_andr (k_andl (k_andr (k_andr h))))))))))
theorem nf191 {args : Array Value} {s : State} (h : (Jvm.Cond.and given_1 narrow_1).before args s = true) : (Jvm.Cond.arrayOf (Jvm.Term.field (Jvm.Term.string "TwoAsks$Tokens" (71 : Nat)) "java/lang/String" "value" "[B") Jvm.ClassFile.FieldType.byte).before args s = true := (k_andl (k_andl (k_andl (k_andl (k_andr (k_andr (k_andl (k_andr (k_andr h)))))))))
theorem nf192 {args : Array Value} {s : State} (h : (Jvm.Cond.and given_1 narrow_1).before args s = true) : (Jvm.Cond.eq (Jvm.Term.length (Jvm.Term.field (Jvm.Term.string "TwoAsks$Tokens" (71 : Nat)) "java/lang/String" "value" "[B")) (Jvm.Term.int (4 : Int32))).before args s = true := (k_andr (k_andl (k_andl (k_andl (k_andr (k_andr (k_andl (k_andr (k_andr h)))))))))
theorem nf193 {args : Array Value} {s : State} (h : (Jvm.Cond.and given_1 narrow_1).before args s = true) : (Jvm.Cond.eq (Jvm.Term.elem (Jvm.Term.field (Jvm.Term.string "TwoAsks$Tokens" (71 : Nat)) "java/lang/String" "value" "[B") (Jvm.Term.int (0 : Int32))) (Jvm.Term.int (109 : Int32))).before args s = true := (k_andl (k_andr (k_andl (k_andl (k_andr (k_andr (k_andl (k_andr (k_andr h)))))))))
theorem nf194 {args : Array Value} {s : State} (h : (Jvm.Cond.and given_1 narrow_1).before args s = true) : (Jvm.Cond.eq (Jvm.Term.elem (Jvm.Term.field (Jvm.Term.string "TwoAsks$Tokens" (71 : Nat)) "java/lang/String" "value" "[B") (Jvm.Term.int (1 : Int32))) (Jvm.Term.int (97 : Int32))).before args s = true := (k_andr (k_andr (k_andl (k_andl (k_andr (k_andr (k_andl (k_andr (k_andr h)))))))))
theorem nf195 {args : Array Value} {s : State} (h : (Jvm.Cond.and given_1 narrow_1).before args s = true) : (Jvm.Cond.eq (Jvm.Term.elem (Jvm.Term.field (Jvm.Term.string "TwoAsks$Tokens" (71 : Nat)) "java/lang/String" "value" "[B") (Jvm.Term.int (2 : Int32))) (Jvm.Term.int (110 : Int32))).before args s = true := (k_andl (k_andl (k_andr (k_andl (k_andr (k_andr (k_andl (k_andr (k_andr h)))))))))
theorem nf196 {args : Array Value} {s : State} (h : (Jvm.Cond.and given_1 narrow_1).before args s = true) : (Jvm.Cond.eq (Jvm.Term.elem (Jvm.Term.field (Jvm.Term.string "TwoAsks$Tokens" (71 : Nat)) "java/lang/String" "value" "[B") (Jvm.Term.int (3 : Int32))) (Jvm.Term.int (121 : Int32))).before args s = true := (k_andr (k_andl (k_andr (k_andl (k_andr (k_andr (k_andl (k_andr (k_andr h)))))))))
theorem nf197 {args : Array Value} {s : State} (h : (Jvm.Cond.and given_1 narrow_1).before args s = true) : (Jvm.Cond.not (Jvm.Cond.eq (Jvm.Term.string "TwoAsks$Tokens" (45 : Nat)) (Jvm.Term.string "TwoAsks$Tokens" (71 : Nat)))).before args s = true := (k_andl (k_andr (k_andr (k_andl (k_andr (k_andr (k_andl (k_andr (k_andr h)))))))))
theorem nf198 {args : Array Value} {s : State} (h : (Jvm.Cond.and given_1 narrow_1).before args s = true) : (Jvm.Cond.not (Jvm.Cond.eq (Jvm.Term.string "TwoAsks$Tokens" (47 : Nat)) (Jvm.Term.string "TwoAsks$Tokens" (71 : Nat)))).before args s = true := (k_andl (k_andr (k_andr (k_andr (k_andl (k_andr (k_andr (k_andl (k_andr (k_andr h))))))))))
theorem nf199 {args : Array Value} {s : State} (h : (Jvm.Cond.and given_1 narrow_1).before args s = true) : (Jvm.Cond.not (Jvm.Cond.eq (Jvm.Term.string "TwoAsks$Tokens" (49 : Nat)) (Jvm.Term.string "TwoAsks$Tokens" (71 : Nat)))).before args s = true := (k_andr (k_andr (k_andr (k_andr (k_andl (k_andr (k_andr (k_andl (k_andr (k_andr h))))))))))
theorem nf200 {args : Array Value} {s : State} (h : (Jvm.Cond.and given_1 narrow_1).before args s = true) : (Jvm.Cond.not (Jvm.Cond.eq (Jvm.Term.string "TwoAsks$Tokens" (51 : Nat)) (Jvm.Term.string "TwoAsks$Tokens" (71 : Nat)))).before args s = true := (k_andl (k_andl (k_andl (k_andr (k_andr (k_andr (k_andl (k_andr (k_andr h)))))))))
theorem nf201 {args : Array Value} {s : State} (h : (Jvm.Cond.and given_1 narrow_1).before args s = true) : (Jvm.Cond.not (Jvm.Cond.eq (Jvm.Term.string "TwoAsks$Tokens" (53 : Nat)) (Jvm.Term.string "TwoAsks$Tokens" (71 : Nat)))).before args s = true := (k_andr (k_andl (k_andl (k_andr (k_andr (k_andr (k_andl (k_andr (k_andr h)))))))))
theorem nf202 {args : Array Value} {s : State} (h : (Jvm.Cond.and given_1 narrow_1).before args s = true) : (Jvm.Cond.not (Jvm.Cond.eq (Jvm.Term.string "TwoAsks$Tokens" (55 : Nat)) (Jvm.Term.string "TwoAsks$Tokens" (71 : Nat)))).before args s = true := (k_andl (k_andr (k_andl (k_andr (k_andr (k_andr (k_andl (k_andr (k_andr h)))))))))
theorem nf203 {args : Array Value} {s : State} (h : (Jvm.Cond.and given_1 narrow_1).before args s = true) : (Jvm.Cond.not (Jvm.Cond.eq (Jvm.Term.string "TwoAsks$Tokens" (57 : Nat)) (Jvm.Term.string "TwoAsks$Tokens" (71 : Nat)))).before args s = true := (k_andr (k_andr (k_andl (k_andr (k_andr (k_andr (k_andl (k_andr (k_andr h)))))))))
theorem nf204 {args : Array Value} {s : State} (h : (Jvm.Cond.and given_1 narrow_1).before args s = true) : (Jvm.Cond.not (Jvm.Cond.eq (Jvm.Term.string "TwoAsks$Tokens" (59 : Nat)) (Jvm.Term.string "TwoAsks$Tokens" (71 : Nat)))).before args s = true := (k_andl (k_andl (k_andr (k_andr (k_andr (k_andr (k_andl (k_andr (k_andr h)))))))))
theorem nf205 {args : Array Value} {s : State} (h : (Jvm.Cond.and given_1 narrow_1).before args s = true) : (Jvm.Cond.not (Jvm.Cond.eq (Jvm.Term.string "TwoAsks$Tokens" (61 : Nat)) (Jvm.Term.string "TwoAsks$Tokens" (71 : Nat)))).before args s = true := (k_andr (k_andl (k_andr (k_andr (k_andr (k_andr (k_andl (k_andr (k_andr h)))))))))
theorem nf206 {args : Array Value} {s : State} (h : (Jvm.Cond.and given_1 narrow_1).before args s = true) : (Jvm.Cond.not (Jvm.Cond.eq (Jvm.Term.string "TwoAsks$Tokens" (63 : Nat)) (Jvm.Term.string "TwoAsks$Tokens" (71 : Nat)))).before args s = true := (k_andl (k_andr (k_andr (k_andr (k_andr (k_andr (k_andl (k_andr (k_andr h)))))))))
theorem nf207 {args : Array Value} {s : State} (h : (Jvm.Cond.and given_1 narrow_1).before args s = true) : (Jvm.Cond.not (Jvm.Cond.eq (Jvm.Term.string "TwoAsks$Tokens" (65 : Nat)) (Jvm.Term.string "TwoAsks$Tokens" (71 : Nat)))).before args s = true := (k_andl (k_andr (k_andr (k_andr (k_andr (k_andr (k_andr (k_andl (k_andr (k_andr h))))))))))
theorem nf208 {args : Array Value} {s : State} (h : (Jvm.Cond.and given_1 narrow_1).before args s = true) : (Jvm.Cond.not (Jvm.Cond.eq (Jvm.Term.string "TwoAsks$Tokens" (67 : Nat)) (Jvm.Term.string "TwoAsks$Tokens" (71 : Nat)))).before args s = true := (k_andr (k_andr (k_andr (k_andr (k_andr (k_andr (k_andr (k_andl (k_andr (k_andr h))))))))))
theorem nf209 {args : Array Value} {s : State} (h : (Jvm.Cond.and given_1 narrow_1).before args s = true) : (Jvm.Cond.not (Jvm.Cond.eq (Jvm.Term.string "TwoAsks$Tokens" (69 : Nat)) (Jvm.Term.string "TwoAsks$Tokens" (71 : Nat)))).before args s = true := (k_andl (k_andl (k_andl (k_andl (k_andl (k_andl (k_andr (k_andr (k_andr h)))))))))
theorem nf210 {args : Array Value} {s : State} (h : (Jvm.Cond.and given_1 narrow_1).before args s = true) : (Jvm.Cond.exactly (Jvm.Term.string "TwoAsks$Tokens" (72 : Nat)) "java/lang/String").before args s = true := (k_andr (k_andl (k_andl (k_andl (k_andl (k_andl (k_andr (k_andr (k_andr h)))))))))
theorem nf211 {args : Array Value} {s : State} (h : (Jvm.Cond.and given_1 narrow_1).before args s = true) : (Jvm.Cond.eq (Jvm.Term.field (Jvm.Term.string "TwoAsks$Tokens" (72 : Nat)) "java/lang/String" "coder" "B") (Jvm.Term.int (0 : Int32))).before args s = true := (k_andl (k_andr (k_andl (k_andl (k_andl (k_andl (k_andr (k_andr (k_andr h)))))))))
theorem nf212 {args : Array Value} {s : State} (h : (Jvm.Cond.and given_1 narrow_1).before args s = true) : (Jvm.Cond.arrayOf (Jvm.Term.field (Jvm.Term.string "TwoAsks$Tokens" (72 : Nat)) "java/lang/String" "value" "[B") Jvm.ClassFile.FieldType.byte).before args s = true := (k_andr (k_andr (k_andl (k_andl (k_andl (k_andl (k_andr (k_andr (k_andr h)))))))))
theorem nf213 {args : Array Value} {s : State} (h : (Jvm.Cond.and given_1 narrow_1).before args s = true) : (Jvm.Cond.eq (Jvm.Term.length (Jvm.Term.field (Jvm.Term.string "TwoAsks$Tokens" (72 : Nat)) "java/lang/String" "value" "[B")) (Jvm.Term.int (4 : Int32))).before args s = true := (k_andl (k_andl (k_andr (k_andl (k_andl (k_andl (k_andr (k_andr (k_andr h)))))))))
theorem nf214 {args : Array Value} {s : State} (h : (Jvm.Cond.and given_1 narrow_1).before args s = true) : (Jvm.Cond.eq (Jvm.Term.elem (Jvm.Term.field (Jvm.Term.string "TwoAsks$Tokens" (72 : Nat)) "java/lang/String" "value" "[B") (Jvm.Term.int (0 : Int32))) (Jvm.Term.int (116 : Int32))).before args s = true := (k_andr (k_andl (k_andr (k_andl (k_andl (k_andl (k_andr (k_andr (k_andr h)))))))))
theorem nf215 {args : Array Value} {s : State} (h : (Jvm.Cond.and given_1 narrow_1).before args s = true) : (Jvm.Cond.eq (Jvm.Term.elem (Jvm.Term.field (Jvm.Term.string "TwoAsks$Tokens" (72 : Nat)) "java/lang/String" "value" "[B") (Jvm.Term.int (1 : Int32))) (Jvm.Term.int (117 : Int32))).before args s = true := (k_andl (k_andr (k_andr (k_andl (k_andl (k_andl (k_andr (k_andr (k_andr h)))))))))
theorem nf216 {args : Array Value} {s : State} (h : (Jvm.Cond.and given_1 narrow_1).before args s = true) : (Jvm.Cond.eq (Jvm.Term.elem (Jvm.Term.field (Jvm.Term.string "TwoAsks$Tokens" (72 : Nat)) "java/lang/String" "value" "[B") (Jvm.Term.int (2 : Int32))) (Jvm.Term.int (114 : Int32))).before args s = true := (k_andr (k_andr (k_andr (k_andl (k_andl (k_andl (k_andr (k_andr (k_andr h)))))))))
theorem nf217 {args : Array Value} {s : State} (h : (Jvm.Cond.and given_1 narrow_1).before args s = true) : (Jvm.Cond.eq (Jvm.Term.elem (Jvm.Term.field (Jvm.Term.string "TwoAsks$Tokens" (72 : Nat)) "java/lang/String" "value" "[B") (Jvm.Term.int (3 : Int32))) (Jvm.Term.int (110 : Int32))).before args s = true := (k_andl (k_andl (k_andl (k_andr (k_andl (k_andl (k_andr (k_andr (k_andr h)))))))))
theorem nf218 {args : Array Value} {s : State} (h : (Jvm.Cond.and given_1 narrow_1).before args s = true) : (Jvm.Cond.not (Jvm.Cond.eq (Jvm.Term.string "TwoAsks$Tokens" (45 : Nat)) (Jvm.Term.string "TwoAsks$Tokens" (72 : Nat)))).before args s = true := (k_andr (k_andl (k_andl (k_andr (k_andl (k_andl (k_andr (k_andr (k_andr h)))))))))
theorem nf219 {args : Array Value} {s : State} (h : (Jvm.Cond.and given_1 narrow_1).before args s = true) : (Jvm.Cond.not (Jvm.Cond.eq (Jvm.Term.string "TwoAsks$Tokens" (47 : Nat)) (Jvm.Term.string "TwoAsks$Tokens" (72 : Nat)))).before args s = true := (k_andl (k_andr (k_andl (k_andr (k_andl (k_andl (k_andr (k_andr (k_andr h)))))))))
theorem nf220 {args : Array Value} {s : State} (h : (Jvm.Cond.and given_1 narrow_1).before args s = true) : (Jvm.Cond.not (Jvm.Cond.eq (Jvm.Term.string "TwoAsks$Tokens" (49 : Nat)) (Jvm.Term.string "TwoAsks$Tokens" (72 : Nat)))).before args s = true := (k_andr (k_andr (k_andl (k_andr (k_andl (k_andl (k_andr (k_andr (k_andr h)))))))))
theorem nf221 {args : Array Value} {s : State} (h : (Jvm.Cond.and given_1 narrow_1).before args s = true) : (Jvm.Cond.not (Jvm.Cond.eq (Jvm.Term.string "TwoAsks$Tokens" (51 : Nat)) (Jvm.Term.string "TwoAsks$Tokens" (72 : Nat)))).before args s = true := (k_andl (k_andl (k_andr (k_andr (k_andl (k_andl (k_andr (k_andr (k_andr h)))))))))
theorem nf222 {args : Array Value} {s : State} (h : (Jvm.Cond.and given_1 narrow_1).before args s = true) : (Jvm.Cond.not (Jvm.Cond.eq (Jvm.Term.string "TwoAsks$Tokens" (53 : Nat)) (Jvm.Term.string "TwoAsks$Tokens" (72 : Nat)))).before args s = true := (k_andr (k_andl (k_andr (k_andr (k_andl (k_andl (k_andr (k_andr (k_andr h)))))))))
theorem nf223 {args : Array Value} {s : State} (h : (Jvm.Cond.and given_1 narrow_1).before args s = true) : (Jvm.Cond.not (Jvm.Cond.eq (Jvm.Term.string "TwoAsks$Tokens" (55 : Nat)) (Jvm.Term.string "TwoAsks$Tokens" (72 : Nat)))).before args s = true := (k_andl (k_andr (k_andr (k_andr (k_andl (k_andl (k_andr (k_andr (k_andr h)))))))))
theorem nf224 {args : Array Value} {s : State} (h : (Jvm.Cond.and given_1 narrow_1).before args s = true) : (Jvm.Cond.not (Jvm.Cond.eq (Jvm.Term.string "TwoAsks$Tokens" (57 : Nat)) (Jvm.Term.string "TwoAsks$Tokens" (72 : Nat)))).before args s = true := (k_andl (k_andr (k_andr (k_andr (k_andr (k_andl (k_andl (k_andr (k_andr (k_andr h))))))))))
theorem nf225 {args : Array Value} {s : State} (h : (Jvm.Cond.and given_1 narrow_1).before args s = true) : (Jvm.Cond.not (Jvm.Cond.eq (Jvm.Term.string "TwoAsks$Tokens" (59 : Nat)) (Jvm.Term.string "TwoAsks$Tokens" (72 : Nat)))).before args s = true := (k_andr (k_andr (k_andr (k_andr (k_andr (k_andl (k_andl (k_andr (k_andr (k_andr h))))))))))
theorem nf226 {args : Array Value} {s : State} (h : (Jvm.Cond.and given_1 narrow_1).before args s = true) : (Jvm.Cond.not (Jvm.Cond.eq (Jvm.Term.string "TwoAsks$Tokens" (61 : Nat)) (Jvm.Term.string "TwoAsks$Tokens" (72 : Nat)))).before args s = true := (k_andl (k_andl (k_andl (k_andl (k_andr (k_andl (k_andr (k_andr (k_andr h)))))))))
theorem nf227 {args : Array Value} {s : State} (h : (Jvm.Cond.and given_1 narrow_1).before args s = true) : (Jvm.Cond.not (Jvm.Cond.eq (Jvm.Term.string "TwoAsks$Tokens" (63 : Nat)) (Jvm.Term.string "TwoAsks$Tokens" (72 : Nat)))).before args s = true := (k_andr (k_andl (k_andl (k_andl (k_andr (k_andl (k_andr (k_andr (k_andr h)))))))))
theorem nf228 {args : Array Value} {s : State} (h : (Jvm.Cond.and given_1 narrow_1).before args s = true) : (Jvm.Cond.not (Jvm.Cond.eq (Jvm.Term.string "TwoAsks$Tokens" (65 : Nat)) (Jvm.Term.string "TwoAsks$Tokens" (72 : Nat)))).before args s = true := (k_andl (k_andr (k_andl (k_andl (k_andr (k_andl (k_andr (k_andr (k_andr h)))))))))
theorem nf229 {args : Array Value} {s : State} (h : (Jvm.Cond.and given_1 narrow_1).before args s = true) : (Jvm.Cond.not (Jvm.Cond.eq (Jvm.Term.string "TwoAsks$Tokens" (67 : Nat)) (Jvm.Term.string "TwoAsks$Tokens" (72 : Nat)))).before args s = true := (k_andr (k_andr (k_andl (k_andl (k_andr (k_andl (k_andr (k_andr (k_andr h)))))))))
theorem nf230 {args : Array Value} {s : State} (h : (Jvm.Cond.and given_1 narrow_1).before args s = true) : (Jvm.Cond.not (Jvm.Cond.eq (Jvm.Term.string "TwoAsks$Tokens" (69 : Nat)) (Jvm.Term.string "TwoAsks$Tokens" (72 : Nat)))).before args s = true := (k_andl (k_andl (k_andr (k_andl (k_andr (k_andl (k_andr (k_andr (k_andr h)))))))))
theorem nf231 {args : Array Value} {s : State} (h : (Jvm.Cond.and given_1 narrow_1).before args s = true) : (Jvm.Cond.not (Jvm.Cond.eq (Jvm.Term.string "TwoAsks$Tokens" (71 : Nat)) (Jvm.Term.string "TwoAsks$Tokens" (72 : Nat)))).before args s = true := (k_andr (k_andl (k_andr (k_andl (k_andr (k_andl (k_andr (k_andr (k_andr h)))))))))
theorem nf232 {args : Array Value} {s : State} (h : (Jvm.Cond.and given_1 narrow_1).before args s = true) : (Jvm.Cond.exactly (Jvm.Term.string "TwoAsks$Tokens" (74 : Nat)) "java/lang/String").before args s = true := (k_andl (k_andr (k_andr (k_andl (k_andr (k_andl (k_andr (k_andr (k_andr h)))))))))
theorem nf233 {args : Array Value} {s : State} (h : (Jvm.Cond.and given_1 narrow_1).before args s = true) : (Jvm.Cond.eq (Jvm.Term.field (Jvm.Term.string "TwoAsks$Tokens" (74 : Nat)) "java/lang/String" "coder" "B") (Jvm.Term.int (0 : Int32))).before args s = true := (k_andl (k_andr (k_andr (k_andr (k_andl (k_andr (k_andl (k_andr (k_andr (k_andr h))))))))))
theorem nf234 {args : Array Value} {s : State} (h : (Jvm.Cond.and given_1 narrow_1).before args s = true) : (Jvm.Cond.arrayOf (Jvm.Term.field (Jvm.Term.string "TwoAsks$Tokens" (74 : Nat)) "java/lang/String" "value" "[B") Jvm.ClassFile.FieldType.byte).before args s = true := (k_andr (k_andr (k_andr (k_andr (k_andl (k_andr (k_andl (k_andr (k_andr (k_andr h))))))))))
theorem nf235 {args : Array Value} {s : State} (h : (Jvm.Cond.and given_1 narrow_1).before args s = true) : (Jvm.Cond.eq (Jvm.Term.length (Jvm.Term.field (Jvm.Term.string "TwoAsks$Tokens" (74 : Nat)) "java/lang/String" "value" "[B")) (Jvm.Term.int (4 : Int32))).before args s = true := (k_andl (k_andl (k_andl (k_andr (k_andr (k_andl (k_andr (k_andr (k_andr h)))))))))
theorem nf236 {args : Array Value} {s : State} (h : (Jvm.Cond.and given_1 narrow_1).before args s = true) : (Jvm.Cond.eq (Jvm.Term.elem (Jvm.Term.field (Jvm.Term.string "TwoAsks$Tokens" (74 : Nat)) "java/lang/String" "value" "[B") (Jvm.Term.int (0 : Int32))) (Jvm.Term.int (116 : Int32))).before args s = true := (k_andr (k_andl (k_andl (k_andr (k_andr (k_andl (k_andr (k_andr (k_andr h)))))))))
theorem nf237 {args : Array Value} {s : State} (h : (Jvm.Cond.and given_1 narrow_1).before args s = true) : (Jvm.Cond.eq (Jvm.Term.elem (Jvm.Term.field (Jvm.Term.string "TwoAsks$Tokens" (74 : Nat)) "java/lang/String" "value" "[B") (Jvm.Term.int (1 : Int32))) (Jvm.Term.int (111 : Int32))).before args s = true := (k_andl (k_andr (k_andl (k_andr (k_andr (k_andl (k_andr (k_andr (k_andr h)))))))))
theorem nf238 {args : Array Value} {s : State} (h : (Jvm.Cond.and given_1 narrow_1).before args s = true) : (Jvm.Cond.eq (Jvm.Term.elem (Jvm.Term.field (Jvm.Term.string "TwoAsks$Tokens" (74 : Nat)) "java/lang/String" "value" "[B") (Jvm.Term.int (2 : Int32))) (Jvm.Term.int (108 : Int32))).before args s = true := (k_andr (k_andr (k_andl (k_andr (k_andr (k_andl (k_andr (k_andr (k_andr h)))))))))
theorem nf239 {args : Array Value} {s : State} (h : (Jvm.Cond.and given_1 narrow_1).before args s = true) : (Jvm.Cond.eq (Jvm.Term.elem (Jvm.Term.field (Jvm.Term.string "TwoAsks$Tokens" (74 : Nat)) "java/lang/String" "value" "[B") (Jvm.Term.int (3 : Int32))) (Jvm.Term.int (100 : Int32))).before args s = true := (k_andl (k_andl (k_andr (k_andr (k_andr (k_andl (k_andr (k_andr (k_andr h)))))))))
theorem nf240 {args : Array Value} {s : State} (h : (Jvm.Cond.and given_1 narrow_1).before args s = true) : (Jvm.Cond.not (Jvm.Cond.eq (Jvm.Term.string "TwoAsks$Tokens" (45 : Nat)) (Jvm.Term.string "TwoAsks$Tokens" (74 : Nat)))).before args s = true := (k_andr (k_andl (k_andr (k_andr (k_andr (k_andl (k_andr (k_andr (k_andr h)))))))))
theorem nf241 {args : Array Value} {s : State} (h : (Jvm.Cond.and given_1 narrow_1).before args s = true) : (Jvm.Cond.not (Jvm.Cond.eq (Jvm.Term.string "TwoAsks$Tokens" (47 : Nat)) (Jvm.Term.string "TwoAsks$Tokens" (74 : Nat)))).before args s = true := (k_andl (k_andr (k_andr (k_andr (k_andr (k_andl (k_andr (k_andr (k_andr h)))))))))
theorem nf242 {args : Array Value} {s : State} (h : (Jvm.Cond.and given_1 narrow_1).before args s = true) : (Jvm.Cond.not (Jvm.Cond.eq (Jvm.Term.string "TwoAsks$Tokens" (49 : Nat)) (Jvm.Term.string "TwoAsks$Tokens" (74 : Nat)))).before args s = true := (k_andl (k_andr (k_andr (k_andr (k_andr (k_andr (k_andl (k_andr (k_andr (k_andr h))))))))))
theorem nf243 {args : Array Value} {s : State} (h : (Jvm.Cond.and given_1 narrow_1).before args s = true) : (Jvm.Cond.not (Jvm.Cond.eq (Jvm.Term.string "TwoAsks$Tokens" (51 : Nat)) (Jvm.Term.string "TwoAsks$Tokens" (74 : Nat)))).before args s = true := (k_andr (k_andr (k_andr (k_andr (k_andr (k_andr (k_andl (k_andr (k_andr (k_andr h))))))))))
theorem nf244 {args : Array Value} {s : State} (h : (Jvm.Cond.and given_1 narrow_1).before args s = true) : (Jvm.Cond.not (Jvm.Cond.eq (Jvm.Term.string "TwoAsks$Tokens" (53 : Nat)) (Jvm.Term.string "TwoAsks$Tokens" (74 : Nat)))).before args s = true := (k_andl (k_andl (k_andl (k_andl (k_andl (k_andr (k_andr (k_andr (k_andr h)))))))))
theorem nf245 {args : Array Value} {s : State} (h : (Jvm.Cond.and given_1 narrow_1).before args s = true) : (Jvm.Cond.not (Jvm.Cond.eq (Jvm.Term.string "TwoAsks$Tokens" (55 : Nat)) (Jvm.Term.string "TwoAsks$Tokens" (74 : Nat)))).before args s = true := (k_andr (k_andl (k_andl (k_andl (k_andl (k_andr (k_andr (k_andr (k_andr h)))))))))
theorem nf246 {args : Array Value} {s : State} (h : (Jvm.Cond.and given_1 narrow_1).before args s = true) : (Jvm.Cond.not (Jvm.Cond.eq (Jvm.Term.string "TwoAsks$Tokens" (57 : Nat)) (Jvm.Term.string "TwoAsks$Tokens" (74 : Nat)))).before args s = true := (k_andl (k_andr (k_andl (k_andl (k_andl (k_andr (k_andr (k_andr (k_andr h)))))))))
theorem nf247 {args : Array Value} {s : State} (h : (Jvm.Cond.and given_1 narrow_1).before args s = true) : (Jvm.Cond.not (Jvm.Cond.eq (Jvm.Term.string "TwoAsks$Tokens" (59 : Nat)) (Jvm.Term.string "TwoAsks$Tokens" (74 : Nat)))).before args s = true := (k_andr (k_andr (k_andl (k_andl (k_andl (k_andr (k_andr (k_andr (k_andr h)))))))))
theorem nf248 {args : Array Value} {s : State} (h : (Jvm.Cond.and given_1 narrow_1).before args s = true) : (Jvm.Cond.not (Jvm.Cond.eq (Jvm.Term.string "TwoAsks$Tokens" (61 : Nat)) (Jvm.Term.string "TwoAsks$Tokens" (74 : Nat)))).before args s = true := (k_andl (k_andl (k_andr (k_andl (k_andl (k_andr (k_andr (k_andr (k_andr h)))))))))
theorem nf249 {args : Array Value} {s : State} (h : (Jvm.Cond.and given_1 narrow_1).before args s = true) : (Jvm.Cond.not (Jvm.Cond.eq (Jvm.Term.string "TwoAsks$Tokens" (63 : Nat)) (Jvm.Term.string "TwoAsks$Tokens" (74 : Nat)))).before args s = true := (k_andr (k_andl (k_andr (k_andl (k_andl (k_andr (k_andr (k_andr (k_andr h)))))))))
theorem nf250 {args : Array Value} {s : State} (h : (Jvm.Cond.and given_1 narrow_1).before args s = true) : (Jvm.Cond.not (Jvm.Cond.eq (Jvm.Term.string "TwoAsks$Tokens" (65 : Nat)) (Jvm.Term.string "TwoAsks$Tokens" (74 : Nat)))).before args s = true := (k_andl (k_andr (k_andr (k_andl (k_andl (k_andr (k_andr (k_andr (k_andr h)))))))))
theorem nf251 {args : Array Value} {s : State} (h : (Jvm.Cond.and given_1 narrow_1).before args s = true) : (Jvm.Cond.not (Jvm.Cond.eq (Jvm.Term.string "TwoAsks$Tokens" (67 : Nat)) (Jvm.Term.string "TwoAsks$Tokens" (74 : Nat)))).before args s = true := (k_andr (k_andr (k_andr (k_andl (k_andl (k_andr (k_andr (k_andr (k_andr h)))))))))
theorem nf252 {args : Array Value} {s : State} (h : (Jvm.Cond.and given_1 narrow_1).before args s = true) : (Jvm.Cond.not (Jvm.Cond.eq (Jvm.Term.string "TwoAsks$Tokens" (69 : Nat)) (Jvm.Term.string "TwoAsks$Tokens" (74 : Nat)))).before args s = true := (k_andl (k_andl (k_andl (k_andr (k_andl (k_andr (k_andr (k_andr (k_andr h)))))))))
theorem nf253 {args : Array Value} {s : State} (h : (Jvm.Cond.and given_1 narrow_1).before args s = true) : (Jvm.Cond.not (Jvm.Cond.eq (Jvm.Term.string "TwoAsks$Tokens" (71 : Nat)) (Jvm.Term.string "TwoAsks$Tokens" (74 : Nat)))).before args s = true := (k_andr (k_andl (k_andl (k_andr (k_andl (k_andr (k_andr (k_andr (k_andr h)))))))))
theorem nf254 {args : Array Value} {s : State} (h : (Jvm.Cond.and given_1 narrow_1).before args s = true) : (Jvm.Cond.not (Jvm.Cond.eq (Jvm.Term.string "TwoAsks$Tokens" (72 : Nat)) (Jvm.Term.string "TwoAsks$Tokens" (74 : Nat)))).before args s = true := (k_andl (k_andr (k_andl (k_andr (k_andl (k_andr (k_andr (k_andr (k_andr h)))))))))
theorem nf255 {args : Array Value} {s : State} (h : (Jvm.Cond.and given_1 narrow_1).before args s = true) : (Jvm.Cond.exactly (Jvm.Term.string "TwoAsks$Tokens" (76 : Nat)) "java/lang/String").before args s = true := (k_andr (k_andr (k_andl (k_andr (k_andl (k_andr (k_andr (k_andr (k_andr h)))))))))
theorem nf256 {args : Array Value} {s : State} (h : (Jvm.Cond.and given_1 narrow_1).before args s = true) : (Jvm.Cond.eq (Jvm.Term.field (Jvm.Term.string "TwoAsks$Tokens" (76 : Nat)) "java/lang/String" "coder" "B") (Jvm.Term.int (0 : Int32))).before args s = true := (k_andl (k_andl (k_andr (k_andr (k_andl (k_andr (k_andr (k_andr (k_andr h)))))))))
theorem nf257 {args : Array Value} {s : State} (h : (Jvm.Cond.and given_1 narrow_1).before args s = true) : (Jvm.Cond.arrayOf (Jvm.Term.field (Jvm.Term.string "TwoAsks$Tokens" (76 : Nat)) "java/lang/String" "value" "[B") Jvm.ClassFile.FieldType.byte).before args s = true := (k_andr (k_andl (k_andr (k_andr (k_andl (k_andr (k_andr (k_andr (k_andr h)))))))))
theorem nf258 {args : Array Value} {s : State} (h : (Jvm.Cond.and given_1 narrow_1).before args s = true) : (Jvm.Cond.eq (Jvm.Term.length (Jvm.Term.field (Jvm.Term.string "TwoAsks$Tokens" (76 : Nat)) "java/lang/String" "value" "[B")) (Jvm.Term.int (4 : Int32))).before args s = true := (k_andl (k_andr (k_andr (k_andr (k_andl (k_andr (k_andr (k_andr (k_andr h)))))))))
theorem nf259 {args : Array Value} {s : State} (h : (Jvm.Cond.and given_1 narrow_1).before args s = true) : (Jvm.Cond.eq (Jvm.Term.elem (Jvm.Term.field (Jvm.Term.string "TwoAsks$Tokens" (76 : Nat)) "java/lang/String" "value" "[B") (Jvm.Term.int (0 : Int32))) (Jvm.Term.int (115 : Int32))).before args s = true := (k_andl (k_andr (k_andr (k_andr (k_andr (k_andl (k_andr (k_andr (k_andr (k_andr h))))))))))
theorem nf260 {args : Array Value} {s : State} (h : (Jvm.Cond.and given_1 narrow_1).before args s = true) : (Jvm.Cond.eq (Jvm.Term.elem (Jvm.Term.field (Jvm.Term.string "TwoAsks$Tokens" (76 : Nat)) "java/lang/String" "value" "[B") (Jvm.Term.int (1 : Int32))) (Jvm.Term.int (97 : Int32))).before args s = true := (k_andr (k_andr (k_andr (k_andr (k_andr (k_andl (k_andr (k_andr (k_andr (k_andr h))))))))))
theorem nf261 {args : Array Value} {s : State} (h : (Jvm.Cond.and given_1 narrow_1).before args s = true) : (Jvm.Cond.eq (Jvm.Term.elem (Jvm.Term.field (Jvm.Term.string "TwoAsks$Tokens" (76 : Nat)) "java/lang/String" "value" "[B") (Jvm.Term.int (2 : Int32))) (Jvm.Term.int (105 : Int32))).before args s = true := (k_andl (k_andl (k_andl (k_andl (k_andr (k_andr (k_andr (k_andr (k_andr h)))))))))
theorem nf262 {args : Array Value} {s : State} (h : (Jvm.Cond.and given_1 narrow_1).before args s = true) : (Jvm.Cond.eq (Jvm.Term.elem (Jvm.Term.field (Jvm.Term.string "TwoAsks$Tokens" (76 : Nat)) "java/lang/String" "value" "[B") (Jvm.Term.int (3 : Int32))) (Jvm.Term.int (100 : Int32))).before args s = true := (k_andr (k_andl (k_andl (k_andl (k_andr (k_andr (k_andr (k_andr (k_andr h)))))))))
theorem nf263 {args : Array Value} {s : State} (h : (Jvm.Cond.and given_1 narrow_1).before args s = true) : (Jvm.Cond.not (Jvm.Cond.eq (Jvm.Term.string "TwoAsks$Tokens" (45 : Nat)) (Jvm.Term.string "TwoAsks$Tokens" (76 : Nat)))).before args s = true := (k_andl (k_andr (k_andl (k_andl (k_andr (k_andr (k_andr (k_andr (k_andr h)))))))))
theorem nf264 {args : Array Value} {s : State} (h : (Jvm.Cond.and given_1 narrow_1).before args s = true) : (Jvm.Cond.not (Jvm.Cond.eq (Jvm.Term.string "TwoAsks$Tokens" (47 : Nat)) (Jvm.Term.string "TwoAsks$Tokens" (76 : Nat)))).before args s = true := (k_andr (k_andr (k_andl (k_andl (k_andr (k_andr (k_andr (k_andr (k_andr h)))))))))
theorem nf265 {args : Array Value} {s : State} (h : (Jvm.Cond.and given_1 narrow_1).before args s = true) : (Jvm.Cond.not (Jvm.Cond.eq (Jvm.Term.string "TwoAsks$Tokens" (49 : Nat)) (Jvm.Term.string "TwoAsks$Tokens" (76 : Nat)))).before args s = true := (k_andl (k_andl (k_andr (k_andl (k_andr (k_andr (k_andr (k_andr (k_andr h)))))))))
theorem nf266 {args : Array Value} {s : State} (h : (Jvm.Cond.and given_1 narrow_1).before args s = true) : (Jvm.Cond.not (Jvm.Cond.eq (Jvm.Term.string "TwoAsks$Tokens" (51 : Nat)) (Jvm.Term.string "TwoAsks$Tokens" (76 : Nat)))).before args s = true := (k_andr (k_andl (k_andr (k_andl (k_andr (k_andr (k_andr (k_andr (k_andr h)))))))))
theorem nf267 {args : Array Value} {s : State} (h : (Jvm.Cond.and given_1 narrow_1).before args s = true) : (Jvm.Cond.not (Jvm.Cond.eq (Jvm.Term.string "TwoAsks$Tokens" (53 : Nat)) (Jvm.Term.string "TwoAsks$Tokens" (76 : Nat)))).before args s = true := (k_andl (k_andr (k_andr (k_andl (k_andr (k_andr (k_andr (k_andr (k_andr h)))))))))
theorem nf268 {args : Array Value} {s : State} (h : (Jvm.Cond.and given_1 narrow_1).before args s = true) : (Jvm.Cond.not (Jvm.Cond.eq (Jvm.Term.string "TwoAsks$Tokens" (55 : Nat)) (Jvm.Term.string "TwoAsks$Tokens" (76 : Nat)))).before args s = true := (k_andl (k_andr (k_andr (k_andr (k_andl (k_andr (k_andr (k_andr (k_andr (k_andr h))))))))))
theorem nf269 {args : Array Value} {s : State} (h : (Jvm.Cond.and given_1 narrow_1).before args s = true) : (Jvm.Cond.not (Jvm.Cond.eq (Jvm.Term.string "TwoAsks$Tokens" (57 : Nat)) (Jvm.Term.string "TwoAsks$Tokens" (76 : Nat)))).before args s = true := (k_andr (k_andr (k_andr (k_andr (k_andl (k_andr (k_andr (k_andr (k_andr (k_andr h))))))))))
theorem nf270 {args : Array Value} {s : State} (h : (Jvm.Cond.and given_1 narrow_1).before args s = true) : (Jvm.Cond.not (Jvm.Cond.eq (Jvm.Term.string "TwoAsks$Tokens" (59 : Nat)) (Jvm.Term.string "TwoAsks$Tokens" (76 : Nat)))).before args s = true := (k_andl (k_andl (k_andl (k_andr (k_andr (k_andr (k_andr (k_andr (k_andr h)))))))))
theorem nf271 {args : Array Value} {s : State} (h : (Jvm.Cond.and given_1 narrow_1).before args s = true) : (Jvm.Cond.not (Jvm.Cond.eq (Jvm.Term.string "TwoAsks$Tokens" (61 : Nat)) (Jvm.Term.string "TwoAsks$Tokens" (76 : Nat)))).before args s = true := (k_andr (k_andl (k_andl (k_andr (k_andr (k_andr (k_andr (k_andr (k_andr h)))))))))
theorem nf272 {args : Array Value} {s : State} (h : (Jvm.Cond.and given_1 narrow_1).before args s = true) : (Jvm.Cond.not (Jvm.Cond.eq (Jvm.Term.string "TwoAsks$Tokens" (63 : Nat)) (Jvm.Term.string "TwoAsks$Tokens" (76 : Nat)))).before args s = true := (k_andl (k_andr (k_andl (k_andr (k_andr (k_andr (k_andr (k_andr (k_andr h)))))))))
theorem nf273 {args : Array Value} {s : State} (h : (Jvm.Cond.and given_1 narrow_1).before args s = true) : (Jvm.Cond.not (Jvm.Cond.eq (Jvm.Term.string "TwoAsks$Tokens" (65 : Nat)) (Jvm.Term.string "TwoAsks$Tokens" (76 : Nat)))).before args s = true := (k_andr (k_andr (k_andl (k_andr (k_andr (k_andr (k_andr (k_andr (k_andr h)))))))))
theorem nf274 {args : Array Value} {s : State} (h : (Jvm.Cond.and given_1 narrow_1).before args s = true) : (Jvm.Cond.not (Jvm.Cond.eq (Jvm.Term.string "TwoAsks$Tokens" (67 : Nat)) (Jvm.Term.string "TwoAsks$Tokens" (76 : Nat)))).before args s = true := (k_andl (k_andl (k_andr (k_andr (k_andr (k_andr (k_andr (k_andr (k_andr h)))))))))
theorem nf275 {args : Array Value} {s : State} (h : (Jvm.Cond.and given_1 narrow_1).before args s = true) : (Jvm.Cond.not (Jvm.Cond.eq (Jvm.Term.string "TwoAsks$Tokens" (69 : Nat)) (Jvm.Term.string "TwoAsks$Tokens" (76 : Nat)))).before args s = true := (k_andr (k_andl (k_andr (k_andr (k_andr (k_andr (k_andr (k_andr (k_andr h)))))))))
theorem nf276 {args : Array Value} {s : State} (h : (Jvm.Cond.and given_1 narrow_1).before args s = true) : (Jvm.Cond.not (Jvm.Cond.eq (Jvm.Term.string "TwoAsks$Tokens" (71 : Nat)) (Jvm.Term.string "TwoAsks$Tokens" (76 : Nat)))).before args s = true := (k_andl (k_andr (k_andr (k_andr (k_andr (k_andr (k_andr (k_andr (k_andr h)))))))))
theorem nf277 {args : Array Value} {s : State} (h : (Jvm.Cond.and given_1 narrow_1).before args s = true) : (Jvm.Cond.not (Jvm.Cond.eq (Jvm.Term.string "TwoAsks$Tokens" (72 : Nat)) (Jvm.Term.string "TwoAsks$Tokens" (76 : Nat)))).before args s = true := (k_andl (k_andr (k_andr (k_andr (k_andr (k_andr (k_andr (k_andr (k_andr (k_andr h))))))))))
theorem nf278 {args : Array Value} {s : State} (h : (Jvm.Cond.and given_1 narrow_1).before args s = true) : (Jvm.Cond.not (Jvm.Cond.eq (Jvm.Term.string "TwoAsks$Tokens" (74 : Nat)) (Jvm.Term.string "TwoAsks$Tokens" (76 : Nat)))).before args s = true := (k_andr (k_andr (k_andr (k_andr (k_andr (k_andr (k_andr (k_andr (k_andr (k_andr h))))))))))
def strTm (i : Nat) : Term := .string "TwoAsks$Tokens" (strIdx.getD i 0)
theorem st_ex {args : Array Value} {s : State} (h : (Jvm.Cond.and given_1 narrow_1).before args s = true) : ∀ i : Nat, i < 17 → (Cond.exactly (strTm i) "java/lang/String").before args s = true := by
  intro i hi
  match i, hi with
  | 0, _ => exact nf7 h
  | 1, _ => exact nf14 h
  | 2, _ => exact nf23 h
  | 3, _ => exact nf32 h
  | 4, _ => exact nf44 h
  | 5, _ => exact nf57 h
  | 6, _ => exact nf69 h
  | 7, _ => exact nf84 h
  | 8, _ => exact nf99 h
  | 9, _ => exact nf113 h
  | 10, _ => exact nf130 h
  | 11, _ => exact nf148 h
  | 12, _ => exact nf168 h
  | 13, _ => exact nf189 h
  | 14, _ => exact nf210 h
  | 15, _ => exact nf232 h
  | 16, _ => exact nf255 h
  | i + 17, hi => exact absurd hi (by omega)
theorem st_co {args : Array Value} {s : State} (h : (Jvm.Cond.and given_1 narrow_1).before args s = true) : ∀ i : Nat, i < 17 → (Cond.eq (.field (strTm i) "java/lang/String" "coder" "B") (.int 0)).before args s = true := by
  intro i hi
  match i, hi with
  | 0, _ => exact nf8 h
  | 1, _ => exact nf15 h
  | 2, _ => exact nf24 h
  | 3, _ => exact nf33 h
  | 4, _ => exact nf45 h
  | 5, _ => exact nf58 h
  | 6, _ => exact nf70 h
  | 7, _ => exact nf85 h
  | 8, _ => exact nf100 h
  | 9, _ => exact nf114 h
  | 10, _ => exact nf131 h
  | 11, _ => exact nf149 h
  | 12, _ => exact nf169 h
  | 13, _ => exact nf190 h
  | 14, _ => exact nf211 h
  | 15, _ => exact nf233 h
  | 16, _ => exact nf256 h
  | i + 17, hi => exact absurd hi (by omega)
theorem st_ar {args : Array Value} {s : State} (h : (Jvm.Cond.and given_1 narrow_1).before args s = true) : ∀ i : Nat, i < 17 → (Cond.arrayOf (.field (strTm i) "java/lang/String" "value" "[B") .byte).before args s = true := by
  intro i hi
  match i, hi with
  | 0, _ => exact nf9 h
  | 1, _ => exact nf16 h
  | 2, _ => exact nf25 h
  | 3, _ => exact nf34 h
  | 4, _ => exact nf46 h
  | 5, _ => exact nf59 h
  | 6, _ => exact nf71 h
  | 7, _ => exact nf86 h
  | 8, _ => exact nf101 h
  | 9, _ => exact nf115 h
  | 10, _ => exact nf132 h
  | 11, _ => exact nf150 h
  | 12, _ => exact nf170 h
  | 13, _ => exact nf191 h
  | 14, _ => exact nf212 h
  | 15, _ => exact nf234 h
  | 16, _ => exact nf257 h
  | i + 17, hi => exact absurd hi (by omega)
theorem st_le {args : Array Value} {s : State} (h : (Jvm.Cond.and given_1 narrow_1).before args s = true) : ∀ i : Nat, i < 17 → (Cond.eq (.length (.field (strTm i) "java/lang/String" "value" "[B")) (.int (Int32.ofNat (strLen.getD i 0)))).before args s = true := by
  intro i hi
  match i, hi with
  | 0, _ => exact nf10 h
  | 1, _ => exact nf17 h
  | 2, _ => exact nf26 h
  | 3, _ => exact nf35 h
  | 4, _ => exact nf47 h
  | 5, _ => exact nf60 h
  | 6, _ => exact nf72 h
  | 7, _ => exact nf87 h
  | 8, _ => exact nf102 h
  | 9, _ => exact nf116 h
  | 10, _ => exact nf133 h
  | 11, _ => exact nf151 h
  | 12, _ => exact nf171 h
  | 13, _ => exact nf192 h
  | 14, _ => exact nf213 h
  | 15, _ => exact nf235 h
  | 16, _ => exact nf258 h
  | i + 17, hi => exact absurd hi (by omega)
theorem st_el0 {args : Array Value} {s : State} (h : (Jvm.Cond.and given_1 narrow_1).before args s = true) : ∀ j : Nat, j < 3 → (Cond.eq (.elem (.field (strTm 0) "java/lang/String" "value" "[B") (.int (Int32.ofNat j))) (.int ((strByt.getD 0 []).getD j 0))).before args s = true := by
  intro j hj
  match j, hj with
  | 0, _ => exact nf11 h
  | 1, _ => exact nf12 h
  | 2, _ => exact nf13 h
  | j + 3, hj => exact absurd hj (by omega)
theorem st_el1 {args : Array Value} {s : State} (h : (Jvm.Cond.and given_1 narrow_1).before args s = true) : ∀ j : Nat, j < 4 → (Cond.eq (.elem (.field (strTm 1) "java/lang/String" "value" "[B") (.int (Int32.ofNat j))) (.int ((strByt.getD 1 []).getD j 0))).before args s = true := by
  intro j hj
  match j, hj with
  | 0, _ => exact nf18 h
  | 1, _ => exact nf19 h
  | 2, _ => exact nf20 h
  | 3, _ => exact nf21 h
  | j + 4, hj => exact absurd hj (by omega)
theorem st_el2 {args : Array Value} {s : State} (h : (Jvm.Cond.and given_1 narrow_1).before args s = true) : ∀ j : Nat, j < 3 → (Cond.eq (.elem (.field (strTm 2) "java/lang/String" "value" "[B") (.int (Int32.ofNat j))) (.int ((strByt.getD 2 []).getD j 0))).before args s = true := by
  intro j hj
  match j, hj with
  | 0, _ => exact nf27 h
  | 1, _ => exact nf28 h
  | 2, _ => exact nf29 h
  | j + 3, hj => exact absurd hj (by omega)
theorem st_el3 {args : Array Value} {s : State} (h : (Jvm.Cond.and given_1 narrow_1).before args s = true) : ∀ j : Nat, j < 5 → (Cond.eq (.elem (.field (strTm 3) "java/lang/String" "value" "[B") (.int (Int32.ofNat j))) (.int ((strByt.getD 3 []).getD j 0))).before args s = true := by
  intro j hj
  match j, hj with
  | 0, _ => exact nf36 h
  | 1, _ => exact nf37 h
  | 2, _ => exact nf38 h
  | 3, _ => exact nf39 h
  | 4, _ => exact nf40 h
  | j + 5, hj => exact absurd hj (by omega)
theorem st_el4 {args : Array Value} {s : State} (h : (Jvm.Cond.and given_1 narrow_1).before args s = true) : ∀ j : Nat, j < 5 → (Cond.eq (.elem (.field (strTm 4) "java/lang/String" "value" "[B") (.int (Int32.ofNat j))) (.int ((strByt.getD 4 []).getD j 0))).before args s = true := by
  intro j hj
  match j, hj with
  | 0, _ => exact nf48 h
  | 1, _ => exact nf49 h
  | 2, _ => exact nf50 h
  | 3, _ => exact nf51 h
  | 4, _ => exact nf52 h
  | j + 5, hj => exact absurd hj (by omega)
theorem st_el5 {args : Array Value} {s : State} (h : (Jvm.Cond.and given_1 narrow_1).before args s = true) : ∀ j : Nat, j < 3 → (Cond.eq (.elem (.field (strTm 5) "java/lang/String" "value" "[B") (.int (Int32.ofNat j))) (.int ((strByt.getD 5 []).getD j 0))).before args s = true := by
  intro j hj
  match j, hj with
  | 0, _ => exact nf61 h
  | 1, _ => exact nf62 h
  | 2, _ => exact nf63 h
  | j + 3, hj => exact absurd hj (by omega)
theorem st_el6 {args : Array Value} {s : State} (h : (Jvm.Cond.and given_1 narrow_1).before args s = true) : ∀ j : Nat, j < 5 → (Cond.eq (.elem (.field (strTm 6) "java/lang/String" "value" "[B") (.int (Int32.ofNat j))) (.int ((strByt.getD 6 []).getD j 0))).before args s = true := by
  intro j hj
  match j, hj with
  | 0, _ => exact nf73 h
  | 1, _ => exact nf74 h
  | 2, _ => exact nf75 h
  | 3, _ => exact nf76 h
  | 4, _ => exact nf77 h
  | j + 5, hj => exact absurd hj (by omega)
theorem st_el7 {args : Array Value} {s : State} (h : (Jvm.Cond.and given_1 narrow_1).before args s = true) : ∀ j : Nat, j < 4 → (Cond.eq (.elem (.field (strTm 7) "java/lang/String" "value" "[B") (.int (Int32.ofNat j))) (.int ((strByt.getD 7 []).getD j 0))).before args s = true := by
  intro j hj
  match j, hj with
  | 0, _ => exact nf88 h
  | 1, _ => exact nf89 h
  | 2, _ => exact nf90 h
  | 3, _ => exact nf91 h
  | j + 4, hj => exact absurd hj (by omega)
theorem st_el8 {args : Array Value} {s : State} (h : (Jvm.Cond.and given_1 narrow_1).before args s = true) : ∀ j : Nat, j < 2 → (Cond.eq (.elem (.field (strTm 8) "java/lang/String" "value" "[B") (.int (Int32.ofNat j))) (.int ((strByt.getD 8 []).getD j 0))).before args s = true := by
  intro j hj
  match j, hj with
  | 0, _ => exact nf103 h
  | 1, _ => exact nf104 h
  | j + 2, hj => exact absurd hj (by omega)
theorem st_el9 {args : Array Value} {s : State} (h : (Jvm.Cond.and given_1 narrow_1).before args s = true) : ∀ j : Nat, j < 4 → (Cond.eq (.elem (.field (strTm 9) "java/lang/String" "value" "[B") (.int (Int32.ofNat j))) (.int ((strByt.getD 9 []).getD j 0))).before args s = true := by
  intro j hj
  match j, hj with
  | 0, _ => exact nf117 h
  | 1, _ => exact nf118 h
  | 2, _ => exact nf119 h
  | 3, _ => exact nf120 h
  | j + 4, hj => exact absurd hj (by omega)
theorem st_el10 {args : Array Value} {s : State} (h : (Jvm.Cond.and given_1 narrow_1).before args s = true) : ∀ j : Nat, j < 4 → (Cond.eq (.elem (.field (strTm 10) "java/lang/String" "value" "[B") (.int (Int32.ofNat j))) (.int ((strByt.getD 10 []).getD j 0))).before args s = true := by
  intro j hj
  match j, hj with
  | 0, _ => exact nf134 h
  | 1, _ => exact nf135 h
  | 2, _ => exact nf136 h
  | 3, _ => exact nf137 h
  | j + 4, hj => exact absurd hj (by omega)
theorem st_el11 {args : Array Value} {s : State} (h : (Jvm.Cond.and given_1 narrow_1).before args s = true) : ∀ j : Nat, j < 5 → (Cond.eq (.elem (.field (strTm 11) "java/lang/String" "value" "[B") (.int (Int32.ofNat j))) (.int ((strByt.getD 11 []).getD j 0))).before args s = true := by
  intro j hj
  match j, hj with
  | 0, _ => exact nf152 h
  | 1, _ => exact nf153 h
  | 2, _ => exact nf154 h
  | 3, _ => exact nf155 h
  | 4, _ => exact nf156 h
  | j + 5, hj => exact absurd hj (by omega)
theorem st_el12 {args : Array Value} {s : State} (h : (Jvm.Cond.and given_1 narrow_1).before args s = true) : ∀ j : Nat, j < 5 → (Cond.eq (.elem (.field (strTm 12) "java/lang/String" "value" "[B") (.int (Int32.ofNat j))) (.int ((strByt.getD 12 []).getD j 0))).before args s = true := by
  intro j hj
  match j, hj with
  | 0, _ => exact nf172 h
  | 1, _ => exact nf173 h
  | 2, _ => exact nf174 h
  | 3, _ => exact nf175 h
  | 4, _ => exact nf176 h
  | j + 5, hj => exact absurd hj (by omega)
theorem st_el13 {args : Array Value} {s : State} (h : (Jvm.Cond.and given_1 narrow_1).before args s = true) : ∀ j : Nat, j < 4 → (Cond.eq (.elem (.field (strTm 13) "java/lang/String" "value" "[B") (.int (Int32.ofNat j))) (.int ((strByt.getD 13 []).getD j 0))).before args s = true := by
  intro j hj
  match j, hj with
  | 0, _ => exact nf193 h
  | 1, _ => exact nf194 h
  | 2, _ => exact nf195 h
  | 3, _ => exact nf196 h
  | j + 4, hj => exact absurd hj (by omega)
theorem st_el14 {args : Array Value} {s : State} (h : (Jvm.Cond.and given_1 narrow_1).before args s = true) : ∀ j : Nat, j < 4 → (Cond.eq (.elem (.field (strTm 14) "java/lang/String" "value" "[B") (.int (Int32.ofNat j))) (.int ((strByt.getD 14 []).getD j 0))).before args s = true := by
  intro j hj
  match j, hj with
  | 0, _ => exact nf214 h
  | 1, _ => exact nf215 h
  | 2, _ => exact nf216 h
  | 3, _ => exact nf217 h
  | j + 4, hj => exact absurd hj (by omega)
theorem st_el15 {args : Array Value} {s : State} (h : (Jvm.Cond.and given_1 narrow_1).before args s = true) : ∀ j : Nat, j < 4 → (Cond.eq (.elem (.field (strTm 15) "java/lang/String" "value" "[B") (.int (Int32.ofNat j))) (.int ((strByt.getD 15 []).getD j 0))).before args s = true := by
  intro j hj
  match j, hj with
  | 0, _ => exact nf236 h
  | 1, _ => exact nf237 h
  | 2, _ => exact nf238 h
  | 3, _ => exact nf239 h
  | j + 4, hj => exact absurd hj (by omega)
theorem st_el16 {args : Array Value} {s : State} (h : (Jvm.Cond.and given_1 narrow_1).before args s = true) : ∀ j : Nat, j < 4 → (Cond.eq (.elem (.field (strTm 16) "java/lang/String" "value" "[B") (.int (Int32.ofNat j))) (.int ((strByt.getD 16 []).getD j 0))).before args s = true := by
  intro j hj
  match j, hj with
  | 0, _ => exact nf259 h
  | 1, _ => exact nf260 h
  | 2, _ => exact nf261 h
  | 3, _ => exact nf262 h
  | j + 4, hj => exact absurd hj (by omega)
theorem st_el {args : Array Value} {s : State} (h : (Jvm.Cond.and given_1 narrow_1).before args s = true) : ∀ i : Nat, i < 17 → ∀ j : Nat, j < strLen.getD i 0 → (Cond.eq (.elem (.field (strTm i) "java/lang/String" "value" "[B") (.int (Int32.ofNat j))) (.int ((strByt.getD i []).getD j 0))).before args s = true := by
  intro i hi
  match i, hi with
  | 0, _ => exact st_el0 h
  | 1, _ => exact st_el1 h
  | 2, _ => exact st_el2 h
  | 3, _ => exact st_el3 h
  | 4, _ => exact st_el4 h
  | 5, _ => exact st_el5 h
  | 6, _ => exact st_el6 h
  | 7, _ => exact st_el7 h
  | 8, _ => exact st_el8 h
  | 9, _ => exact st_el9 h
  | 10, _ => exact st_el10 h
  | 11, _ => exact st_el11 h
  | 12, _ => exact st_el12 h
  | 13, _ => exact st_el13 h
  | 14, _ => exact st_el14 h
  | 15, _ => exact st_el15 h
  | 16, _ => exact st_el16 h
  | i + 17, hi => exact absurd hi (by omega)
theorem st_ne0 {args : Array Value} {s : State} (h : (Jvm.Cond.and given_1 narrow_1).before args s = true) : ∀ j : Nat, j < 17 → 0 ≠ j → (Cond.not (Cond.eq (strTm 0) (strTm j))).before args s = true ∨ (Cond.not (Cond.eq (strTm j) (strTm 0))).before args s = true := by
  intro j hj hne
  match j, hj, hne with
  | 0, _, hne => exact absurd rfl hne
  | 1, _, _ => exact Or.inl (nf22 h)
  | 2, _, _ => exact Or.inl (nf30 h)
  | 3, _, _ => exact Or.inl (nf41 h)
  | 4, _, _ => exact Or.inl (nf53 h)
  | 5, _, _ => exact Or.inl (nf64 h)
  | 6, _, _ => exact Or.inl (nf78 h)
  | 7, _, _ => exact Or.inl (nf92 h)
  | 8, _, _ => exact Or.inl (nf105 h)
  | 9, _, _ => exact Or.inl (nf121 h)
  | 10, _, _ => exact Or.inl (nf138 h)
  | 11, _, _ => exact Or.inl (nf157 h)
  | 12, _, _ => exact Or.inl (nf177 h)
  | 13, _, _ => exact Or.inl (nf197 h)
  | 14, _, _ => exact Or.inl (nf218 h)
  | 15, _, _ => exact Or.inl (nf240 h)
  | 16, _, _ => exact Or.inl (nf263 h)
  | j + 17, hj, _ => exact absurd hj (by omega)
theorem st_ne1 {args : Array Value} {s : State} (h : (Jvm.Cond.and given_1 narrow_1).before args s = true) : ∀ j : Nat, j < 17 → 1 ≠ j → (Cond.not (Cond.eq (strTm 1) (strTm j))).before args s = true ∨ (Cond.not (Cond.eq (strTm j) (strTm 1))).before args s = true := by
  intro j hj hne
  match j, hj, hne with
  | 0, _, _ => exact Or.inr (nf22 h)
  | 1, _, hne => exact absurd rfl hne
  | 2, _, _ => exact Or.inl (nf31 h)
  | 3, _, _ => exact Or.inl (nf42 h)
  | 4, _, _ => exact Or.inl (nf54 h)
  | 5, _, _ => exact Or.inl (nf65 h)
  | 6, _, _ => exact Or.inl (nf79 h)
  | 7, _, _ => exact Or.inl (nf93 h)
  | 8, _, _ => exact Or.inl (nf106 h)
  | 9, _, _ => exact Or.inl (nf122 h)
  | 10, _, _ => exact Or.inl (nf139 h)
  | 11, _, _ => exact Or.inl (nf158 h)
  | 12, _, _ => exact Or.inl (nf178 h)
  | 13, _, _ => exact Or.inl (nf198 h)
  | 14, _, _ => exact Or.inl (nf219 h)
  | 15, _, _ => exact Or.inl (nf241 h)
  | 16, _, _ => exact Or.inl (nf264 h)
  | j + 17, hj, _ => exact absurd hj (by omega)
theorem st_ne2 {args : Array Value} {s : State} (h : (Jvm.Cond.and given_1 narrow_1).before args s = true) : ∀ j : Nat, j < 17 → 2 ≠ j → (Cond.not (Cond.eq (strTm 2) (strTm j))).before args s = true ∨ (Cond.not (Cond.eq (strTm j) (strTm 2))).before args s = true := by
  intro j hj hne
  match j, hj, hne with
  | 0, _, _ => exact Or.inr (nf30 h)
  | 1, _, _ => exact Or.inr (nf31 h)
  | 2, _, hne => exact absurd rfl hne
  | 3, _, _ => exact Or.inl (nf43 h)
  | 4, _, _ => exact Or.inl (nf55 h)
  | 5, _, _ => exact Or.inl (nf66 h)
  | 6, _, _ => exact Or.inl (nf80 h)
  | 7, _, _ => exact Or.inl (nf94 h)
  | 8, _, _ => exact Or.inl (nf107 h)
  | 9, _, _ => exact Or.inl (nf123 h)
  | 10, _, _ => exact Or.inl (nf140 h)
  | 11, _, _ => exact Or.inl (nf159 h)
  | 12, _, _ => exact Or.inl (nf179 h)
  | 13, _, _ => exact Or.inl (nf199 h)
  | 14, _, _ => exact Or.inl (nf220 h)
  | 15, _, _ => exact Or.inl (nf242 h)
  | 16, _, _ => exact Or.inl (nf265 h)
  | j + 17, hj, _ => exact absurd hj (by omega)
theorem st_ne3 {args : Array Value} {s : State} (h : (Jvm.Cond.and given_1 narrow_1).before args s = true) : ∀ j : Nat, j < 17 → 3 ≠ j → (Cond.not (Cond.eq (strTm 3) (strTm j))).before args s = true ∨ (Cond.not (Cond.eq (strTm j) (strTm 3))).before args s = true := by
  intro j hj hne
  match j, hj, hne with
  | 0, _, _ => exact Or.inr (nf41 h)
  | 1, _, _ => exact Or.inr (nf42 h)
  | 2, _, _ => exact Or.inr (nf43 h)
  | 3, _, hne => exact absurd rfl hne
  | 4, _, _ => exact Or.inl (nf56 h)
  | 5, _, _ => exact Or.inl (nf67 h)
  | 6, _, _ => exact Or.inl (nf81 h)
  | 7, _, _ => exact Or.inl (nf95 h)
  | 8, _, _ => exact Or.inl (nf108 h)
  | 9, _, _ => exact Or.inl (nf124 h)
  | 10, _, _ => exact Or.inl (nf141 h)
  | 11, _, _ => exact Or.inl (nf160 h)
  | 12, _, _ => exact Or.inl (nf180 h)
  | 13, _, _ => exact Or.inl (nf200 h)
  | 14, _, _ => exact Or.inl (nf221 h)
  | 15, _, _ => exact Or.inl (nf243 h)
  | 16, _, _ => exact Or.inl (nf266 h)
  | j + 17, hj, _ => exact absurd hj (by omega)
theorem st_ne4 {args : Array Value} {s : State} (h : (Jvm.Cond.and given_1 narrow_1).before args s = true) : ∀ j : Nat, j < 17 → 4 ≠ j → (Cond.not (Cond.eq (strTm 4) (strTm j))).before args s = true ∨ (Cond.not (Cond.eq (strTm j) (strTm 4))).before args s = true := by
  intro j hj hne
  match j, hj, hne with
  | 0, _, _ => exact Or.inr (nf53 h)
  | 1, _, _ => exact Or.inr (nf54 h)
  | 2, _, _ => exact Or.inr (nf55 h)
  | 3, _, _ => exact Or.inr (nf56 h)
  | 4, _, hne => exact absurd rfl hne
  | 5, _, _ => exact Or.inl (nf68 h)
  | 6, _, _ => exact Or.inl (nf82 h)
  | 7, _, _ => exact Or.inl (nf96 h)
  | 8, _, _ => exact Or.inl (nf109 h)
  | 9, _, _ => exact Or.inl (nf125 h)
  | 10, _, _ => exact Or.inl (nf142 h)
  | 11, _, _ => exact Or.inl (nf161 h)
  | 12, _, _ => exact Or.inl (nf181 h)
  | 13, _, _ => exact Or.inl (nf201 h)
  | 14, _, _ => exact Or.inl (nf222 h)
  | 15, _, _ => exact Or.inl (nf244 h)
  | 16, _, _ => exact Or.inl (nf267 h)
  | j + 17, hj, _ => exact absurd hj (by omega)
theorem st_ne5 {args : Array Value} {s : State} (h : (Jvm.Cond.and given_1 narrow_1).before args s = true) : ∀ j : Nat, j < 17 → 5 ≠ j → (Cond.not (Cond.eq (strTm 5) (strTm j))).before args s = true ∨ (Cond.not (Cond.eq (strTm j) (strTm 5))).before args s = true := by
  intro j hj hne
  match j, hj, hne with
  | 0, _, _ => exact Or.inr (nf64 h)
  | 1, _, _ => exact Or.inr (nf65 h)
  | 2, _, _ => exact Or.inr (nf66 h)
  | 3, _, _ => exact Or.inr (nf67 h)
  | 4, _, _ => exact Or.inr (nf68 h)
  | 5, _, hne => exact absurd rfl hne
  | 6, _, _ => exact Or.inl (nf83 h)
  | 7, _, _ => exact Or.inl (nf97 h)
  | 8, _, _ => exact Or.inl (nf110 h)
  | 9, _, _ => exact Or.inl (nf126 h)
  | 10, _, _ => exact Or.inl (nf143 h)
  | 11, _, _ => exact Or.inl (nf162 h)
  | 12, _, _ => exact Or.inl (nf182 h)
  | 13, _, _ => exact Or.inl (nf202 h)
  | 14, _, _ => exact Or.inl (nf223 h)
  | 15, _, _ => exact Or.inl (nf245 h)
  | 16, _, _ => exact Or.inl (nf268 h)
  | j + 17, hj, _ => exact absurd hj (by omega)
theorem st_ne6 {args : Array Value} {s : State} (h : (Jvm.Cond.and given_1 narrow_1).before args s = true) : ∀ j : Nat, j < 17 → 6 ≠ j → (Cond.not (Cond.eq (strTm 6) (strTm j))).before args s = true ∨ (Cond.not (Cond.eq (strTm j) (strTm 6))).before args s = true := by
  intro j hj hne
  match j, hj, hne with
  | 0, _, _ => exact Or.inr (nf78 h)
  | 1, _, _ => exact Or.inr (nf79 h)
  | 2, _, _ => exact Or.inr (nf80 h)
  | 3, _, _ => exact Or.inr (nf81 h)
  | 4, _, _ => exact Or.inr (nf82 h)
  | 5, _, _ => exact Or.inr (nf83 h)
  | 6, _, hne => exact absurd rfl hne
  | 7, _, _ => exact Or.inl (nf98 h)
  | 8, _, _ => exact Or.inl (nf111 h)
  | 9, _, _ => exact Or.inl (nf127 h)
  | 10, _, _ => exact Or.inl (nf144 h)
  | 11, _, _ => exact Or.inl (nf163 h)
  | 12, _, _ => exact Or.inl (nf183 h)
  | 13, _, _ => exact Or.inl (nf203 h)
  | 14, _, _ => exact Or.inl (nf224 h)
  | 15, _, _ => exact Or.inl (nf246 h)
  | 16, _, _ => exact Or.inl (nf269 h)
  | j + 17, hj, _ => exact absurd hj (by omega)
theorem st_ne7 {args : Array Value} {s : State} (h : (Jvm.Cond.and given_1 narrow_1).before args s = true) : ∀ j : Nat, j < 17 → 7 ≠ j → (Cond.not (Cond.eq (strTm 7) (strTm j))).before args s = true ∨ (Cond.not (Cond.eq (strTm j) (strTm 7))).before args s = true := by
  intro j hj hne
  match j, hj, hne with
  | 0, _, _ => exact Or.inr (nf92 h)
  | 1, _, _ => exact Or.inr (nf93 h)
  | 2, _, _ => exact Or.inr (nf94 h)
  | 3, _, _ => exact Or.inr (nf95 h)
  | 4, _, _ => exact Or.inr (nf96 h)
  | 5, _, _ => exact Or.inr (nf97 h)
  | 6, _, _ => exact Or.inr (nf98 h)
  | 7, _, hne => exact absurd rfl hne
  | 8, _, _ => exact Or.inl (nf112 h)
  | 9, _, _ => exact Or.inl (nf128 h)
  | 10, _, _ => exact Or.inl (nf145 h)
  | 11, _, _ => exact Or.inl (nf164 h)
  | 12, _, _ => exact Or.inl (nf184 h)
  | 13, _, _ => exact Or.inl (nf204 h)
  | 14, _, _ => exact Or.inl (nf225 h)
  | 15, _, _ => exact Or.inl (nf247 h)
  | 16, _, _ => exact Or.inl (nf270 h)
  | j + 17, hj, _ => exact absurd hj (by omega)
theorem st_ne8 {args : Array Value} {s : State} (h : (Jvm.Cond.and given_1 narrow_1).before args s = true) : ∀ j : Nat, j < 17 → 8 ≠ j → (Cond.not (Cond.eq (strTm 8) (strTm j))).before args s = true ∨ (Cond.not (Cond.eq (strTm j) (strTm 8))).before args s = true := by
  intro j hj hne
  match j, hj, hne with
  | 0, _, _ => exact Or.inr (nf105 h)
  | 1, _, _ => exact Or.inr (nf106 h)
  | 2, _, _ => exact Or.inr (nf107 h)
  | 3, _, _ => exact Or.inr (nf108 h)
  | 4, _, _ => exact Or.inr (nf109 h)
  | 5, _, _ => exact Or.inr (nf110 h)
  | 6, _, _ => exact Or.inr (nf111 h)
  | 7, _, _ => exact Or.inr (nf112 h)
  | 8, _, hne => exact absurd rfl hne
  | 9, _, _ => exact Or.inl (nf129 h)
  | 10, _, _ => exact Or.inl (nf146 h)
  | 11, _, _ => exact Or.inl (nf165 h)
  | 12, _, _ => exact Or.inl (nf185 h)
  | 13, _, _ => exact Or.inl (nf205 h)
  | 14, _, _ => exact Or.inl (nf226 h)
  | 15, _, _ => exact Or.inl (nf248 h)
  | 16, _, _ => exact Or.inl (nf271 h)
  | j + 17, hj, _ => exact absurd hj (by omega)
theorem st_ne9 {args : Array Value} {s : State} (h : (Jvm.Cond.and given_1 narrow_1).before args s = true) : ∀ j : Nat, j < 17 → 9 ≠ j → (Cond.not (Cond.eq (strTm 9) (strTm j))).before args s = true ∨ (Cond.not (Cond.eq (strTm j) (strTm 9))).before args s = true := by
  intro j hj hne
  match j, hj, hne with
  | 0, _, _ => exact Or.inr (nf121 h)
  | 1, _, _ => exact Or.inr (nf122 h)
  | 2, _, _ => exact Or.inr (nf123 h)
  | 3, _, _ => exact Or.inr (nf124 h)
  | 4, _, _ => exact Or.inr (nf125 h)
  | 5, _, _ => exact Or.inr (nf126 h)
  | 6, _, _ => exact Or.inr (nf127 h)
  | 7, _, _ => exact Or.inr (nf128 h)
  | 8, _, _ => exact Or.inr (nf129 h)
  | 9, _, hne => exact absurd rfl hne
  | 10, _, _ => exact Or.inl (nf147 h)
  | 11, _, _ => exact Or.inl (nf166 h)
  | 12, _, _ => exact Or.inl (nf186 h)
  | 13, _, _ => exact Or.inl (nf206 h)
  | 14, _, _ => exact Or.inl (nf227 h)
  | 15, _, _ => exact Or.inl (nf249 h)
  | 16, _, _ => exact Or.inl (nf272 h)
  | j + 17, hj, _ => exact absurd hj (by omega)
theorem st_ne10 {args : Array Value} {s : State} (h : (Jvm.Cond.and given_1 narrow_1).before args s = true) : ∀ j : Nat, j < 17 → 10 ≠ j → (Cond.not (Cond.eq (strTm 10) (strTm j))).before args s = true ∨ (Cond.not (Cond.eq (strTm j) (strTm 10))).before args s = true := by
  intro j hj hne
  match j, hj, hne with
  | 0, _, _ => exact Or.inr (nf138 h)
  | 1, _, _ => exact Or.inr (nf139 h)
  | 2, _, _ => exact Or.inr (nf140 h)
  | 3, _, _ => exact Or.inr (nf141 h)
  | 4, _, _ => exact Or.inr (nf142 h)
  | 5, _, _ => exact Or.inr (nf143 h)
  | 6, _, _ => exact Or.inr (nf144 h)
  | 7, _, _ => exact Or.inr (nf145 h)
  | 8, _, _ => exact Or.inr (nf146 h)
  | 9, _, _ => exact Or.inr (nf147 h)
  | 10, _, hne => exact absurd rfl hne
  | 11, _, _ => exact Or.inl (nf167 h)
  | 12, _, _ => exact Or.inl (nf187 h)
  | 13, _, _ => exact Or.inl (nf207 h)
  | 14, _, _ => exact Or.inl (nf228 h)
  | 15, _, _ => exact Or.inl (nf250 h)
  | 16, _, _ => exact Or.inl (nf273 h)
  | j + 17, hj, _ => exact absurd hj (by omega)
theorem st_ne11 {args : Array Value} {s : State} (h : (Jvm.Cond.and given_1 narrow_1).before args s = true) : ∀ j : Nat, j < 17 → 11 ≠ j → (Cond.not (Cond.eq (strTm 11) (strTm j))).before args s = true ∨ (Cond.not (Cond.eq (strTm j) (strTm 11))).before args s = true := by
  intro j hj hne
  match j, hj, hne with
  | 0, _, _ => exact Or.inr (nf157 h)
  | 1, _, _ => exact Or.inr (nf158 h)
  | 2, _, _ => exact Or.inr (nf159 h)
  | 3, _, _ => exact Or.inr (nf160 h)
  | 4, _, _ => exact Or.inr (nf161 h)
  | 5, _, _ => exact Or.inr (nf162 h)
  | 6, _, _ => exact Or.inr (nf163 h)
  | 7, _, _ => exact Or.inr (nf164 h)
  | 8, _, _ => exact Or.inr (nf165 h)
  | 9, _, _ => exact Or.inr (nf166 h)
  | 10, _, _ => exact Or.inr (nf167 h)
  | 11, _, hne => exact absurd rfl hne
  | 12, _, _ => exact Or.inl (nf188 h)
  | 13, _, _ => exact Or.inl (nf208 h)
  | 14, _, _ => exact Or.inl (nf229 h)
  | 15, _, _ => exact Or.inl (nf251 h)
  | 16, _, _ => exact Or.inl (nf274 h)
  | j + 17, hj, _ => exact absurd hj (by omega)
theorem st_ne12 {args : Array Value} {s : State} (h : (Jvm.Cond.and given_1 narrow_1).before args s = true) : ∀ j : Nat, j < 17 → 12 ≠ j → (Cond.not (Cond.eq (strTm 12) (strTm j))).before args s = true ∨ (Cond.not (Cond.eq (strTm j) (strTm 12))).before args s = true := by
  intro j hj hne
  match j, hj, hne with
  | 0, _, _ => exact Or.inr (nf177 h)
  | 1, _, _ => exact Or.inr (nf178 h)
  | 2, _, _ => exact Or.inr (nf179 h)
  | 3, _, _ => exact Or.inr (nf180 h)
  | 4, _, _ => exact Or.inr (nf181 h)
  | 5, _, _ => exact Or.inr (nf182 h)
  | 6, _, _ => exact Or.inr (nf183 h)
  | 7, _, _ => exact Or.inr (nf184 h)
  | 8, _, _ => exact Or.inr (nf185 h)
  | 9, _, _ => exact Or.inr (nf186 h)
  | 10, _, _ => exact Or.inr (nf187 h)
  | 11, _, _ => exact Or.inr (nf188 h)
  | 12, _, hne => exact absurd rfl hne
  | 13, _, _ => exact Or.inl (nf209 h)
  | 14, _, _ => exact Or.inl (nf230 h)
  | 15, _, _ => exact Or.inl (nf252 h)
  | 16, _, _ => exact Or.inl (nf275 h)
  | j + 17, hj, _ => exact absurd hj (by omega)
theorem st_ne13 {args : Array Value} {s : State} (h : (Jvm.Cond.and given_1 narrow_1).before args s = true) : ∀ j : Nat, j < 17 → 13 ≠ j → (Cond.not (Cond.eq (strTm 13) (strTm j))).before args s = true ∨ (Cond.not (Cond.eq (strTm j) (strTm 13))).before args s = true := by
  intro j hj hne
  match j, hj, hne with
  | 0, _, _ => exact Or.inr (nf197 h)
  | 1, _, _ => exact Or.inr (nf198 h)
  | 2, _, _ => exact Or.inr (nf199 h)
  | 3, _, _ => exact Or.inr (nf200 h)
  | 4, _, _ => exact Or.inr (nf201 h)
  | 5, _, _ => exact Or.inr (nf202 h)
  | 6, _, _ => exact Or.inr (nf203 h)
  | 7, _, _ => exact Or.inr (nf204 h)
  | 8, _, _ => exact Or.inr (nf205 h)
  | 9, _, _ => exact Or.inr (nf206 h)
  | 10, _, _ => exact Or.inr (nf207 h)
  | 11, _, _ => exact Or.inr (nf208 h)
  | 12, _, _ => exact Or.inr (nf209 h)
  | 13, _, hne => exact absurd rfl hne
  | 14, _, _ => exact Or.inl (nf231 h)
  | 15, _, _ => exact Or.inl (nf253 h)
  | 16, _, _ => exact Or.inl (nf276 h)
  | j + 17, hj, _ => exact absurd hj (by omega)
theorem st_ne14 {args : Array Value} {s : State} (h : (Jvm.Cond.and given_1 narrow_1).before args s = true) : ∀ j : Nat, j < 17 → 14 ≠ j → (Cond.not (Cond.eq (strTm 14) (strTm j))).before args s = true ∨ (Cond.not (Cond.eq (strTm j) (strTm 14))).before args s = true := by
  intro j hj hne
  match j, hj, hne with
  | 0, _, _ => exact Or.inr (nf218 h)
  | 1, _, _ => exact Or.inr (nf219 h)
  | 2, _, _ => exact Or.inr (nf220 h)
  | 3, _, _ => exact Or.inr (nf221 h)
  | 4, _, _ => exact Or.inr (nf222 h)
  | 5, _, _ => exact Or.inr (nf223 h)
  | 6, _, _ => exact Or.inr (nf224 h)
  | 7, _, _ => exact Or.inr (nf225 h)
  | 8, _, _ => exact Or.inr (nf226 h)
  | 9, _, _ => exact Or.inr (nf227 h)
  | 10, _, _ => exact Or.inr (nf228 h)
  | 11, _, _ => exact Or.inr (nf229 h)
  | 12, _, _ => exact Or.inr (nf230 h)
  | 13, _, _ => exact Or.inr (nf231 h)
  | 14, _, hne => exact absurd rfl hne
  | 15, _, _ => exact Or.inl (nf254 h)
  | 16, _, _ => exact Or.inl (nf277 h)
  | j + 17, hj, _ => exact absurd hj (by omega)
theorem st_ne15 {args : Array Value} {s : State} (h : (Jvm.Cond.and given_1 narrow_1).before args s = true) : ∀ j : Nat, j < 17 → 15 ≠ j → (Cond.not (Cond.eq (strTm 15) (strTm j))).before args s = true ∨ (Cond.not (Cond.eq (strTm j) (strTm 15))).before args s = true := by
  intro j hj hne
  match j, hj, hne with
  | 0, _, _ => exact Or.inr (nf240 h)
  | 1, _, _ => exact Or.inr (nf241 h)
  | 2, _, _ => exact Or.inr (nf242 h)
  | 3, _, _ => exact Or.inr (nf243 h)
  | 4, _, _ => exact Or.inr (nf244 h)
  | 5, _, _ => exact Or.inr (nf245 h)
  | 6, _, _ => exact Or.inr (nf246 h)
  | 7, _, _ => exact Or.inr (nf247 h)
  | 8, _, _ => exact Or.inr (nf248 h)
  | 9, _, _ => exact Or.inr (nf249 h)
  | 10, _, _ => exact Or.inr (nf250 h)
  | 11, _, _ => exact Or.inr (nf251 h)
  | 12, _, _ => exact Or.inr (nf252 h)
  | 13, _, _ => exact Or.inr (nf253 h)
  | 14, _, _ => exact Or.inr (nf254 h)
  | 15, _, hne => exact absurd rfl hne
  | 16, _, _ => exact Or.inl (nf278 h)
  | j + 17, hj, _ => exact absurd hj (by omega)
theorem st_ne16 {args : Array Value} {s : State} (h : (Jvm.Cond.and given_1 narrow_1).before args s = true) : ∀ j : Nat, j < 17 → 16 ≠ j → (Cond.not (Cond.eq (strTm 16) (strTm j))).before args s = true ∨ (Cond.not (Cond.eq (strTm j) (strTm 16))).before args s = true := by
  intro j hj hne
  match j, hj, hne with
  | 0, _, _ => exact Or.inr (nf263 h)
  | 1, _, _ => exact Or.inr (nf264 h)
  | 2, _, _ => exact Or.inr (nf265 h)
  | 3, _, _ => exact Or.inr (nf266 h)
  | 4, _, _ => exact Or.inr (nf267 h)
  | 5, _, _ => exact Or.inr (nf268 h)
  | 6, _, _ => exact Or.inr (nf269 h)
  | 7, _, _ => exact Or.inr (nf270 h)
  | 8, _, _ => exact Or.inr (nf271 h)
  | 9, _, _ => exact Or.inr (nf272 h)
  | 10, _, _ => exact Or.inr (nf273 h)
  | 11, _, _ => exact Or.inr (nf274 h)
  | 12, _, _ => exact Or.inr (nf275 h)
  | 13, _, _ => exact Or.inr (nf276 h)
  | 14, _, _ => exact Or.inr (nf277 h)
  | 15, _, _ => exact Or.inr (nf278 h)
  | 16, _, hne => exact absurd rfl hne
  | j + 17, hj, _ => exact absurd hj (by omega)
theorem st_ne {args : Array Value} {s : State} (h : (Jvm.Cond.and given_1 narrow_1).before args s = true) : ∀ i : Nat, i < 17 → ∀ j : Nat, j < 17 → i ≠ j → (Cond.not (Cond.eq (strTm i) (strTm j))).before args s = true ∨ (Cond.not (Cond.eq (strTm j) (strTm i))).before args s = true := by
  intro i hi
  match i, hi with
  | 0, _ => exact st_ne0 h
  | 1, _ => exact st_ne1 h
  | 2, _ => exact st_ne2 h
  | 3, _ => exact st_ne3 h
  | 4, _ => exact st_ne4 h
  | 5, _ => exact st_ne5 h
  | 6, _ => exact st_ne6 h
  | 7, _ => exact st_ne7 h
  | 8, _ => exact st_ne8 h
  | 9, _ => exact st_ne9 h
  | 10, _ => exact st_ne10 h
  | 11, _ => exact st_ne11 h
  | 12, _ => exact st_ne12 h
  | 13, _ => exact st_ne13 h
  | 14, _ => exact st_ne14 h
  | 15, _ => exact st_ne15 h
  | 16, _ => exact st_ne16 h
  | i + 17, hi => exact absurd hi (by omega)
set_option maxRecDepth 20000 in
theorem tq_told : (Jvm.Cond.arrayOver (Jvm.ClassFile.FieldType.object "TwoAsks$Told")) ∈ lw_tbl := List.mem_append_right _ (List.mem_append_right _ (List.mem_append_left _ (List.mem_of_getElem? (i := 135) rfl)))
set_option maxRecDepth 20000 in
theorem tq_ll : (Jvm.Cond.arrayOver (Jvm.ClassFile.FieldType.array Jvm.ClassFile.FieldType.long)) ∈ lw_tbl := List.mem_append_right _ (List.mem_append_right _ (List.mem_append_left _ (List.mem_of_getElem? (i := 195) rfl)))
set_option maxRecDepth 20000 in
theorem tq_I : (Jvm.Cond.arrayClass Jvm.ClassFile.FieldType.int) ∈ lw_tbl := List.mem_append_right _ (List.mem_append_left _ (List.mem_of_getElem? (i := 65) rfl))
set_option maxRecDepth 20000 in
theorem tq_J : (Jvm.Cond.arrayClass Jvm.ClassFile.FieldType.long) ∈ lw_tbl := List.mem_append_right _ (List.mem_append_left _ (List.mem_of_getElem? (i := 66) rfl))
set_option maxRecDepth 20000 in
theorem tq_B : (Jvm.Cond.arrayClass Jvm.ClassFile.FieldType.byte) ∈ lw_tbl := List.mem_append_right _ (List.mem_append_left _ (List.mem_of_getElem? (i := 64) rfl))
set_option maxRecDepth 20000 in
theorem tq_Z : (Jvm.Cond.arrayClass Jvm.ClassFile.FieldType.boolean) ∈ lw_tbl := List.mem_append_right _ (List.mem_append_right _ (List.mem_append_right _ (List.mem_append_right _ (List.mem_append_right _ (List.mem_append_right _ (List.mem_append_right _ (List.mem_append_left _ (List.mem_of_getElem? (i := 8) rfl))))))))
set_option maxRecDepth 20000 in
theorem tq_cs : (Jvm.Cond.laysStatic "java/lang/String" "COMPACT_STRINGS" "Z") ∈ lw_tbl := List.mem_append_right _ (List.mem_append_left _ (List.mem_of_getElem? (i := 221) rfl))
set_option maxRecDepth 20000 in
theorem tq_ss : (Jvm.Cond.laysStatic "jdk/internal/util/Preconditions" "SIOOBE_FORMATTER" "Ljava/util/function/BiFunction;") ∈ lw_tbl := List.mem_append_right _ (List.mem_append_left _ (List.mem_of_getElem? (i := 237) rfl))
set_option maxRecDepth 20000 in
theorem tq_iS : (Jvm.Cond.initialized "java/lang/String") ∈ lw_tbl := List.mem_append_right _ (List.mem_append_left _ (List.mem_of_getElem? (i := 8) rfl))
set_option maxRecDepth 20000 in
theorem tq_iP : (Jvm.Cond.initialized "jdk/internal/util/Preconditions") ∈ lw_tbl := List.mem_append_right _ (List.mem_append_left _ (List.mem_of_getElem? (i := 10) rfl))
set_option maxRecDepth 20000 in
theorem tq_s0 : (Jvm.Cond.stringRef "TwoAsks$Tokens" (45 : Nat) "row") ∈ lw_tbl := List.mem_append_right _ (List.mem_append_left _ (List.mem_of_getElem? (i := 195) rfl))
set_option maxRecDepth 20000 in
theorem tq_s1 : (Jvm.Cond.stringRef "TwoAsks$Tokens" (47 : Nat) "list") ∈ lw_tbl := List.mem_append_right _ (List.mem_append_left _ (List.mem_of_getElem? (i := 196) rfl))
set_option maxRecDepth 20000 in
theorem tq_s2 : (Jvm.Cond.stringRef "TwoAsks$Tokens" (49 : Nat) "ask") ∈ lw_tbl := List.mem_append_right _ (List.mem_append_left _ (List.mem_of_getElem? (i := 197) rfl))
set_option maxRecDepth 20000 in
theorem tq_s3 : (Jvm.Cond.stringRef "TwoAsks$Tokens" (51 : Nat) "prime") ∈ lw_tbl := List.mem_append_right _ (List.mem_append_left _ (List.mem_of_getElem? (i := 198) rfl))
set_option maxRecDepth 20000 in
theorem tq_s4 : (Jvm.Cond.stringRef "TwoAsks$Tokens" (53 : Nat) "share") ∈ lw_tbl := List.mem_append_right _ (List.mem_append_left _ (List.mem_of_getElem? (i := 199) rfl))
set_option maxRecDepth 20000 in
theorem tq_s5 : (Jvm.Cond.stringRef "TwoAsks$Tokens" (55 : Nat) "bag") ∈ lw_tbl := List.mem_append_right _ (List.mem_append_left _ (List.mem_of_getElem? (i := 200) rfl))
set_option maxRecDepth 20000 in
theorem tq_s6 : (Jvm.Cond.stringRef "TwoAsks$Tokens" (57 : Nat) "bound") ∈ lw_tbl := List.mem_append_right _ (List.mem_append_left _ (List.mem_of_getElem? (i := 201) rfl))
set_option maxRecDepth 20000 in
theorem tq_s7 : (Jvm.Cond.stringRef "TwoAsks$Tokens" (59 : Nat) "liar") ∈ lw_tbl := List.mem_append_right _ (List.mem_append_left _ (List.mem_of_getElem? (i := 202) rfl))
set_option maxRecDepth 20000 in
theorem tq_s8 : (Jvm.Cond.stringRef "TwoAsks$Tokens" (61 : Nat) "if") ∈ lw_tbl := List.mem_append_right _ (List.mem_append_left _ (List.mem_of_getElem? (i := 203) rfl))
set_option maxRecDepth 20000 in
theorem tq_s9 : (Jvm.Cond.stringRef "TwoAsks$Tokens" (63 : Nat) "then") ∈ lw_tbl := List.mem_append_right _ (List.mem_append_left _ (List.mem_of_getElem? (i := 204) rfl))
set_option maxRecDepth 20000 in
theorem tq_s10 : (Jvm.Cond.stringRef "TwoAsks$Tokens" (65 : Nat) "else") ∈ lw_tbl := List.mem_append_right _ (List.mem_append_left _ (List.mem_of_getElem? (i := 205) rfl))
set_option maxRecDepth 20000 in
theorem tq_s11 : (Jvm.Cond.stringRef "TwoAsks$Tokens" (67 : Nat) "place") ∈ lw_tbl := List.mem_append_right _ (List.mem_append_left _ (List.mem_of_getElem? (i := 206) rfl))
set_option maxRecDepth 20000 in
theorem tq_s12 : (Jvm.Cond.stringRef "TwoAsks$Tokens" (69 : Nat) "ahead") ∈ lw_tbl := List.mem_append_right _ (List.mem_append_left _ (List.mem_of_getElem? (i := 207) rfl))
set_option maxRecDepth 20000 in
theorem tq_s13 : (Jvm.Cond.stringRef "TwoAsks$Tokens" (71 : Nat) "many") ∈ lw_tbl := List.mem_append_right _ (List.mem_append_left _ (List.mem_of_getElem? (i := 208) rfl))
set_option maxRecDepth 20000 in
theorem tq_s14 : (Jvm.Cond.stringRef "TwoAsks$Tokens" (72 : Nat) "turn") ∈ lw_tbl := List.mem_append_right _ (List.mem_append_left _ (List.mem_of_getElem? (i := 209) rfl))
set_option maxRecDepth 20000 in
theorem tq_s15 : (Jvm.Cond.stringRef "TwoAsks$Tokens" (74 : Nat) "told") ∈ lw_tbl := List.mem_append_right _ (List.mem_append_left _ (List.mem_of_getElem? (i := 210) rfl))
set_option maxRecDepth 20000 in
theorem tq_s16 : (Jvm.Cond.stringRef "TwoAsks$Tokens" (76 : Nat) "said") ∈ lw_tbl := List.mem_append_right _ (List.mem_append_left _ (List.mem_of_getElem? (i := 211) rfl))
set_option maxRecDepth 20000 in
theorem tq_n0 : (Jvm.Cond.methodLinkNest "TwoAsks$Reader" (115 : Nat) ({ cls := "TwoAsks", name := "within", desc := "(JJJ)Z" } : Jvm.MethodName) "TwoAsks") ∈ lw_tbl := List.mem_append_right _ (List.mem_append_right _ (List.mem_append_right _ (List.mem_append_left _ (List.mem_of_getElem? (i := 129) rfl))))
set_option maxRecDepth 20000 in
theorem tq_n1 : (Jvm.Cond.methodLinkNest "TwoAsks" (22 : Nat) ({ cls := "TwoAsks$Reader", name := "<init>", desc := "()V" } : Jvm.MethodName) "TwoAsks") ∈ lw_tbl := List.mem_append_right _ (List.mem_append_left _ (List.mem_of_getElem? (i := 32) rfl))
set_option maxRecDepth 20000 in
theorem tq_n2 : (Jvm.Cond.methodLinkNest "TwoAsks$Text" (26 : Nat) ({ cls := "TwoAsks$Law", name := "<init>", desc := "()V" } : Jvm.MethodName) "TwoAsks") ∈ lw_tbl := List.mem_append_right _ (List.mem_append_left _ (List.mem_of_getElem? (i := 44) rfl))
set_option maxRecDepth 20000 in
theorem tq_n3 : (Jvm.Cond.methodLinkNest "TwoAsks$Text" (33 : Nat) ({ cls := "TwoAsks$Shares", name := "<init>", desc := "()V" } : Jvm.MethodName) "TwoAsks") ∈ lw_tbl := List.mem_append_right _ (List.mem_append_left _ (List.mem_of_getElem? (i := 69) rfl))
set_option maxRecDepth 20000 in
theorem tq_n4 : (Jvm.Cond.methodLinkNest "TwoAsks$Text" (40 : Nat) ({ cls := "TwoAsks$Bags", name := "<init>", desc := "()V" } : Jvm.MethodName) "TwoAsks") ∈ lw_tbl := List.mem_append_right _ (List.mem_append_left _ (List.mem_of_getElem? (i := 105) rfl))
set_option maxRecDepth 20000 in
theorem tq_n5 : (Jvm.Cond.methodLinkNest "TwoAsks$Reader" (40 : Nat) ({ cls := "TwoAsks$LawReader", name := "<init>", desc := "()V" } : Jvm.MethodName) "TwoAsks") ∈ lw_tbl := List.mem_append_right _ (List.mem_append_right _ (List.mem_append_left _ (List.mem_of_getElem? (i := 45) rfl)))
set_option maxRecDepth 20000 in
theorem tq_n6 : (Jvm.Cond.methodLinkNest "TwoAsks$LawReader" (11 : Nat) ({ cls := "TwoAsks$Law", name := "<init>", desc := "()V" } : Jvm.MethodName) "TwoAsks") ∈ lw_tbl := List.mem_append_right _ (List.mem_append_right _ (List.mem_append_left _ (List.mem_of_getElem? (i := 50) rfl)))
set_option maxRecDepth 20000 in
theorem tq_n7 : (Jvm.Cond.methodLinkNest "TwoAsks" (36 : Nat) ({ cls := "TwoAsks$Told", name := "<init>", desc := "()V" } : Jvm.MethodName) "TwoAsks") ∈ lw_tbl := List.mem_append_right _ (List.mem_append_right _ (List.mem_append_left _ (List.mem_of_getElem? (i := 112) rfl)))
set_option maxRecDepth 20000 in
theorem tq_n8 : (Jvm.Cond.methodLinkNest "TwoAsks" (53 : Nat) ({ cls := "TwoAsks$Worlds", name := "<init>", desc := "()V" } : Jvm.MethodName) "TwoAsks") ∈ lw_tbl := List.mem_append_right _ (List.mem_append_right _ (List.mem_append_left _ (List.mem_of_getElem? (i := 138) rfl)))
set_option maxRecDepth 20000 in
theorem tq_n9 : (Jvm.Cond.methodLinkNest "TwoAsks$Worlds" (34 : Nat) ({ cls := "TwoAsks$Leaders", name := "<init>", desc := "()V" } : Jvm.MethodName) "TwoAsks") ∈ lw_tbl := List.mem_append_right _ (List.mem_append_right _ (List.mem_append_left _ (List.mem_of_getElem? (i := 144) rfl)))
set_option maxRecDepth 20000 in
theorem tq_in0 : (Jvm.Cond.instantiable "TwoAsks$Bags" (3 : Nat)) ∈ lw_tbl := List.mem_append_right _ (List.mem_append_left _ (List.mem_of_getElem? (i := 104) rfl))
set_option maxRecDepth 20000 in
theorem tq_in1 : (Jvm.Cond.instantiable "TwoAsks$Fitting" (7 : Nat)) ∈ lw_tbl := List.mem_append_right _ (List.mem_append_right _ (List.mem_append_left _ (List.mem_of_getElem? (i := 189) rfl)))
set_option maxRecDepth 20000 in
theorem tq_in2 : (Jvm.Cond.instantiable "TwoAsks$Law" (5 : Nat)) ∈ lw_tbl := List.mem_append_right _ (List.mem_append_left _ (List.mem_of_getElem? (i := 43) rfl))
set_option maxRecDepth 20000 in
theorem tq_in3 : (Jvm.Cond.instantiable "TwoAsks$LawReader" (10 : Nat)) ∈ lw_tbl := List.mem_append_right _ (List.mem_append_right _ (List.mem_append_left _ (List.mem_of_getElem? (i := 44) rfl)))
set_option maxRecDepth 20000 in
theorem tq_in4 : (Jvm.Cond.instantiable "TwoAsks$Leaders" (3 : Nat)) ∈ lw_tbl := List.mem_append_right _ (List.mem_append_right _ (List.mem_append_left _ (List.mem_of_getElem? (i := 143) rfl)))
set_option maxRecDepth 20000 in
theorem tq_in5 : (Jvm.Cond.instantiable "TwoAsks$Reader" (7 : Nat)) ∈ lw_tbl := List.mem_append_right _ (List.mem_append_left _ (List.mem_of_getElem? (i := 31) rfl))
set_option maxRecDepth 20000 in
theorem tq_in6 : (Jvm.Cond.instantiable "TwoAsks$Shares" (7 : Nat)) ∈ lw_tbl := List.mem_append_right _ (List.mem_append_left _ (List.mem_of_getElem? (i := 68) rfl))
set_option maxRecDepth 20000 in
theorem tq_in7 : (Jvm.Cond.instantiable "TwoAsks$Text" (10 : Nat)) ∈ lw_tbl := List.mem_append_right _ (List.mem_append_left _ (List.mem_of_getElem? (i := 37) rfl))
set_option maxRecDepth 20000 in
theorem tq_in8 : (Jvm.Cond.instantiable "TwoAsks$Tokens" (5 : Nat)) ∈ lw_tbl := List.mem_append_right _ (List.mem_append_left _ (List.mem_of_getElem? (i := 187) rfl))
set_option maxRecDepth 20000 in
theorem tq_in9 : (Jvm.Cond.instantiable "TwoAsks$Told" (4 : Nat)) ∈ lw_tbl := List.mem_append_right _ (List.mem_append_right _ (List.mem_append_left _ (List.mem_of_getElem? (i := 111) rfl)))
set_option maxRecDepth 20000 in
theorem tq_in10 : (Jvm.Cond.instantiable "TwoAsks$Worlds" (7 : Nat)) ∈ lw_tbl := List.mem_append_right _ (List.mem_append_right _ (List.mem_append_left _ (List.mem_of_getElem? (i := 137) rfl)))
set_option maxRecDepth 20000 in
theorem tq_in11 : (Jvm.Cond.instantiable "TwoAsks" (11 : Nat)) ∈ lw_tbl := List.mem_append_right _ (List.mem_append_left _ (List.mem_of_getElem? (i := 23) rfl))
set_option maxRecDepth 20000 in
theorem tq_in12 : (Jvm.Cond.instantiable "TwoAsksModel" (73 : Nat)) ∈ lw_tbl := List.mem_append_right _ (List.mem_append_right _ (List.mem_append_right _ (List.mem_append_right _ (List.mem_append_right _ (List.mem_append_right _ (List.mem_append_left _ (List.mem_of_getElem? (i := 12) rfl)))))))
theorem st_nest {b : Nat} {s : State} (hts : ∀ w ∈ lw_tbl, w.before #[Value.ref b] s = true) : kNest s := List.forall_mem_cons.mpr ⟨va_Nw.of rfl (hts _ tq_n0), List.forall_mem_cons.mpr ⟨va_Nw.of rfl (hts _ tq_n1), List.forall_mem_cons.mpr ⟨va_Nw.of rfl (hts _ tq_n2), List.forall_mem_cons.mpr ⟨va_Nw.of rfl (hts _ tq_n3), List.forall_mem_cons.mpr ⟨va_Nw.of rfl (hts _ tq_n4), List.forall_mem_cons.mpr ⟨va_Nw.of rfl (hts _ tq_n5), List.forall_mem_cons.mpr ⟨va_Nw.of rfl (hts _ tq_n6), List.forall_mem_cons.mpr ⟨va_Nw.of rfl (hts _ tq_n7), List.forall_mem_cons.mpr ⟨va_Nw.of rfl (hts _ tq_n8), List.forall_mem_cons.mpr ⟨va_Nw.of rfl (hts _ tq_n9), fun _ h9 => absurd h9 List.not_mem_nil⟩⟩⟩⟩⟩⟩⟩⟩⟩⟩
theorem st_aoA {args : Array Value} {s : State} {t : FieldType} (h : (Cond.arrayOver (.array t)).before args s = true) :
    ∃ comp c k, s.vm.findClass (FieldType.array t).toString = some comp ∧ s.vm.classes[c]? = some k ∧ k.kind = .array comp (.array t) ∧ s.vm.findClass ("[" ++ (FieldType.array t).toString) = some c := by
  unfold Cond.before at h
  simp only [Cond.holds, Cond.value, beq_iff_eq] at h
  cases hc : s.vm.findClass (FieldType.array t).toString with
  | none => simp [hc] at h
  | some comp =>
    simp only [hc, Option.bind_some, Option.bind_eq_some_iff, Option.map_eq_some_iff] at h
    obtain ⟨c, hi, k, hk, hb⟩ := h
    obtain ⟨hlt, hp, -⟩ := Array.findIdx?_eq_some_iff_getElem.mp hi
    have hkk : s.vm.classes[c] = k := (Array.getElem?_eq_some_iff.mp hk).2
    rw [hkk] at hp
    cases hkind : k.kind with
    | array component ty =>
      rw [hkind] at hb hp
      simp at hb hp
      exact ⟨comp, c, k, rfl, hk, by rw [hkind, hp, hb.1], hb.2⟩
    | _ => rw [hkind] at hb; simp at hb
theorem st_arr {args : Array Value} {s : State} {ty : FieldType} (h : (Cond.arrayClass ty).before args s = true) : ∃ cA : ClassId, ArrOfT s cA ty ∧ s.vm.findClass ("[" ++ ty.toString) = some cA := by
  obtain ⟨cA, kA, comp, h1, h2, h3⟩ := Cond.arrayClass_spec h
  exact ⟨cA, fun n z => ⟨fun k h => (by cases h), kA, h2, comp, h3⟩, h1⟩

theorem st_K {b : Nat} {s : State} (hts : ∀ w ∈ lw_tbl, w.before #[Value.ref b] s = true) : ∃ G : wG, kK G s := by
  obtain ⟨c0, i0, hn0⟩ := u_known (C := RX0) (T := TX0) (N := 3) (n := 3) hts (fun w h => twU w (inU_wsX00 w h)) (hts _ tq_in0)
  obtain ⟨c1, i1, hn1⟩ := u_known (C := RX1) (T := TX1) (N := 7) (n := 7) hts (fun w h => twU w (inU_wsX10 w h)) (hts _ tq_in1)
  obtain ⟨c2, i2, hn2⟩ := u_known (C := RX2) (T := TX2) (N := 5) (n := 5) hts (fun w h => twU w (inU_wsX20 w h)) (hts _ tq_in2)
  obtain ⟨c3, i3, hn3⟩ := u_known (C := RX3) (T := TX3) (N := 10) (n := 10) hts (fun w h => twU w (inU_wsX30 w h)) (hts _ tq_in3)
  obtain ⟨c4, i4, hn4⟩ := u_known (C := RX4) (T := TX4) (N := 3) (n := 3) hts (fun w h => twU w (inU_wsX40 w h)) (hts _ tq_in4)
  obtain ⟨c5, i5, hn5⟩ := u_known (C := RX5) (T := TX5) (N := 7) (n := 7) hts (fun w h => twU w (inU_wsX50 w h)) (hts _ tq_in5)
  obtain ⟨c6, i6, hn6⟩ := u_known (C := RX6) (T := TX6) (N := 7) (n := 7) hts (fun w h => twU w (inU_wsX60 w h)) (hts _ tq_in6)
  obtain ⟨c7, i7, hn7⟩ := u_known (C := RX7) (T := TX7) (N := 10) (n := 10) hts (fun w h => twU w (inU_wsX70 w h)) (hts _ tq_in7)
  obtain ⟨c8, i8, hn8⟩ := u_known (C := RX8) (T := TX8) (N := 5) (n := 5) hts (fun w h => twU w (inU_wsX80 w h)) (hts _ tq_in8)
  obtain ⟨c9, i9, hn9⟩ := u_known (C := RX9) (T := TX9) (N := 4) (n := 4) hts (fun w h => twU w (inU_wsX90 w h)) (hts _ tq_in9)
  obtain ⟨c10, i10, hn10⟩ := u_known (C := RX10) (T := TX10) (N := 7) (n := 7) hts (fun w h => twU w (inU_wsX100 w h)) (hts _ tq_in10)
  obtain ⟨c11, i11, hn11⟩ := u_known (C := RX11) (T := TX11) (N := 11) (n := 11) hts (fun w h => twU w (inU_wsX110 w h)) (hts _ tq_in11)
  obtain ⟨c12, i12, hn12⟩ := u_known (C := RX12) (T := TX12) (N := 73) (n := 73) hts (fun w h => twU w (inU_wsX120 w h)) (hts _ tq_in12)
  obtain ⟨aB, hB1, hB2⟩ := st_arr (hts _ tq_B)
  obtain ⟨aI, hI1, hI2⟩ := st_arr (hts _ tq_I)
  obtain ⟨aJ, hJ1, hJ2⟩ := st_arr (hts _ tq_J)
  obtain ⟨aZ, hZ1, hZ2⟩ := st_arr (hts _ tq_Z)
  obtain ⟨compT, aT, kT, hT1, -, hT3, hT4, hT5⟩ := Cond.arrayOver_spec (hts _ tq_told)
  obtain ⟨compL, aL, kL, hL1, hL3, hL4, hL5⟩ := st_aoA (hts _ tq_ll)
  refine ⟨((fun k => ([c0, c1, c2, c3, c4, c5, c6, c7, c8, c9, c10, c11, c12] : List ClassId).getD k c0, fun k => ([i0, i1, i2, i3, i4, i5, i6, i7, i8, i9, i10, i11, i12] : List (Nat → Nat)).getD k i0), (fun k => ([aB, aI, aJ, aZ, aT, aL] : List ClassId).getD (k - 13) aB), fun _ => 0), ⟨?_, ?_⟩, st_nest hts, hts _ tq_told, hts _ tq_ll⟩
  · intro k q hq
    match k, hq with
    | 0, hq => cases hq; exact hn0
    | 1, hq => cases hq; exact hn1
    | 2, hq => cases hq; exact hn2
    | 3, hq => cases hq; exact hn3
    | 4, hq => cases hq; exact hn4
    | 5, hq => cases hq; exact hn5
    | 6, hq => cases hq; exact hn6
    | 7, hq => cases hq; exact hn7
    | 8, hq => cases hq; exact hn8
    | 9, hq => cases hq; exact hn9
    | 10, hq => cases hq; exact hn10
    | 11, hq => cases hq; exact hn11
    | 12, hq => cases hq; exact hn12
    | k + 13, hq => simp [vwCl] at hq
  · intro k q hq
    match k, hq with
    | 0, hq => cases hq; exact ⟨hB1, hB2⟩
    | 1, hq => cases hq; exact ⟨hI1, hI2⟩
    | 2, hq => cases hq; exact ⟨hJ1, hJ2⟩
    | 3, hq => cases hq; exact ⟨hZ1, hZ2⟩
    | 4, hq => cases hq; exact ⟨fun n z => ⟨fun k h => (by cases h), kT, hT3, compT, hT4⟩, kT, compT, hT3, hT4, hT1, hT5⟩
    | 5, hq => cases hq; exact ⟨fun n z => ⟨fun k h => (by cases h), kL, hL3, compL, hL4⟩, hL5⟩
    | k + 6, hq => simp [tysA] at hq
theorem st_S {b : Nat} {s : State} (hts : ∀ w ∈ lw_tbl, w.before #[Value.ref b] s = true) (h : (Jvm.Cond.and given_1 narrow_1).before #[Value.ref b] s = true) : ∃ adK adV : Nat → Nat, kStr s.heap.size adK adV s s.heap := by
  have hA : ∀ a : Nat, a < s.heap.size → ¬ s.heap.size ≤ a := fun a ha => Nat.not_le.mpr ha
  obtain ⟨adK, adV, hS, hE⟩ := vk_Sof (N := 17) (tm := strTm) (len := strLen) (byt := strByt) (A := fun q => s.heap.size ≤ q) (fun i hi => by
    match i, hi with
    | 0, _ => decide
    | 1, _ => decide
    | 2, _ => decide
    | 3, _ => decide
    | 4, _ => decide
    | 5, _ => decide
    | 6, _ => decide
    | 7, _ => decide
    | 8, _ => decide
    | 9, _ => decide
    | 10, _ => decide
    | 11, _ => decide
    | 12, _ => decide
    | 13, _ => decide
    | 14, _ => decide
    | 15, _ => decide
    | 16, _ => decide
    | i + 17, hi => exact absurd hi (by omega)) (st_ex h) (st_co h) (st_ar h) (st_le h) (st_el h) (fun i j hi hj hne => st_ne h i hi j hj hne) hA
  refine ⟨adK, adV, hS, fun i hi => ?_, va_Zof (hts _ tq_cs) (hts _ tq_iS) (va_eqi (nf2 h)) hA, va_Zqof (hts _ tq_ss) (hts _ tq_iP) (nf3 h) hA⟩
  have hv := hE i hi
  match i, hi, hv with
  | 0, _, hv => exact vk_R.of (hts _ tq_s0) hv
  | 1, _, hv => exact vk_R.of (hts _ tq_s1) hv
  | 2, _, hv => exact vk_R.of (hts _ tq_s2) hv
  | 3, _, hv => exact vk_R.of (hts _ tq_s3) hv
  | 4, _, hv => exact vk_R.of (hts _ tq_s4) hv
  | 5, _, hv => exact vk_R.of (hts _ tq_s5) hv
  | 6, _, hv => exact vk_R.of (hts _ tq_s6) hv
  | 7, _, hv => exact vk_R.of (hts _ tq_s7) hv
  | 8, _, hv => exact vk_R.of (hts _ tq_s8) hv
  | 9, _, hv => exact vk_R.of (hts _ tq_s9) hv
  | 10, _, hv => exact vk_R.of (hts _ tq_s10) hv
  | 11, _, hv => exact vk_R.of (hts _ tq_s11) hv
  | 12, _, hv => exact vk_R.of (hts _ tq_s12) hv
  | 13, _, hv => exact vk_R.of (hts _ tq_s13) hv
  | 14, _, hv => exact vk_R.of (hts _ tq_s14) hv
  | 15, _, hv => exact vk_R.of (hts _ tq_s15) hv
  | 16, _, hv => exact vk_R.of (hts _ tq_s16) hv
  | i + 17, hi, _ => exact absurd hi (by omega)
