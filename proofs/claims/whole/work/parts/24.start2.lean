/-! The start: what stands beside the cells that the runs make. -/
def zNar : List Cond := [(Jvm.Cond.arrayOf (Jvm.Term.arg (0 : Nat)) Jvm.ClassFile.FieldType.int),
 (Jvm.Cond.le (Jvm.Term.length (Jvm.Term.arg (0 : Nat))) (Jvm.Term.int (3072 : Int32))),
 (Jvm.Cond.eq (Jvm.Term.static "java/lang/String" "COMPACT_STRINGS" "Z") (Jvm.Term.int (1 : Int32))),
 (Jvm.Cond.isRef (Jvm.Term.static "jdk/internal/util/Preconditions" "SIOOBE_FORMATTER" "Ljava/util/function/BiFunction;")),
 (Jvm.Cond.eq (Jvm.Term.static "java/lang/StringUTF16" "$assertionsDisabled" "Z") (Jvm.Term.int (1 : Int32))),
 (Jvm.Cond.eq (Jvm.Term.static "java/lang/StringUTF16" "HI_BYTE_SHIFT" "I") (Jvm.Term.int (0 : Int32))),
 (Jvm.Cond.eq (Jvm.Term.static "java/lang/StringUTF16" "LO_BYTE_SHIFT" "I") (Jvm.Term.int (8 : Int32))),
 (Jvm.Cond.isRef (Jvm.Term.static "BackwardProofs$Sets" "VARIABLE_LOW" "[J")),
 (Jvm.Cond.arrayOf (Jvm.Term.static "BackwardProofs$Sets" "VARIABLE_LOW" "[J") Jvm.ClassFile.FieldType.long),
 (Jvm.Cond.eq (Jvm.Term.length (Jvm.Term.static "BackwardProofs$Sets" "VARIABLE_LOW" "[J")) (Jvm.Term.int (3 : Int32))),
 (Jvm.Cond.eq (Jvm.Term.elem (Jvm.Term.static "BackwardProofs$Sets" "VARIABLE_LOW" "[J") (Jvm.Term.int (0 : Int32))) (Jvm.Term.long (-6148914691236517206 : Int64))),
 (Jvm.Cond.eq (Jvm.Term.elem (Jvm.Term.static "BackwardProofs$Sets" "VARIABLE_LOW" "[J") (Jvm.Term.int (1 : Int32))) (Jvm.Term.long (-1085102592571150096 : Int64))),
 (Jvm.Cond.eq (Jvm.Term.elem (Jvm.Term.static "BackwardProofs$Sets" "VARIABLE_LOW" "[J") (Jvm.Term.int (2 : Int32))) (Jvm.Term.long (-281470681808896 : Int64))),
 (Jvm.Cond.isRef (Jvm.Term.static "BackwardProofs$Sets" "VARIABLE_HIGH" "[J")),
 (Jvm.Cond.arrayOf (Jvm.Term.static "BackwardProofs$Sets" "VARIABLE_HIGH" "[J") Jvm.ClassFile.FieldType.long),
 (Jvm.Cond.eq (Jvm.Term.length (Jvm.Term.static "BackwardProofs$Sets" "VARIABLE_HIGH" "[J")) (Jvm.Term.int (3 : Int32))),
 (Jvm.Cond.eq (Jvm.Term.elem (Jvm.Term.static "BackwardProofs$Sets" "VARIABLE_HIGH" "[J") (Jvm.Term.int (0 : Int32))) (Jvm.Term.long (-3689348814741910324 : Int64))),
 (Jvm.Cond.eq (Jvm.Term.elem (Jvm.Term.static "BackwardProofs$Sets" "VARIABLE_HIGH" "[J") (Jvm.Term.int (1 : Int32))) (Jvm.Term.long (-71777214294589696 : Int64))),
 (Jvm.Cond.eq (Jvm.Term.elem (Jvm.Term.static "BackwardProofs$Sets" "VARIABLE_HIGH" "[J") (Jvm.Term.int (2 : Int32))) (Jvm.Term.long (-4294967296 : Int64))),
 (Jvm.Cond.isRef (Jvm.Term.static "java/lang/Throwable" "UNASSIGNED_STACK" "[Ljava/lang/StackTraceElement;")),
 (Jvm.Cond.isRef (Jvm.Term.static "java/lang/Throwable" "SUPPRESSED_SENTINEL" "Ljava/util/List;")),
 (Jvm.Cond.not (Jvm.Cond.castable "BackwardProofs" "java/lang/IllegalStateException")),
 (Jvm.Cond.not (Jvm.Cond.castable "BackwardProofs$Formula" "java/lang/IllegalStateException")),
 (Jvm.Cond.not (Jvm.Cond.castable "BackwardProofs$Parser" "java/lang/IllegalStateException")),
 (Jvm.Cond.not (Jvm.Cond.castable "BackwardProofs$Scanner" "java/lang/IllegalStateException")),
 (Jvm.Cond.not (Jvm.Cond.castable "BackwardProofs$History" "java/lang/IllegalStateException")),
 (Jvm.Cond.not (Jvm.Cond.castable "BackwardProofs$Version" "java/lang/IllegalStateException")),
 (Jvm.Cond.not (Jvm.Cond.castable "BackwardProofs$Program" "java/lang/IllegalStateException")),
 (Jvm.Cond.not (Jvm.Cond.castable "BackwardProofs$Sets" "java/lang/IllegalStateException")),
 (Jvm.Cond.not (Jvm.Cond.castable "BackwardProofs$Runs" "java/lang/IllegalStateException")),
 (Jvm.Cond.not (Jvm.Cond.castable "BackwardProofs$Duties" "java/lang/IllegalStateException")),
 (Jvm.Cond.not (Jvm.Cond.castable "BackwardProofs$Sheet" "java/lang/IllegalStateException")),
 (Jvm.Cond.not (Jvm.Cond.castable "BackwardProofsModel" "java/lang/IllegalStateException")),
 (Jvm.Cond.not (Jvm.Cond.castable "java/lang/IllegalArgumentException" "java/lang/IllegalStateException")),
 (Jvm.Cond.not (Jvm.Cond.castable "java/util/NoSuchElementException" "java/lang/IllegalStateException")),
 (Jvm.Cond.not (Jvm.Cond.castable "java/lang/IndexOutOfBoundsException" "java/lang/IllegalStateException")),
 (Jvm.Cond.not (Jvm.Cond.castable "BackwardProofs" "java/lang/IllegalArgumentException")),
 (Jvm.Cond.not (Jvm.Cond.castable "BackwardProofs$Formula" "java/lang/IllegalArgumentException")),
 (Jvm.Cond.not (Jvm.Cond.castable "BackwardProofs$Parser" "java/lang/IllegalArgumentException")),
 (Jvm.Cond.not (Jvm.Cond.castable "BackwardProofs$Scanner" "java/lang/IllegalArgumentException")),
 (Jvm.Cond.not (Jvm.Cond.castable "BackwardProofs$History" "java/lang/IllegalArgumentException")),
 (Jvm.Cond.not (Jvm.Cond.castable "BackwardProofs$Version" "java/lang/IllegalArgumentException")),
 (Jvm.Cond.not (Jvm.Cond.castable "BackwardProofs$Program" "java/lang/IllegalArgumentException")),
 (Jvm.Cond.not (Jvm.Cond.castable "BackwardProofs$Sets" "java/lang/IllegalArgumentException")),
 (Jvm.Cond.not (Jvm.Cond.castable "BackwardProofs$Runs" "java/lang/IllegalArgumentException")),
 (Jvm.Cond.not (Jvm.Cond.castable "BackwardProofs$Duties" "java/lang/IllegalArgumentException")),
 (Jvm.Cond.not (Jvm.Cond.castable "BackwardProofs$Sheet" "java/lang/IllegalArgumentException")),
 (Jvm.Cond.not (Jvm.Cond.castable "BackwardProofsModel" "java/lang/IllegalArgumentException")),
 (Jvm.Cond.not (Jvm.Cond.castable "java/lang/IllegalStateException" "java/lang/IllegalArgumentException")),
 (Jvm.Cond.not (Jvm.Cond.castable "java/util/NoSuchElementException" "java/lang/IllegalArgumentException")),
 (Jvm.Cond.not (Jvm.Cond.castable "java/lang/IndexOutOfBoundsException" "java/lang/IllegalArgumentException")),
 (Jvm.Cond.not (Jvm.Cond.castable "BackwardProofs" "java/util/NoSuchElementException")),
 (Jvm.Cond.not (Jvm.Cond.castable "BackwardProofs$Formula" "java/util/NoSuchElementException")),
 (Jvm.Cond.not (Jvm.Cond.castable "BackwardProofs$Parser" "java/util/NoSuchElementException")),
 (Jvm.Cond.not (Jvm.Cond.castable "BackwardProofs$Scanner" "java/util/NoSuchElementException")),
 (Jvm.Cond.not (Jvm.Cond.castable "BackwardProofs$History" "java/util/NoSuchElementException")),
 (Jvm.Cond.not (Jvm.Cond.castable "BackwardProofs$Version" "java/util/NoSuchElementException")),
 (Jvm.Cond.not (Jvm.Cond.castable "BackwardProofs$Program" "java/util/NoSuchElementException")),
 (Jvm.Cond.not (Jvm.Cond.castable "BackwardProofs$Sets" "java/util/NoSuchElementException")),
 (Jvm.Cond.not (Jvm.Cond.castable "BackwardProofs$Runs" "java/util/NoSuchElementException")),
 (Jvm.Cond.not (Jvm.Cond.castable "BackwardProofs$Duties" "java/util/NoSuchElementException")),
 (Jvm.Cond.not (Jvm.Cond.castable "BackwardProofs$Sheet" "java/util/NoSuchElementException")),
 (Jvm.Cond.not (Jvm.Cond.castable "BackwardProofsModel" "java/util/NoSuchElementException")),
 (Jvm.Cond.not (Jvm.Cond.castable "java/lang/IllegalStateException" "java/util/NoSuchElementException")),
 (Jvm.Cond.not (Jvm.Cond.castable "java/lang/IllegalArgumentException" "java/util/NoSuchElementException")),
 (Jvm.Cond.not (Jvm.Cond.castable "java/lang/IndexOutOfBoundsException" "java/util/NoSuchElementException")),
 (Jvm.Cond.not (Jvm.Cond.castable "BackwardProofs" "java/lang/IndexOutOfBoundsException")),
 (Jvm.Cond.not (Jvm.Cond.castable "BackwardProofs$Formula" "java/lang/IndexOutOfBoundsException")),
 (Jvm.Cond.not (Jvm.Cond.castable "BackwardProofs$Parser" "java/lang/IndexOutOfBoundsException")),
 (Jvm.Cond.not (Jvm.Cond.castable "BackwardProofs$Scanner" "java/lang/IndexOutOfBoundsException")),
 (Jvm.Cond.not (Jvm.Cond.castable "BackwardProofs$History" "java/lang/IndexOutOfBoundsException")),
 (Jvm.Cond.not (Jvm.Cond.castable "BackwardProofs$Version" "java/lang/IndexOutOfBoundsException")),
 (Jvm.Cond.not (Jvm.Cond.castable "BackwardProofs$Program" "java/lang/IndexOutOfBoundsException")),
 (Jvm.Cond.not (Jvm.Cond.castable "BackwardProofs$Sets" "java/lang/IndexOutOfBoundsException")),
 (Jvm.Cond.not (Jvm.Cond.castable "BackwardProofs$Runs" "java/lang/IndexOutOfBoundsException")),
 (Jvm.Cond.not (Jvm.Cond.castable "BackwardProofs$Duties" "java/lang/IndexOutOfBoundsException")),
 (Jvm.Cond.not (Jvm.Cond.castable "BackwardProofs$Sheet" "java/lang/IndexOutOfBoundsException")),
 (Jvm.Cond.not (Jvm.Cond.castable "BackwardProofsModel" "java/lang/IndexOutOfBoundsException")),
 (Jvm.Cond.not (Jvm.Cond.castable "java/lang/IllegalStateException" "java/lang/IndexOutOfBoundsException")),
 (Jvm.Cond.not (Jvm.Cond.castable "java/lang/IllegalArgumentException" "java/lang/IndexOutOfBoundsException")),
 (Jvm.Cond.not (Jvm.Cond.castable "java/util/NoSuchElementException" "java/lang/IndexOutOfBoundsException")),
 (Jvm.Cond.not (Jvm.Cond.castable "BackwardProofs" "BackwardProofs$Version")),
 (Jvm.Cond.not (Jvm.Cond.castable "BackwardProofs$Formula" "BackwardProofs$Version")),
 (Jvm.Cond.not (Jvm.Cond.castable "BackwardProofs$Parser" "BackwardProofs$Version")),
 (Jvm.Cond.not (Jvm.Cond.castable "BackwardProofs$Scanner" "BackwardProofs$Version")),
 (Jvm.Cond.not (Jvm.Cond.castable "BackwardProofs$History" "BackwardProofs$Version")),
 (Jvm.Cond.not (Jvm.Cond.castable "BackwardProofs$Program" "BackwardProofs$Version")),
 (Jvm.Cond.not (Jvm.Cond.castable "BackwardProofs$Sets" "BackwardProofs$Version")),
 (Jvm.Cond.not (Jvm.Cond.castable "BackwardProofs$Runs" "BackwardProofs$Version")),
 (Jvm.Cond.not (Jvm.Cond.castable "BackwardProofs$Duties" "BackwardProofs$Version")),
 (Jvm.Cond.not (Jvm.Cond.castable "BackwardProofs$Sheet" "BackwardProofs$Version")),
 (Jvm.Cond.not (Jvm.Cond.castable "BackwardProofsModel" "BackwardProofs$Version")),
 (Jvm.Cond.not (Jvm.Cond.castable "java/lang/IllegalStateException" "BackwardProofs$Version")),
 (Jvm.Cond.not (Jvm.Cond.castable "java/lang/IllegalArgumentException" "BackwardProofs$Version")),
 (Jvm.Cond.not (Jvm.Cond.castable "java/util/NoSuchElementException" "BackwardProofs$Version")),
 (Jvm.Cond.not (Jvm.Cond.castable "java/lang/IndexOutOfBoundsException" "BackwardProofs$Version")),
 (Jvm.Cond.not (Jvm.Cond.castable "java/lang/Throwable" "BackwardProofs$Version")),
 (Jvm.Cond.not (Jvm.Cond.castable "java/lang/String" "BackwardProofs$Version")),
 (Jvm.Cond.not (Jvm.Cond.castable "BackwardProofs" "BackwardProofs$Formula")),
 (Jvm.Cond.not (Jvm.Cond.castable "BackwardProofs$Parser" "BackwardProofs$Formula")),
 (Jvm.Cond.not (Jvm.Cond.castable "BackwardProofs$Scanner" "BackwardProofs$Formula")),
 (Jvm.Cond.not (Jvm.Cond.castable "BackwardProofs$History" "BackwardProofs$Formula")),
 (Jvm.Cond.not (Jvm.Cond.castable "BackwardProofs$Version" "BackwardProofs$Formula")),
 (Jvm.Cond.not (Jvm.Cond.castable "BackwardProofs$Program" "BackwardProofs$Formula")),
 (Jvm.Cond.not (Jvm.Cond.castable "BackwardProofs$Sets" "BackwardProofs$Formula")),
 (Jvm.Cond.not (Jvm.Cond.castable "BackwardProofs$Runs" "BackwardProofs$Formula")),
 (Jvm.Cond.not (Jvm.Cond.castable "BackwardProofs$Duties" "BackwardProofs$Formula")),
 (Jvm.Cond.not (Jvm.Cond.castable "BackwardProofs$Sheet" "BackwardProofs$Formula")),
 (Jvm.Cond.not (Jvm.Cond.castable "BackwardProofsModel" "BackwardProofs$Formula")),
 (Jvm.Cond.not (Jvm.Cond.castable "java/lang/IllegalStateException" "BackwardProofs$Formula")),
 (Jvm.Cond.not (Jvm.Cond.castable "java/lang/IllegalArgumentException" "BackwardProofs$Formula")),
 (Jvm.Cond.not (Jvm.Cond.castable "java/util/NoSuchElementException" "BackwardProofs$Formula")),
 (Jvm.Cond.not (Jvm.Cond.castable "java/lang/IndexOutOfBoundsException" "BackwardProofs$Formula")),
 (Jvm.Cond.not (Jvm.Cond.castable "java/lang/Throwable" "BackwardProofs$Formula")),
 (Jvm.Cond.not (Jvm.Cond.castable "java/lang/String" "BackwardProofs$Formula")),
 (Jvm.Cond.exactly (Jvm.Term.string "BackwardProofs" (89 : Nat)) "java/lang/String"),
 (Jvm.Cond.eq (Jvm.Term.field (Jvm.Term.string "BackwardProofs" (89 : Nat)) "java/lang/String" "coder" "B") (Jvm.Term.int (0 : Int32))),
 (Jvm.Cond.arrayOf (Jvm.Term.field (Jvm.Term.string "BackwardProofs" (89 : Nat)) "java/lang/String" "value" "[B") Jvm.ClassFile.FieldType.byte),
 (Jvm.Cond.eq (Jvm.Term.length (Jvm.Term.field (Jvm.Term.string "BackwardProofs" (89 : Nat)) "java/lang/String" "value" "[B")) (Jvm.Term.int (95 : Int32))),
 (Jvm.Cond.eq (Jvm.Term.elem (Jvm.Term.field (Jvm.Term.string "BackwardProofs" (89 : Nat)) "java/lang/String" "value" "[B") (Jvm.Term.int (0 : Int32))) (Jvm.Term.int (112 : Int32))),
 (Jvm.Cond.eq (Jvm.Term.elem (Jvm.Term.field (Jvm.Term.string "BackwardProofs" (89 : Nat)) "java/lang/String" "value" "[B") (Jvm.Term.int (1 : Int32))) (Jvm.Term.int (114 : Int32))),
 (Jvm.Cond.eq (Jvm.Term.elem (Jvm.Term.field (Jvm.Term.string "BackwardProofs" (89 : Nat)) "java/lang/String" "value" "[B") (Jvm.Term.int (2 : Int32))) (Jvm.Term.int (111 : Int32))),
 (Jvm.Cond.eq (Jvm.Term.elem (Jvm.Term.field (Jvm.Term.string "BackwardProofs" (89 : Nat)) "java/lang/String" "value" "[B") (Jvm.Term.int (3 : Int32))) (Jvm.Term.int (111 : Int32))),
 (Jvm.Cond.eq (Jvm.Term.elem (Jvm.Term.field (Jvm.Term.string "BackwardProofs" (89 : Nat)) "java/lang/String" "value" "[B") (Jvm.Term.int (4 : Int32))) (Jvm.Term.int (102 : Int32))),
 (Jvm.Cond.eq (Jvm.Term.elem (Jvm.Term.field (Jvm.Term.string "BackwardProofs" (89 : Nat)) "java/lang/String" "value" "[B") (Jvm.Term.int (5 : Int32))) (Jvm.Term.int (32 : Int32))),
 (Jvm.Cond.eq (Jvm.Term.elem (Jvm.Term.field (Jvm.Term.string "BackwardProofs" (89 : Nat)) "java/lang/String" "value" "[B") (Jvm.Term.int (6 : Int32))) (Jvm.Term.int (108 : Int32))),
 (Jvm.Cond.eq (Jvm.Term.elem (Jvm.Term.field (Jvm.Term.string "BackwardProofs" (89 : Nat)) "java/lang/String" "value" "[B") (Jvm.Term.int (7 : Int32))) (Jvm.Term.int (116 : Int32))),
 (Jvm.Cond.eq (Jvm.Term.elem (Jvm.Term.field (Jvm.Term.string "BackwardProofs" (89 : Nat)) "java/lang/String" "value" "[B") (Jvm.Term.int (8 : Int32))) (Jvm.Term.int (32 : Int32))),
 (Jvm.Cond.eq (Jvm.Term.elem (Jvm.Term.field (Jvm.Term.string "BackwardProofs" (89 : Nat)) "java/lang/String" "value" "[B") (Jvm.Term.int (9 : Int32))) (Jvm.Term.int (97 : Int32))),
 (Jvm.Cond.eq (Jvm.Term.elem (Jvm.Term.field (Jvm.Term.string "BackwardProofs" (89 : Nat)) "java/lang/String" "value" "[B") (Jvm.Term.int (10 : Int32))) (Jvm.Term.int (32 : Int32))),
 (Jvm.Cond.eq (Jvm.Term.elem (Jvm.Term.field (Jvm.Term.string "BackwardProofs" (89 : Nat)) "java/lang/String" "value" "[B") (Jvm.Term.int (11 : Int32))) (Jvm.Term.int (51 : Int32))),
 (Jvm.Cond.eq (Jvm.Term.elem (Jvm.Term.field (Jvm.Term.string "BackwardProofs" (89 : Nat)) "java/lang/String" "value" "[B") (Jvm.Term.int (12 : Int32))) (Jvm.Term.int (32 : Int32))),
 (Jvm.Cond.eq (Jvm.Term.elem (Jvm.Term.field (Jvm.Term.string "BackwardProofs" (89 : Nat)) "java/lang/String" "value" "[B") (Jvm.Term.int (13 : Int32))) (Jvm.Term.int (97 : Int32))),
 (Jvm.Cond.eq (Jvm.Term.elem (Jvm.Term.field (Jvm.Term.string "BackwardProofs" (89 : Nat)) "java/lang/String" "value" "[B") (Jvm.Term.int (14 : Int32))) (Jvm.Term.int (110 : Int32))),
 (Jvm.Cond.eq (Jvm.Term.elem (Jvm.Term.field (Jvm.Term.string "BackwardProofs" (89 : Nat)) "java/lang/String" "value" "[B") (Jvm.Term.int (15 : Int32))) (Jvm.Term.int (100 : Int32))),
 (Jvm.Cond.eq (Jvm.Term.elem (Jvm.Term.field (Jvm.Term.string "BackwardProofs" (89 : Nat)) "java/lang/String" "value" "[B") (Jvm.Term.int (16 : Int32))) (Jvm.Term.int (32 : Int32))),
 (Jvm.Cond.eq (Jvm.Term.elem (Jvm.Term.field (Jvm.Term.string "BackwardProofs" (89 : Nat)) "java/lang/String" "value" "[B") (Jvm.Term.int (17 : Int32))) (Jvm.Term.int (101 : Int32))),
 (Jvm.Cond.eq (Jvm.Term.elem (Jvm.Term.field (Jvm.Term.string "BackwardProofs" (89 : Nat)) "java/lang/String" "value" "[B") (Jvm.Term.int (18 : Int32))) (Jvm.Term.int (113 : Int32))),
 (Jvm.Cond.eq (Jvm.Term.elem (Jvm.Term.field (Jvm.Term.string "BackwardProofs" (89 : Nat)) "java/lang/String" "value" "[B") (Jvm.Term.int (19 : Int32))) (Jvm.Term.int (32 : Int32))),
 (Jvm.Cond.eq (Jvm.Term.elem (Jvm.Term.field (Jvm.Term.string "BackwardProofs" (89 : Nat)) "java/lang/String" "value" "[B") (Jvm.Term.int (20 : Int32))) (Jvm.Term.int (97 : Int32))),
 (Jvm.Cond.eq (Jvm.Term.elem (Jvm.Term.field (Jvm.Term.string "BackwardProofs" (89 : Nat)) "java/lang/String" "value" "[B") (Jvm.Term.int (21 : Int32))) (Jvm.Term.int (32 : Int32))),
 (Jvm.Cond.eq (Jvm.Term.elem (Jvm.Term.field (Jvm.Term.string "BackwardProofs" (89 : Nat)) "java/lang/String" "value" "[B") (Jvm.Term.int (22 : Int32))) (Jvm.Term.int (48 : Int32))),
 (Jvm.Cond.eq (Jvm.Term.elem (Jvm.Term.field (Jvm.Term.string "BackwardProofs" (89 : Nat)) "java/lang/String" "value" "[B") (Jvm.Term.int (23 : Int32))) (Jvm.Term.int (32 : Int32))),
 (Jvm.Cond.eq (Jvm.Term.elem (Jvm.Term.field (Jvm.Term.string "BackwardProofs" (89 : Nat)) "java/lang/String" "value" "[B") (Jvm.Term.int (24 : Int32))) (Jvm.Term.int (101 : Int32))),
 (Jvm.Cond.eq (Jvm.Term.elem (Jvm.Term.field (Jvm.Term.string "BackwardProofs" (89 : Nat)) "java/lang/String" "value" "[B") (Jvm.Term.int (25 : Int32))) (Jvm.Term.int (113 : Int32))),
 (Jvm.Cond.eq (Jvm.Term.elem (Jvm.Term.field (Jvm.Term.string "BackwardProofs" (89 : Nat)) "java/lang/String" "value" "[B") (Jvm.Term.int (26 : Int32))) (Jvm.Term.int (32 : Int32))),
 (Jvm.Cond.eq (Jvm.Term.elem (Jvm.Term.field (Jvm.Term.string "BackwardProofs" (89 : Nat)) "java/lang/String" "value" "[B") (Jvm.Term.int (27 : Int32))) (Jvm.Term.int (98 : Int32))),
 (Jvm.Cond.eq (Jvm.Term.elem (Jvm.Term.field (Jvm.Term.string "BackwardProofs" (89 : Nat)) "java/lang/String" "value" "[B") (Jvm.Term.int (28 : Int32))) (Jvm.Term.int (32 : Int32))),
 (Jvm.Cond.eq (Jvm.Term.elem (Jvm.Term.field (Jvm.Term.string "BackwardProofs" (89 : Nat)) "java/lang/String" "value" "[B") (Jvm.Term.int (29 : Int32))) (Jvm.Term.int (50 : Int32))),
 (Jvm.Cond.eq (Jvm.Term.elem (Jvm.Term.field (Jvm.Term.string "BackwardProofs" (89 : Nat)) "java/lang/String" "value" "[B") (Jvm.Term.int (30 : Int32))) (Jvm.Term.int (32 : Int32))),
 (Jvm.Cond.eq (Jvm.Term.elem (Jvm.Term.field (Jvm.Term.string "BackwardProofs" (89 : Nat)) "java/lang/String" "value" "[B") (Jvm.Term.int (31 : Int32))) (Jvm.Term.int (115 : Int32))),
 (Jvm.Cond.eq (Jvm.Term.elem (Jvm.Term.field (Jvm.Term.string "BackwardProofs" (89 : Nat)) "java/lang/String" "value" "[B") (Jvm.Term.int (32 : Int32))) (Jvm.Term.int (101 : Int32))),
 (Jvm.Cond.eq (Jvm.Term.elem (Jvm.Term.field (Jvm.Term.string "BackwardProofs" (89 : Nat)) "java/lang/String" "value" "[B") (Jvm.Term.int (33 : Int32))) (Jvm.Term.int (116 : Int32))),
 (Jvm.Cond.eq (Jvm.Term.elem (Jvm.Term.field (Jvm.Term.string "BackwardProofs" (89 : Nat)) "java/lang/String" "value" "[B") (Jvm.Term.int (34 : Int32))) (Jvm.Term.int (32 : Int32))),
 (Jvm.Cond.eq (Jvm.Term.elem (Jvm.Term.field (Jvm.Term.string "BackwardProofs" (89 : Nat)) "java/lang/String" "value" "[B") (Jvm.Term.int (35 : Int32))) (Jvm.Term.int (98 : Int32))),
 (Jvm.Cond.eq (Jvm.Term.elem (Jvm.Term.field (Jvm.Term.string "BackwardProofs" (89 : Nat)) "java/lang/String" "value" "[B") (Jvm.Term.int (36 : Int32))) (Jvm.Term.int (32 : Int32))),
 (Jvm.Cond.eq (Jvm.Term.elem (Jvm.Term.field (Jvm.Term.string "BackwardProofs" (89 : Nat)) "java/lang/String" "value" "[B") (Jvm.Term.int (37 : Int32))) (Jvm.Term.int (50 : Int32))),
 (Jvm.Cond.eq (Jvm.Term.elem (Jvm.Term.field (Jvm.Term.string "BackwardProofs" (89 : Nat)) "java/lang/String" "value" "[B") (Jvm.Term.int (38 : Int32))) (Jvm.Term.int (32 : Int32))),
 (Jvm.Cond.eq (Jvm.Term.elem (Jvm.Term.field (Jvm.Term.string "BackwardProofs" (89 : Nat)) "java/lang/String" "value" "[B") (Jvm.Term.int (39 : Int32))) (Jvm.Term.int (119 : Int32))),
 (Jvm.Cond.eq (Jvm.Term.elem (Jvm.Term.field (Jvm.Term.string "BackwardProofs" (89 : Nat)) "java/lang/String" "value" "[B") (Jvm.Term.int (40 : Int32))) (Jvm.Term.int (104 : Int32))),
 (Jvm.Cond.eq (Jvm.Term.elem (Jvm.Term.field (Jvm.Term.string "BackwardProofs" (89 : Nat)) "java/lang/String" "value" "[B") (Jvm.Term.int (41 : Int32))) (Jvm.Term.int (105 : Int32))),
 (Jvm.Cond.eq (Jvm.Term.elem (Jvm.Term.field (Jvm.Term.string "BackwardProofs" (89 : Nat)) "java/lang/String" "value" "[B") (Jvm.Term.int (42 : Int32))) (Jvm.Term.int (108 : Int32))),
 (Jvm.Cond.eq (Jvm.Term.elem (Jvm.Term.field (Jvm.Term.string "BackwardProofs" (89 : Nat)) "java/lang/String" "value" "[B") (Jvm.Term.int (43 : Int32))) (Jvm.Term.int (101 : Int32))),
 (Jvm.Cond.eq (Jvm.Term.elem (Jvm.Term.field (Jvm.Term.string "BackwardProofs" (89 : Nat)) "java/lang/String" "value" "[B") (Jvm.Term.int (44 : Int32))) (Jvm.Term.int (32 : Int32))),
 (Jvm.Cond.eq (Jvm.Term.elem (Jvm.Term.field (Jvm.Term.string "BackwardProofs" (89 : Nat)) "java/lang/String" "value" "[B") (Jvm.Term.int (45 : Int32))) (Jvm.Term.int (108 : Int32))),
 (Jvm.Cond.eq (Jvm.Term.elem (Jvm.Term.field (Jvm.Term.string "BackwardProofs" (89 : Nat)) "java/lang/String" "value" "[B") (Jvm.Term.int (46 : Int32))) (Jvm.Term.int (116 : Int32))),
 (Jvm.Cond.eq (Jvm.Term.elem (Jvm.Term.field (Jvm.Term.string "BackwardProofs" (89 : Nat)) "java/lang/String" "value" "[B") (Jvm.Term.int (47 : Int32))) (Jvm.Term.int (32 : Int32))),
 (Jvm.Cond.eq (Jvm.Term.elem (Jvm.Term.field (Jvm.Term.string "BackwardProofs" (89 : Nat)) "java/lang/String" "value" "[B") (Jvm.Term.int (48 : Int32))) (Jvm.Term.int (48 : Int32))),
 (Jvm.Cond.eq (Jvm.Term.elem (Jvm.Term.field (Jvm.Term.string "BackwardProofs" (89 : Nat)) "java/lang/String" "value" "[B") (Jvm.Term.int (49 : Int32))) (Jvm.Term.int (32 : Int32))),
 (Jvm.Cond.eq (Jvm.Term.elem (Jvm.Term.field (Jvm.Term.string "BackwardProofs" (89 : Nat)) "java/lang/String" "value" "[B") (Jvm.Term.int (50 : Int32))) (Jvm.Term.int (97 : Int32))),
 (Jvm.Cond.eq (Jvm.Term.elem (Jvm.Term.field (Jvm.Term.string "BackwardProofs" (89 : Nat)) "java/lang/String" "value" "[B") (Jvm.Term.int (51 : Int32))) (Jvm.Term.int (32 : Int32))),
 (Jvm.Cond.eq (Jvm.Term.elem (Jvm.Term.field (Jvm.Term.string "BackwardProofs" (89 : Nat)) "java/lang/String" "value" "[B") (Jvm.Term.int (52 : Int32))) (Jvm.Term.int (107 : Int32))),
 (Jvm.Cond.eq (Jvm.Term.elem (Jvm.Term.field (Jvm.Term.string "BackwardProofs" (89 : Nat)) "java/lang/String" "value" "[B") (Jvm.Term.int (53 : Int32))) (Jvm.Term.int (101 : Int32))),
 (Jvm.Cond.eq (Jvm.Term.elem (Jvm.Term.field (Jvm.Term.string "BackwardProofs" (89 : Nat)) "java/lang/String" "value" "[B") (Jvm.Term.int (54 : Int32))) (Jvm.Term.int (101 : Int32))),
 (Jvm.Cond.eq (Jvm.Term.elem (Jvm.Term.field (Jvm.Term.string "BackwardProofs" (89 : Nat)) "java/lang/String" "value" "[B") (Jvm.Term.int (55 : Int32))) (Jvm.Term.int (112 : Int32))),
 (Jvm.Cond.eq (Jvm.Term.elem (Jvm.Term.field (Jvm.Term.string "BackwardProofs" (89 : Nat)) "java/lang/String" "value" "[B") (Jvm.Term.int (56 : Int32))) (Jvm.Term.int (32 : Int32))),
 (Jvm.Cond.eq (Jvm.Term.elem (Jvm.Term.field (Jvm.Term.string "BackwardProofs" (89 : Nat)) "java/lang/String" "value" "[B") (Jvm.Term.int (57 : Int32))) (Jvm.Term.int (101 : Int32))),
 (Jvm.Cond.eq (Jvm.Term.elem (Jvm.Term.field (Jvm.Term.string "BackwardProofs" (89 : Nat)) "java/lang/String" "value" "[B") (Jvm.Term.int (58 : Int32))) (Jvm.Term.int (113 : Int32))),
 (Jvm.Cond.eq (Jvm.Term.elem (Jvm.Term.field (Jvm.Term.string "BackwardProofs" (89 : Nat)) "java/lang/String" "value" "[B") (Jvm.Term.int (59 : Int32))) (Jvm.Term.int (32 : Int32))),
 (Jvm.Cond.eq (Jvm.Term.elem (Jvm.Term.field (Jvm.Term.string "BackwardProofs" (89 : Nat)) "java/lang/String" "value" "[B") (Jvm.Term.int (60 : Int32))) (Jvm.Term.int (98 : Int32))),
 (Jvm.Cond.eq (Jvm.Term.elem (Jvm.Term.field (Jvm.Term.string "BackwardProofs" (89 : Nat)) "java/lang/String" "value" "[B") (Jvm.Term.int (61 : Int32))) (Jvm.Term.int (32 : Int32))),
 (Jvm.Cond.eq (Jvm.Term.elem (Jvm.Term.field (Jvm.Term.string "BackwardProofs" (89 : Nat)) "java/lang/String" "value" "[B") (Jvm.Term.int (62 : Int32))) (Jvm.Term.int (50 : Int32))),
 (Jvm.Cond.eq (Jvm.Term.elem (Jvm.Term.field (Jvm.Term.string "BackwardProofs" (89 : Nat)) "java/lang/String" "value" "[B") (Jvm.Term.int (63 : Int32))) (Jvm.Term.int (32 : Int32))),
 (Jvm.Cond.eq (Jvm.Term.elem (Jvm.Term.field (Jvm.Term.string "BackwardProofs" (89 : Nat)) "java/lang/String" "value" "[B") (Jvm.Term.int (64 : Int32))) (Jvm.Term.int (108 : Int32))),
 (Jvm.Cond.eq (Jvm.Term.elem (Jvm.Term.field (Jvm.Term.string "BackwardProofs" (89 : Nat)) "java/lang/String" "value" "[B") (Jvm.Term.int (65 : Int32))) (Jvm.Term.int (101 : Int32))),
 (Jvm.Cond.eq (Jvm.Term.elem (Jvm.Term.field (Jvm.Term.string "BackwardProofs" (89 : Nat)) "java/lang/String" "value" "[B") (Jvm.Term.int (66 : Int32))) (Jvm.Term.int (115 : Int32))),
 (Jvm.Cond.eq (Jvm.Term.elem (Jvm.Term.field (Jvm.Term.string "BackwardProofs" (89 : Nat)) "java/lang/String" "value" "[B") (Jvm.Term.int (67 : Int32))) (Jvm.Term.int (115 : Int32))),
 (Jvm.Cond.eq (Jvm.Term.elem (Jvm.Term.field (Jvm.Term.string "BackwardProofs" (89 : Nat)) "java/lang/String" "value" "[B") (Jvm.Term.int (68 : Int32))) (Jvm.Term.int (32 : Int32))),
 (Jvm.Cond.eq (Jvm.Term.elem (Jvm.Term.field (Jvm.Term.string "BackwardProofs" (89 : Nat)) "java/lang/String" "value" "[B") (Jvm.Term.int (69 : Int32))) (Jvm.Term.int (97 : Int32))),
 (Jvm.Cond.eq (Jvm.Term.elem (Jvm.Term.field (Jvm.Term.string "BackwardProofs" (89 : Nat)) "java/lang/String" "value" "[B") (Jvm.Term.int (70 : Int32))) (Jvm.Term.int (32 : Int32))),
 (Jvm.Cond.eq (Jvm.Term.elem (Jvm.Term.field (Jvm.Term.string "BackwardProofs" (89 : Nat)) "java/lang/String" "value" "[B") (Jvm.Term.int (71 : Int32))) (Jvm.Term.int (115 : Int32))),
 (Jvm.Cond.eq (Jvm.Term.elem (Jvm.Term.field (Jvm.Term.string "BackwardProofs" (89 : Nat)) "java/lang/String" "value" "[B") (Jvm.Term.int (72 : Int32))) (Jvm.Term.int (101 : Int32))),
 (Jvm.Cond.eq (Jvm.Term.elem (Jvm.Term.field (Jvm.Term.string "BackwardProofs" (89 : Nat)) "java/lang/String" "value" "[B") (Jvm.Term.int (73 : Int32))) (Jvm.Term.int (116 : Int32))),
 (Jvm.Cond.eq (Jvm.Term.elem (Jvm.Term.field (Jvm.Term.string "BackwardProofs" (89 : Nat)) "java/lang/String" "value" "[B") (Jvm.Term.int (74 : Int32))) (Jvm.Term.int (32 : Int32))),
 (Jvm.Cond.eq (Jvm.Term.elem (Jvm.Term.field (Jvm.Term.string "BackwardProofs" (89 : Nat)) "java/lang/String" "value" "[B") (Jvm.Term.int (75 : Int32))) (Jvm.Term.int (97 : Int32))),
 (Jvm.Cond.eq (Jvm.Term.elem (Jvm.Term.field (Jvm.Term.string "BackwardProofs" (89 : Nat)) "java/lang/String" "value" "[B") (Jvm.Term.int (76 : Int32))) (Jvm.Term.int (32 : Int32))),
 (Jvm.Cond.eq (Jvm.Term.elem (Jvm.Term.field (Jvm.Term.string "BackwardProofs" (89 : Nat)) "java/lang/String" "value" "[B") (Jvm.Term.int (77 : Int32))) (Jvm.Term.int (109 : Int32))),
 (Jvm.Cond.eq (Jvm.Term.elem (Jvm.Term.field (Jvm.Term.string "BackwardProofs" (89 : Nat)) "java/lang/String" "value" "[B") (Jvm.Term.int (78 : Int32))) (Jvm.Term.int (105 : Int32))),
 (Jvm.Cond.eq (Jvm.Term.elem (Jvm.Term.field (Jvm.Term.string "BackwardProofs" (89 : Nat)) "java/lang/String" "value" "[B") (Jvm.Term.int (79 : Int32))) (Jvm.Term.int (110 : Int32))),
 (Jvm.Cond.eq (Jvm.Term.elem (Jvm.Term.field (Jvm.Term.string "BackwardProofs" (89 : Nat)) "java/lang/String" "value" "[B") (Jvm.Term.int (80 : Int32))) (Jvm.Term.int (117 : Int32))),
 (Jvm.Cond.eq (Jvm.Term.elem (Jvm.Term.field (Jvm.Term.string "BackwardProofs" (89 : Nat)) "java/lang/String" "value" "[B") (Jvm.Term.int (81 : Int32))) (Jvm.Term.int (115 : Int32))),
 (Jvm.Cond.eq (Jvm.Term.elem (Jvm.Term.field (Jvm.Term.string "BackwardProofs" (89 : Nat)) "java/lang/String" "value" "[B") (Jvm.Term.int (82 : Int32))) (Jvm.Term.int (32 : Int32))),
 (Jvm.Cond.eq (Jvm.Term.elem (Jvm.Term.field (Jvm.Term.string "BackwardProofs" (89 : Nat)) "java/lang/String" "value" "[B") (Jvm.Term.int (83 : Int32))) (Jvm.Term.int (97 : Int32))),
 (Jvm.Cond.eq (Jvm.Term.elem (Jvm.Term.field (Jvm.Term.string "BackwardProofs" (89 : Nat)) "java/lang/String" "value" "[B") (Jvm.Term.int (84 : Int32))) (Jvm.Term.int (32 : Int32))),
 (Jvm.Cond.eq (Jvm.Term.elem (Jvm.Term.field (Jvm.Term.string "BackwardProofs" (89 : Nat)) "java/lang/String" "value" "[B") (Jvm.Term.int (85 : Int32))) (Jvm.Term.int (49 : Int32))),
 (Jvm.Cond.eq (Jvm.Term.elem (Jvm.Term.field (Jvm.Term.string "BackwardProofs" (89 : Nat)) "java/lang/String" "value" "[B") (Jvm.Term.int (86 : Int32))) (Jvm.Term.int (32 : Int32))),
 (Jvm.Cond.eq (Jvm.Term.elem (Jvm.Term.field (Jvm.Term.string "BackwardProofs" (89 : Nat)) "java/lang/String" "value" "[B") (Jvm.Term.int (87 : Int32))) (Jvm.Term.int (101 : Int32))),
 (Jvm.Cond.eq (Jvm.Term.elem (Jvm.Term.field (Jvm.Term.string "BackwardProofs" (89 : Nat)) "java/lang/String" "value" "[B") (Jvm.Term.int (88 : Int32))) (Jvm.Term.int (110 : Int32))),
 (Jvm.Cond.eq (Jvm.Term.elem (Jvm.Term.field (Jvm.Term.string "BackwardProofs" (89 : Nat)) "java/lang/String" "value" "[B") (Jvm.Term.int (89 : Int32))) (Jvm.Term.int (100 : Int32))),
 (Jvm.Cond.eq (Jvm.Term.elem (Jvm.Term.field (Jvm.Term.string "BackwardProofs" (89 : Nat)) "java/lang/String" "value" "[B") (Jvm.Term.int (90 : Int32))) (Jvm.Term.int (32 : Int32))),
 (Jvm.Cond.eq (Jvm.Term.elem (Jvm.Term.field (Jvm.Term.string "BackwardProofs" (89 : Nat)) "java/lang/String" "value" "[B") (Jvm.Term.int (91 : Int32))) (Jvm.Term.int (104 : Int32))),
 (Jvm.Cond.eq (Jvm.Term.elem (Jvm.Term.field (Jvm.Term.string "BackwardProofs" (89 : Nat)) "java/lang/String" "value" "[B") (Jvm.Term.int (92 : Int32))) (Jvm.Term.int (111 : Int32))),
 (Jvm.Cond.eq (Jvm.Term.elem (Jvm.Term.field (Jvm.Term.string "BackwardProofs" (89 : Nat)) "java/lang/String" "value" "[B") (Jvm.Term.int (93 : Int32))) (Jvm.Term.int (108 : Int32))),
 (Jvm.Cond.eq (Jvm.Term.elem (Jvm.Term.field (Jvm.Term.string "BackwardProofs" (89 : Nat)) "java/lang/String" "value" "[B") (Jvm.Term.int (94 : Int32))) (Jvm.Term.int (101 : Int32))),
 (Jvm.Cond.exactly (Jvm.Term.string "BackwardProofs$Words" (7 : Nat)) "java/lang/String"),
 (Jvm.Cond.eq (Jvm.Term.field (Jvm.Term.string "BackwardProofs$Words" (7 : Nat)) "java/lang/String" "coder" "B") (Jvm.Term.int (0 : Int32))),
 (Jvm.Cond.arrayOf (Jvm.Term.field (Jvm.Term.string "BackwardProofs$Words" (7 : Nat)) "java/lang/String" "value" "[B") Jvm.ClassFile.FieldType.byte),
 (Jvm.Cond.eq (Jvm.Term.length (Jvm.Term.field (Jvm.Term.string "BackwardProofs$Words" (7 : Nat)) "java/lang/String" "value" "[B")) (Jvm.Term.int (1 : Int32))),
 (Jvm.Cond.eq (Jvm.Term.elem (Jvm.Term.field (Jvm.Term.string "BackwardProofs$Words" (7 : Nat)) "java/lang/String" "value" "[B") (Jvm.Term.int (0 : Int32))) (Jvm.Term.int (48 : Int32))),
 (Jvm.Cond.exactly (Jvm.Term.string "BackwardProofs$Words" (9 : Nat)) "java/lang/String"),
 (Jvm.Cond.eq (Jvm.Term.field (Jvm.Term.string "BackwardProofs$Words" (9 : Nat)) "java/lang/String" "coder" "B") (Jvm.Term.int (0 : Int32))),
 (Jvm.Cond.arrayOf (Jvm.Term.field (Jvm.Term.string "BackwardProofs$Words" (9 : Nat)) "java/lang/String" "value" "[B") Jvm.ClassFile.FieldType.byte),
 (Jvm.Cond.eq (Jvm.Term.length (Jvm.Term.field (Jvm.Term.string "BackwardProofs$Words" (9 : Nat)) "java/lang/String" "value" "[B")) (Jvm.Term.int (1 : Int32))),
 (Jvm.Cond.eq (Jvm.Term.elem (Jvm.Term.field (Jvm.Term.string "BackwardProofs$Words" (9 : Nat)) "java/lang/String" "value" "[B") (Jvm.Term.int (0 : Int32))) (Jvm.Term.int (49 : Int32))),
 (Jvm.Cond.exactly (Jvm.Term.string "BackwardProofs$Words" (11 : Nat)) "java/lang/String"),
 (Jvm.Cond.eq (Jvm.Term.field (Jvm.Term.string "BackwardProofs$Words" (11 : Nat)) "java/lang/String" "coder" "B") (Jvm.Term.int (0 : Int32))),
 (Jvm.Cond.arrayOf (Jvm.Term.field (Jvm.Term.string "BackwardProofs$Words" (11 : Nat)) "java/lang/String" "value" "[B") Jvm.ClassFile.FieldType.byte),
 (Jvm.Cond.eq (Jvm.Term.length (Jvm.Term.field (Jvm.Term.string "BackwardProofs$Words" (11 : Nat)) "java/lang/String" "value" "[B")) (Jvm.Term.int (1 : Int32))),
 (Jvm.Cond.eq (Jvm.Term.elem (Jvm.Term.field (Jvm.Term.string "BackwardProofs$Words" (11 : Nat)) "java/lang/String" "value" "[B") (Jvm.Term.int (0 : Int32))) (Jvm.Term.int (50 : Int32))),
 (Jvm.Cond.exactly (Jvm.Term.string "BackwardProofs$Words" (13 : Nat)) "java/lang/String"),
 (Jvm.Cond.eq (Jvm.Term.field (Jvm.Term.string "BackwardProofs$Words" (13 : Nat)) "java/lang/String" "coder" "B") (Jvm.Term.int (0 : Int32))),
 (Jvm.Cond.arrayOf (Jvm.Term.field (Jvm.Term.string "BackwardProofs$Words" (13 : Nat)) "java/lang/String" "value" "[B") Jvm.ClassFile.FieldType.byte),
 (Jvm.Cond.eq (Jvm.Term.length (Jvm.Term.field (Jvm.Term.string "BackwardProofs$Words" (13 : Nat)) "java/lang/String" "value" "[B")) (Jvm.Term.int (1 : Int32))),
 (Jvm.Cond.eq (Jvm.Term.elem (Jvm.Term.field (Jvm.Term.string "BackwardProofs$Words" (13 : Nat)) "java/lang/String" "value" "[B") (Jvm.Term.int (0 : Int32))) (Jvm.Term.int (51 : Int32))),
 (Jvm.Cond.exactly (Jvm.Term.string "BackwardProofs$Words" (15 : Nat)) "java/lang/String"),
 (Jvm.Cond.eq (Jvm.Term.field (Jvm.Term.string "BackwardProofs$Words" (15 : Nat)) "java/lang/String" "coder" "B") (Jvm.Term.int (0 : Int32))),
 (Jvm.Cond.arrayOf (Jvm.Term.field (Jvm.Term.string "BackwardProofs$Words" (15 : Nat)) "java/lang/String" "value" "[B") Jvm.ClassFile.FieldType.byte),
 (Jvm.Cond.eq (Jvm.Term.length (Jvm.Term.field (Jvm.Term.string "BackwardProofs$Words" (15 : Nat)) "java/lang/String" "value" "[B")) (Jvm.Term.int (1 : Int32))),
 (Jvm.Cond.eq (Jvm.Term.elem (Jvm.Term.field (Jvm.Term.string "BackwardProofs$Words" (15 : Nat)) "java/lang/String" "value" "[B") (Jvm.Term.int (0 : Int32))) (Jvm.Term.int (97 : Int32))),
 (Jvm.Cond.exactly (Jvm.Term.string "BackwardProofs$Words" (17 : Nat)) "java/lang/String"),
 (Jvm.Cond.eq (Jvm.Term.field (Jvm.Term.string "BackwardProofs$Words" (17 : Nat)) "java/lang/String" "coder" "B") (Jvm.Term.int (0 : Int32))),
 (Jvm.Cond.arrayOf (Jvm.Term.field (Jvm.Term.string "BackwardProofs$Words" (17 : Nat)) "java/lang/String" "value" "[B") Jvm.ClassFile.FieldType.byte),
 (Jvm.Cond.eq (Jvm.Term.length (Jvm.Term.field (Jvm.Term.string "BackwardProofs$Words" (17 : Nat)) "java/lang/String" "value" "[B")) (Jvm.Term.int (1 : Int32))),
 (Jvm.Cond.eq (Jvm.Term.elem (Jvm.Term.field (Jvm.Term.string "BackwardProofs$Words" (17 : Nat)) "java/lang/String" "value" "[B") (Jvm.Term.int (0 : Int32))) (Jvm.Term.int (98 : Int32))),
 (Jvm.Cond.exactly (Jvm.Term.string "BackwardProofs$Words" (19 : Nat)) "java/lang/String"),
 (Jvm.Cond.eq (Jvm.Term.field (Jvm.Term.string "BackwardProofs$Words" (19 : Nat)) "java/lang/String" "coder" "B") (Jvm.Term.int (0 : Int32))),
 (Jvm.Cond.arrayOf (Jvm.Term.field (Jvm.Term.string "BackwardProofs$Words" (19 : Nat)) "java/lang/String" "value" "[B") Jvm.ClassFile.FieldType.byte),
 (Jvm.Cond.eq (Jvm.Term.length (Jvm.Term.field (Jvm.Term.string "BackwardProofs$Words" (19 : Nat)) "java/lang/String" "value" "[B")) (Jvm.Term.int (1 : Int32))),
 (Jvm.Cond.eq (Jvm.Term.elem (Jvm.Term.field (Jvm.Term.string "BackwardProofs$Words" (19 : Nat)) "java/lang/String" "value" "[B") (Jvm.Term.int (0 : Int32))) (Jvm.Term.int (99 : Int32))),
 (Jvm.Cond.exactly (Jvm.Term.string "BackwardProofs$Words" (21 : Nat)) "java/lang/String"),
 (Jvm.Cond.eq (Jvm.Term.field (Jvm.Term.string "BackwardProofs$Words" (21 : Nat)) "java/lang/String" "coder" "B") (Jvm.Term.int (0 : Int32))),
 (Jvm.Cond.arrayOf (Jvm.Term.field (Jvm.Term.string "BackwardProofs$Words" (21 : Nat)) "java/lang/String" "value" "[B") Jvm.ClassFile.FieldType.byte),
 (Jvm.Cond.eq (Jvm.Term.length (Jvm.Term.field (Jvm.Term.string "BackwardProofs$Words" (21 : Nat)) "java/lang/String" "value" "[B")) (Jvm.Term.int (4 : Int32))),
 (Jvm.Cond.eq (Jvm.Term.elem (Jvm.Term.field (Jvm.Term.string "BackwardProofs$Words" (21 : Nat)) "java/lang/String" "value" "[B") (Jvm.Term.int (0 : Int32))) (Jvm.Term.int (112 : Int32))),
 (Jvm.Cond.eq (Jvm.Term.elem (Jvm.Term.field (Jvm.Term.string "BackwardProofs$Words" (21 : Nat)) "java/lang/String" "value" "[B") (Jvm.Term.int (1 : Int32))) (Jvm.Term.int (108 : Int32))),
 (Jvm.Cond.eq (Jvm.Term.elem (Jvm.Term.field (Jvm.Term.string "BackwardProofs$Words" (21 : Nat)) "java/lang/String" "value" "[B") (Jvm.Term.int (2 : Int32))) (Jvm.Term.int (117 : Int32))),
 (Jvm.Cond.eq (Jvm.Term.elem (Jvm.Term.field (Jvm.Term.string "BackwardProofs$Words" (21 : Nat)) "java/lang/String" "value" "[B") (Jvm.Term.int (3 : Int32))) (Jvm.Term.int (115 : Int32))),
 (Jvm.Cond.exactly (Jvm.Term.string "BackwardProofs$Words" (23 : Nat)) "java/lang/String"),
 (Jvm.Cond.eq (Jvm.Term.field (Jvm.Term.string "BackwardProofs$Words" (23 : Nat)) "java/lang/String" "coder" "B") (Jvm.Term.int (0 : Int32))),
 (Jvm.Cond.arrayOf (Jvm.Term.field (Jvm.Term.string "BackwardProofs$Words" (23 : Nat)) "java/lang/String" "value" "[B") Jvm.ClassFile.FieldType.byte),
 (Jvm.Cond.eq (Jvm.Term.length (Jvm.Term.field (Jvm.Term.string "BackwardProofs$Words" (23 : Nat)) "java/lang/String" "value" "[B")) (Jvm.Term.int (5 : Int32))),
 (Jvm.Cond.eq (Jvm.Term.elem (Jvm.Term.field (Jvm.Term.string "BackwardProofs$Words" (23 : Nat)) "java/lang/String" "value" "[B") (Jvm.Term.int (0 : Int32))) (Jvm.Term.int (109 : Int32))),
 (Jvm.Cond.eq (Jvm.Term.elem (Jvm.Term.field (Jvm.Term.string "BackwardProofs$Words" (23 : Nat)) "java/lang/String" "value" "[B") (Jvm.Term.int (1 : Int32))) (Jvm.Term.int (105 : Int32))),
 (Jvm.Cond.eq (Jvm.Term.elem (Jvm.Term.field (Jvm.Term.string "BackwardProofs$Words" (23 : Nat)) "java/lang/String" "value" "[B") (Jvm.Term.int (2 : Int32))) (Jvm.Term.int (110 : Int32))),
 (Jvm.Cond.eq (Jvm.Term.elem (Jvm.Term.field (Jvm.Term.string "BackwardProofs$Words" (23 : Nat)) "java/lang/String" "value" "[B") (Jvm.Term.int (3 : Int32))) (Jvm.Term.int (117 : Int32))),
 (Jvm.Cond.eq (Jvm.Term.elem (Jvm.Term.field (Jvm.Term.string "BackwardProofs$Words" (23 : Nat)) "java/lang/String" "value" "[B") (Jvm.Term.int (4 : Int32))) (Jvm.Term.int (115 : Int32))),
 (Jvm.Cond.exactly (Jvm.Term.string "BackwardProofs$Words" (25 : Nat)) "java/lang/String"),
 (Jvm.Cond.eq (Jvm.Term.field (Jvm.Term.string "BackwardProofs$Words" (25 : Nat)) "java/lang/String" "coder" "B") (Jvm.Term.int (0 : Int32))),
 (Jvm.Cond.arrayOf (Jvm.Term.field (Jvm.Term.string "BackwardProofs$Words" (25 : Nat)) "java/lang/String" "value" "[B") Jvm.ClassFile.FieldType.byte),
 (Jvm.Cond.eq (Jvm.Term.length (Jvm.Term.field (Jvm.Term.string "BackwardProofs$Words" (25 : Nat)) "java/lang/String" "value" "[B")) (Jvm.Term.int (5 : Int32))),
 (Jvm.Cond.eq (Jvm.Term.elem (Jvm.Term.field (Jvm.Term.string "BackwardProofs$Words" (25 : Nat)) "java/lang/String" "value" "[B") (Jvm.Term.int (0 : Int32))) (Jvm.Term.int (116 : Int32))),
 (Jvm.Cond.eq (Jvm.Term.elem (Jvm.Term.field (Jvm.Term.string "BackwardProofs$Words" (25 : Nat)) "java/lang/String" "value" "[B") (Jvm.Term.int (1 : Int32))) (Jvm.Term.int (105 : Int32))),
 (Jvm.Cond.eq (Jvm.Term.elem (Jvm.Term.field (Jvm.Term.string "BackwardProofs$Words" (25 : Nat)) "java/lang/String" "value" "[B") (Jvm.Term.int (2 : Int32))) (Jvm.Term.int (109 : Int32))),
 (Jvm.Cond.eq (Jvm.Term.elem (Jvm.Term.field (Jvm.Term.string "BackwardProofs$Words" (25 : Nat)) "java/lang/String" "value" "[B") (Jvm.Term.int (3 : Int32))) (Jvm.Term.int (101 : Int32))),
 (Jvm.Cond.eq (Jvm.Term.elem (Jvm.Term.field (Jvm.Term.string "BackwardProofs$Words" (25 : Nat)) "java/lang/String" "value" "[B") (Jvm.Term.int (4 : Int32))) (Jvm.Term.int (115 : Int32))),
 (Jvm.Cond.exactly (Jvm.Term.string "BackwardProofs$Words" (27 : Nat)) "java/lang/String"),
 (Jvm.Cond.eq (Jvm.Term.field (Jvm.Term.string "BackwardProofs$Words" (27 : Nat)) "java/lang/String" "coder" "B") (Jvm.Term.int (0 : Int32))),
 (Jvm.Cond.arrayOf (Jvm.Term.field (Jvm.Term.string "BackwardProofs$Words" (27 : Nat)) "java/lang/String" "value" "[B") Jvm.ClassFile.FieldType.byte),
 (Jvm.Cond.eq (Jvm.Term.length (Jvm.Term.field (Jvm.Term.string "BackwardProofs$Words" (27 : Nat)) "java/lang/String" "value" "[B")) (Jvm.Term.int (4 : Int32))),
 (Jvm.Cond.eq (Jvm.Term.elem (Jvm.Term.field (Jvm.Term.string "BackwardProofs$Words" (27 : Nat)) "java/lang/String" "value" "[B") (Jvm.Term.int (0 : Int32))) (Jvm.Term.int (116 : Int32))),
 (Jvm.Cond.eq (Jvm.Term.elem (Jvm.Term.field (Jvm.Term.string "BackwardProofs$Words" (27 : Nat)) "java/lang/String" "value" "[B") (Jvm.Term.int (1 : Int32))) (Jvm.Term.int (114 : Int32))),
 (Jvm.Cond.eq (Jvm.Term.elem (Jvm.Term.field (Jvm.Term.string "BackwardProofs$Words" (27 : Nat)) "java/lang/String" "value" "[B") (Jvm.Term.int (2 : Int32))) (Jvm.Term.int (117 : Int32))),
 (Jvm.Cond.eq (Jvm.Term.elem (Jvm.Term.field (Jvm.Term.string "BackwardProofs$Words" (27 : Nat)) "java/lang/String" "value" "[B") (Jvm.Term.int (3 : Int32))) (Jvm.Term.int (101 : Int32))),
 (Jvm.Cond.exactly (Jvm.Term.string "BackwardProofs$Words" (29 : Nat)) "java/lang/String"),
 (Jvm.Cond.eq (Jvm.Term.field (Jvm.Term.string "BackwardProofs$Words" (29 : Nat)) "java/lang/String" "coder" "B") (Jvm.Term.int (0 : Int32))),
 (Jvm.Cond.arrayOf (Jvm.Term.field (Jvm.Term.string "BackwardProofs$Words" (29 : Nat)) "java/lang/String" "value" "[B") Jvm.ClassFile.FieldType.byte),
 (Jvm.Cond.eq (Jvm.Term.length (Jvm.Term.field (Jvm.Term.string "BackwardProofs$Words" (29 : Nat)) "java/lang/String" "value" "[B")) (Jvm.Term.int (5 : Int32))),
 (Jvm.Cond.eq (Jvm.Term.elem (Jvm.Term.field (Jvm.Term.string "BackwardProofs$Words" (29 : Nat)) "java/lang/String" "value" "[B") (Jvm.Term.int (0 : Int32))) (Jvm.Term.int (102 : Int32))),
 (Jvm.Cond.eq (Jvm.Term.elem (Jvm.Term.field (Jvm.Term.string "BackwardProofs$Words" (29 : Nat)) "java/lang/String" "value" "[B") (Jvm.Term.int (1 : Int32))) (Jvm.Term.int (97 : Int32))),
 (Jvm.Cond.eq (Jvm.Term.elem (Jvm.Term.field (Jvm.Term.string "BackwardProofs$Words" (29 : Nat)) "java/lang/String" "value" "[B") (Jvm.Term.int (2 : Int32))) (Jvm.Term.int (108 : Int32))),
 (Jvm.Cond.eq (Jvm.Term.elem (Jvm.Term.field (Jvm.Term.string "BackwardProofs$Words" (29 : Nat)) "java/lang/String" "value" "[B") (Jvm.Term.int (3 : Int32))) (Jvm.Term.int (115 : Int32))),
 (Jvm.Cond.eq (Jvm.Term.elem (Jvm.Term.field (Jvm.Term.string "BackwardProofs$Words" (29 : Nat)) "java/lang/String" "value" "[B") (Jvm.Term.int (4 : Int32))) (Jvm.Term.int (101 : Int32))),
 (Jvm.Cond.exactly (Jvm.Term.string "BackwardProofs$Words" (31 : Nat)) "java/lang/String"),
 (Jvm.Cond.eq (Jvm.Term.field (Jvm.Term.string "BackwardProofs$Words" (31 : Nat)) "java/lang/String" "coder" "B") (Jvm.Term.int (0 : Int32))),
 (Jvm.Cond.arrayOf (Jvm.Term.field (Jvm.Term.string "BackwardProofs$Words" (31 : Nat)) "java/lang/String" "value" "[B") Jvm.ClassFile.FieldType.byte),
 (Jvm.Cond.eq (Jvm.Term.length (Jvm.Term.field (Jvm.Term.string "BackwardProofs$Words" (31 : Nat)) "java/lang/String" "value" "[B")) (Jvm.Term.int (2 : Int32))),
 (Jvm.Cond.eq (Jvm.Term.elem (Jvm.Term.field (Jvm.Term.string "BackwardProofs$Words" (31 : Nat)) "java/lang/String" "value" "[B") (Jvm.Term.int (0 : Int32))) (Jvm.Term.int (101 : Int32))),
 (Jvm.Cond.eq (Jvm.Term.elem (Jvm.Term.field (Jvm.Term.string "BackwardProofs$Words" (31 : Nat)) "java/lang/String" "value" "[B") (Jvm.Term.int (1 : Int32))) (Jvm.Term.int (113 : Int32))),
 (Jvm.Cond.exactly (Jvm.Term.string "BackwardProofs$Words" (33 : Nat)) "java/lang/String"),
 (Jvm.Cond.eq (Jvm.Term.field (Jvm.Term.string "BackwardProofs$Words" (33 : Nat)) "java/lang/String" "coder" "B") (Jvm.Term.int (0 : Int32))),
 (Jvm.Cond.arrayOf (Jvm.Term.field (Jvm.Term.string "BackwardProofs$Words" (33 : Nat)) "java/lang/String" "value" "[B") Jvm.ClassFile.FieldType.byte),
 (Jvm.Cond.eq (Jvm.Term.length (Jvm.Term.field (Jvm.Term.string "BackwardProofs$Words" (33 : Nat)) "java/lang/String" "value" "[B")) (Jvm.Term.int (2 : Int32))),
 (Jvm.Cond.eq (Jvm.Term.elem (Jvm.Term.field (Jvm.Term.string "BackwardProofs$Words" (33 : Nat)) "java/lang/String" "value" "[B") (Jvm.Term.int (0 : Int32))) (Jvm.Term.int (108 : Int32))),
 (Jvm.Cond.eq (Jvm.Term.elem (Jvm.Term.field (Jvm.Term.string "BackwardProofs$Words" (33 : Nat)) "java/lang/String" "value" "[B") (Jvm.Term.int (1 : Int32))) (Jvm.Term.int (116 : Int32))),
 (Jvm.Cond.exactly (Jvm.Term.string "BackwardProofs$Words" (35 : Nat)) "java/lang/String"),
 (Jvm.Cond.eq (Jvm.Term.field (Jvm.Term.string "BackwardProofs$Words" (35 : Nat)) "java/lang/String" "coder" "B") (Jvm.Term.int (0 : Int32))),
 (Jvm.Cond.arrayOf (Jvm.Term.field (Jvm.Term.string "BackwardProofs$Words" (35 : Nat)) "java/lang/String" "value" "[B") Jvm.ClassFile.FieldType.byte),
 (Jvm.Cond.eq (Jvm.Term.length (Jvm.Term.field (Jvm.Term.string "BackwardProofs$Words" (35 : Nat)) "java/lang/String" "value" "[B")) (Jvm.Term.int (3 : Int32))),
 (Jvm.Cond.eq (Jvm.Term.elem (Jvm.Term.field (Jvm.Term.string "BackwardProofs$Words" (35 : Nat)) "java/lang/String" "value" "[B") (Jvm.Term.int (0 : Int32))) (Jvm.Term.int (110 : Int32))),
 (Jvm.Cond.eq (Jvm.Term.elem (Jvm.Term.field (Jvm.Term.string "BackwardProofs$Words" (35 : Nat)) "java/lang/String" "value" "[B") (Jvm.Term.int (1 : Int32))) (Jvm.Term.int (111 : Int32))),
 (Jvm.Cond.eq (Jvm.Term.elem (Jvm.Term.field (Jvm.Term.string "BackwardProofs$Words" (35 : Nat)) "java/lang/String" "value" "[B") (Jvm.Term.int (2 : Int32))) (Jvm.Term.int (116 : Int32))),
 (Jvm.Cond.exactly (Jvm.Term.string "BackwardProofs$Words" (37 : Nat)) "java/lang/String"),
 (Jvm.Cond.eq (Jvm.Term.field (Jvm.Term.string "BackwardProofs$Words" (37 : Nat)) "java/lang/String" "coder" "B") (Jvm.Term.int (0 : Int32))),
 (Jvm.Cond.arrayOf (Jvm.Term.field (Jvm.Term.string "BackwardProofs$Words" (37 : Nat)) "java/lang/String" "value" "[B") Jvm.ClassFile.FieldType.byte),
 (Jvm.Cond.eq (Jvm.Term.length (Jvm.Term.field (Jvm.Term.string "BackwardProofs$Words" (37 : Nat)) "java/lang/String" "value" "[B")) (Jvm.Term.int (3 : Int32))),
 (Jvm.Cond.eq (Jvm.Term.elem (Jvm.Term.field (Jvm.Term.string "BackwardProofs$Words" (37 : Nat)) "java/lang/String" "value" "[B") (Jvm.Term.int (0 : Int32))) (Jvm.Term.int (97 : Int32))),
 (Jvm.Cond.eq (Jvm.Term.elem (Jvm.Term.field (Jvm.Term.string "BackwardProofs$Words" (37 : Nat)) "java/lang/String" "value" "[B") (Jvm.Term.int (1 : Int32))) (Jvm.Term.int (110 : Int32))),
 (Jvm.Cond.eq (Jvm.Term.elem (Jvm.Term.field (Jvm.Term.string "BackwardProofs$Words" (37 : Nat)) "java/lang/String" "value" "[B") (Jvm.Term.int (2 : Int32))) (Jvm.Term.int (100 : Int32))),
 (Jvm.Cond.exactly (Jvm.Term.string "BackwardProofs$Words" (39 : Nat)) "java/lang/String"),
 (Jvm.Cond.eq (Jvm.Term.field (Jvm.Term.string "BackwardProofs$Words" (39 : Nat)) "java/lang/String" "coder" "B") (Jvm.Term.int (0 : Int32))),
 (Jvm.Cond.arrayOf (Jvm.Term.field (Jvm.Term.string "BackwardProofs$Words" (39 : Nat)) "java/lang/String" "value" "[B") Jvm.ClassFile.FieldType.byte),
 (Jvm.Cond.eq (Jvm.Term.length (Jvm.Term.field (Jvm.Term.string "BackwardProofs$Words" (39 : Nat)) "java/lang/String" "value" "[B")) (Jvm.Term.int (2 : Int32))),
 (Jvm.Cond.eq (Jvm.Term.elem (Jvm.Term.field (Jvm.Term.string "BackwardProofs$Words" (39 : Nat)) "java/lang/String" "value" "[B") (Jvm.Term.int (0 : Int32))) (Jvm.Term.int (111 : Int32))),
 (Jvm.Cond.eq (Jvm.Term.elem (Jvm.Term.field (Jvm.Term.string "BackwardProofs$Words" (39 : Nat)) "java/lang/String" "value" "[B") (Jvm.Term.int (1 : Int32))) (Jvm.Term.int (114 : Int32))),
 (Jvm.Cond.exactly (Jvm.Term.string "BackwardProofs$Words" (41 : Nat)) "java/lang/String"),
 (Jvm.Cond.eq (Jvm.Term.field (Jvm.Term.string "BackwardProofs$Words" (41 : Nat)) "java/lang/String" "coder" "B") (Jvm.Term.int (0 : Int32))),
 (Jvm.Cond.arrayOf (Jvm.Term.field (Jvm.Term.string "BackwardProofs$Words" (41 : Nat)) "java/lang/String" "value" "[B") Jvm.ClassFile.FieldType.byte),
 (Jvm.Cond.eq (Jvm.Term.length (Jvm.Term.field (Jvm.Term.string "BackwardProofs$Words" (41 : Nat)) "java/lang/String" "value" "[B")) (Jvm.Term.int (3 : Int32))),
 (Jvm.Cond.eq (Jvm.Term.elem (Jvm.Term.field (Jvm.Term.string "BackwardProofs$Words" (41 : Nat)) "java/lang/String" "value" "[B") (Jvm.Term.int (0 : Int32))) (Jvm.Term.int (115 : Int32))),
 (Jvm.Cond.eq (Jvm.Term.elem (Jvm.Term.field (Jvm.Term.string "BackwardProofs$Words" (41 : Nat)) "java/lang/String" "value" "[B") (Jvm.Term.int (1 : Int32))) (Jvm.Term.int (101 : Int32))),
 (Jvm.Cond.eq (Jvm.Term.elem (Jvm.Term.field (Jvm.Term.string "BackwardProofs$Words" (41 : Nat)) "java/lang/String" "value" "[B") (Jvm.Term.int (2 : Int32))) (Jvm.Term.int (116 : Int32))),
 (Jvm.Cond.exactly (Jvm.Term.string "BackwardProofs$Words" (43 : Nat)) "java/lang/String"),
 (Jvm.Cond.eq (Jvm.Term.field (Jvm.Term.string "BackwardProofs$Words" (43 : Nat)) "java/lang/String" "coder" "B") (Jvm.Term.int (0 : Int32))),
 (Jvm.Cond.arrayOf (Jvm.Term.field (Jvm.Term.string "BackwardProofs$Words" (43 : Nat)) "java/lang/String" "value" "[B") Jvm.ClassFile.FieldType.byte),
 (Jvm.Cond.eq (Jvm.Term.length (Jvm.Term.field (Jvm.Term.string "BackwardProofs$Words" (43 : Nat)) "java/lang/String" "value" "[B")) (Jvm.Term.int (2 : Int32))),
 (Jvm.Cond.eq (Jvm.Term.elem (Jvm.Term.field (Jvm.Term.string "BackwardProofs$Words" (43 : Nat)) "java/lang/String" "value" "[B") (Jvm.Term.int (0 : Int32))) (Jvm.Term.int (105 : Int32))),
 (Jvm.Cond.eq (Jvm.Term.elem (Jvm.Term.field (Jvm.Term.string "BackwardProofs$Words" (43 : Nat)) "java/lang/String" "value" "[B") (Jvm.Term.int (1 : Int32))) (Jvm.Term.int (102 : Int32))),
 (Jvm.Cond.exactly (Jvm.Term.string "BackwardProofs$Words" (45 : Nat)) "java/lang/String"),
 (Jvm.Cond.eq (Jvm.Term.field (Jvm.Term.string "BackwardProofs$Words" (45 : Nat)) "java/lang/String" "coder" "B") (Jvm.Term.int (0 : Int32))),
 (Jvm.Cond.arrayOf (Jvm.Term.field (Jvm.Term.string "BackwardProofs$Words" (45 : Nat)) "java/lang/String" "value" "[B") Jvm.ClassFile.FieldType.byte),
 (Jvm.Cond.eq (Jvm.Term.length (Jvm.Term.field (Jvm.Term.string "BackwardProofs$Words" (45 : Nat)) "java/lang/String" "value" "[B")) (Jvm.Term.int (5 : Int32))),
 (Jvm.Cond.eq (Jvm.Term.elem (Jvm.Term.field (Jvm.Term.string "BackwardProofs$Words" (45 : Nat)) "java/lang/String" "value" "[B") (Jvm.Term.int (0 : Int32))) (Jvm.Term.int (119 : Int32))),
 (Jvm.Cond.eq (Jvm.Term.elem (Jvm.Term.field (Jvm.Term.string "BackwardProofs$Words" (45 : Nat)) "java/lang/String" "value" "[B") (Jvm.Term.int (1 : Int32))) (Jvm.Term.int (104 : Int32))),
 (Jvm.Cond.eq (Jvm.Term.elem (Jvm.Term.field (Jvm.Term.string "BackwardProofs$Words" (45 : Nat)) "java/lang/String" "value" "[B") (Jvm.Term.int (2 : Int32))) (Jvm.Term.int (105 : Int32))),
 (Jvm.Cond.eq (Jvm.Term.elem (Jvm.Term.field (Jvm.Term.string "BackwardProofs$Words" (45 : Nat)) "java/lang/String" "value" "[B") (Jvm.Term.int (3 : Int32))) (Jvm.Term.int (108 : Int32))),
 (Jvm.Cond.eq (Jvm.Term.elem (Jvm.Term.field (Jvm.Term.string "BackwardProofs$Words" (45 : Nat)) "java/lang/String" "value" "[B") (Jvm.Term.int (4 : Int32))) (Jvm.Term.int (101 : Int32))),
 (Jvm.Cond.exactly (Jvm.Term.string "BackwardProofs$Words" (47 : Nat)) "java/lang/String"),
 (Jvm.Cond.eq (Jvm.Term.field (Jvm.Term.string "BackwardProofs$Words" (47 : Nat)) "java/lang/String" "coder" "B") (Jvm.Term.int (0 : Int32))),
 (Jvm.Cond.arrayOf (Jvm.Term.field (Jvm.Term.string "BackwardProofs$Words" (47 : Nat)) "java/lang/String" "value" "[B") Jvm.ClassFile.FieldType.byte),
 (Jvm.Cond.eq (Jvm.Term.length (Jvm.Term.field (Jvm.Term.string "BackwardProofs$Words" (47 : Nat)) "java/lang/String" "value" "[B")) (Jvm.Term.int (4 : Int32))),
 (Jvm.Cond.eq (Jvm.Term.elem (Jvm.Term.field (Jvm.Term.string "BackwardProofs$Words" (47 : Nat)) "java/lang/String" "value" "[B") (Jvm.Term.int (0 : Int32))) (Jvm.Term.int (104 : Int32))),
 (Jvm.Cond.eq (Jvm.Term.elem (Jvm.Term.field (Jvm.Term.string "BackwardProofs$Words" (47 : Nat)) "java/lang/String" "value" "[B") (Jvm.Term.int (1 : Int32))) (Jvm.Term.int (111 : Int32))),
 (Jvm.Cond.eq (Jvm.Term.elem (Jvm.Term.field (Jvm.Term.string "BackwardProofs$Words" (47 : Nat)) "java/lang/String" "value" "[B") (Jvm.Term.int (2 : Int32))) (Jvm.Term.int (108 : Int32))),
 (Jvm.Cond.eq (Jvm.Term.elem (Jvm.Term.field (Jvm.Term.string "BackwardProofs$Words" (47 : Nat)) "java/lang/String" "value" "[B") (Jvm.Term.int (3 : Int32))) (Jvm.Term.int (101 : Int32))),
 (Jvm.Cond.exactly (Jvm.Term.string "BackwardProofs$Words" (49 : Nat)) "java/lang/String"),
 (Jvm.Cond.eq (Jvm.Term.field (Jvm.Term.string "BackwardProofs$Words" (49 : Nat)) "java/lang/String" "coder" "B") (Jvm.Term.int (0 : Int32))),
 (Jvm.Cond.arrayOf (Jvm.Term.field (Jvm.Term.string "BackwardProofs$Words" (49 : Nat)) "java/lang/String" "value" "[B") Jvm.ClassFile.FieldType.byte),
 (Jvm.Cond.eq (Jvm.Term.length (Jvm.Term.field (Jvm.Term.string "BackwardProofs$Words" (49 : Nat)) "java/lang/String" "value" "[B")) (Jvm.Term.int (4 : Int32))),
 (Jvm.Cond.eq (Jvm.Term.elem (Jvm.Term.field (Jvm.Term.string "BackwardProofs$Words" (49 : Nat)) "java/lang/String" "value" "[B") (Jvm.Term.int (0 : Int32))) (Jvm.Term.int (101 : Int32))),
 (Jvm.Cond.eq (Jvm.Term.elem (Jvm.Term.field (Jvm.Term.string "BackwardProofs$Words" (49 : Nat)) "java/lang/String" "value" "[B") (Jvm.Term.int (1 : Int32))) (Jvm.Term.int (108 : Int32))),
 (Jvm.Cond.eq (Jvm.Term.elem (Jvm.Term.field (Jvm.Term.string "BackwardProofs$Words" (49 : Nat)) "java/lang/String" "value" "[B") (Jvm.Term.int (2 : Int32))) (Jvm.Term.int (115 : Int32))),
 (Jvm.Cond.eq (Jvm.Term.elem (Jvm.Term.field (Jvm.Term.string "BackwardProofs$Words" (49 : Nat)) "java/lang/String" "value" "[B") (Jvm.Term.int (3 : Int32))) (Jvm.Term.int (101 : Int32))),
 (Jvm.Cond.exactly (Jvm.Term.string "BackwardProofs$Words" (51 : Nat)) "java/lang/String"),
 (Jvm.Cond.eq (Jvm.Term.field (Jvm.Term.string "BackwardProofs$Words" (51 : Nat)) "java/lang/String" "coder" "B") (Jvm.Term.int (0 : Int32))),
 (Jvm.Cond.arrayOf (Jvm.Term.field (Jvm.Term.string "BackwardProofs$Words" (51 : Nat)) "java/lang/String" "value" "[B") Jvm.ClassFile.FieldType.byte),
 (Jvm.Cond.eq (Jvm.Term.length (Jvm.Term.field (Jvm.Term.string "BackwardProofs$Words" (51 : Nat)) "java/lang/String" "value" "[B")) (Jvm.Term.int (3 : Int32))),
 (Jvm.Cond.eq (Jvm.Term.elem (Jvm.Term.field (Jvm.Term.string "BackwardProofs$Words" (51 : Nat)) "java/lang/String" "value" "[B") (Jvm.Term.int (0 : Int32))) (Jvm.Term.int (101 : Int32))),
 (Jvm.Cond.eq (Jvm.Term.elem (Jvm.Term.field (Jvm.Term.string "BackwardProofs$Words" (51 : Nat)) "java/lang/String" "value" "[B") (Jvm.Term.int (1 : Int32))) (Jvm.Term.int (110 : Int32))),
 (Jvm.Cond.eq (Jvm.Term.elem (Jvm.Term.field (Jvm.Term.string "BackwardProofs$Words" (51 : Nat)) "java/lang/String" "value" "[B") (Jvm.Term.int (2 : Int32))) (Jvm.Term.int (100 : Int32))),
 (Jvm.Cond.exactly (Jvm.Term.string "BackwardProofs$Words" (53 : Nat)) "java/lang/String"),
 (Jvm.Cond.eq (Jvm.Term.field (Jvm.Term.string "BackwardProofs$Words" (53 : Nat)) "java/lang/String" "coder" "B") (Jvm.Term.int (0 : Int32))),
 (Jvm.Cond.arrayOf (Jvm.Term.field (Jvm.Term.string "BackwardProofs$Words" (53 : Nat)) "java/lang/String" "value" "[B") Jvm.ClassFile.FieldType.byte),
 (Jvm.Cond.eq (Jvm.Term.length (Jvm.Term.field (Jvm.Term.string "BackwardProofs$Words" (53 : Nat)) "java/lang/String" "value" "[B")) (Jvm.Term.int (4 : Int32))),
 (Jvm.Cond.eq (Jvm.Term.elem (Jvm.Term.field (Jvm.Term.string "BackwardProofs$Words" (53 : Nat)) "java/lang/String" "value" "[B") (Jvm.Term.int (0 : Int32))) (Jvm.Term.int (107 : Int32))),
 (Jvm.Cond.eq (Jvm.Term.elem (Jvm.Term.field (Jvm.Term.string "BackwardProofs$Words" (53 : Nat)) "java/lang/String" "value" "[B") (Jvm.Term.int (1 : Int32))) (Jvm.Term.int (101 : Int32))),
 (Jvm.Cond.eq (Jvm.Term.elem (Jvm.Term.field (Jvm.Term.string "BackwardProofs$Words" (53 : Nat)) "java/lang/String" "value" "[B") (Jvm.Term.int (2 : Int32))) (Jvm.Term.int (101 : Int32))),
 (Jvm.Cond.eq (Jvm.Term.elem (Jvm.Term.field (Jvm.Term.string "BackwardProofs$Words" (53 : Nat)) "java/lang/String" "value" "[B") (Jvm.Term.int (3 : Int32))) (Jvm.Term.int (112 : Int32))),
 (Jvm.Cond.exactly (Jvm.Term.string "BackwardProofs$Words" (55 : Nat)) "java/lang/String"),
 (Jvm.Cond.eq (Jvm.Term.field (Jvm.Term.string "BackwardProofs$Words" (55 : Nat)) "java/lang/String" "coder" "B") (Jvm.Term.int (0 : Int32))),
 (Jvm.Cond.arrayOf (Jvm.Term.field (Jvm.Term.string "BackwardProofs$Words" (55 : Nat)) "java/lang/String" "value" "[B") Jvm.ClassFile.FieldType.byte),
 (Jvm.Cond.eq (Jvm.Term.length (Jvm.Term.field (Jvm.Term.string "BackwardProofs$Words" (55 : Nat)) "java/lang/String" "value" "[B")) (Jvm.Term.int (4 : Int32))),
 (Jvm.Cond.eq (Jvm.Term.elem (Jvm.Term.field (Jvm.Term.string "BackwardProofs$Words" (55 : Nat)) "java/lang/String" "value" "[B") (Jvm.Term.int (0 : Int32))) (Jvm.Term.int (108 : Int32))),
 (Jvm.Cond.eq (Jvm.Term.elem (Jvm.Term.field (Jvm.Term.string "BackwardProofs$Words" (55 : Nat)) "java/lang/String" "value" "[B") (Jvm.Term.int (1 : Int32))) (Jvm.Term.int (101 : Int32))),
 (Jvm.Cond.eq (Jvm.Term.elem (Jvm.Term.field (Jvm.Term.string "BackwardProofs$Words" (55 : Nat)) "java/lang/String" "value" "[B") (Jvm.Term.int (2 : Int32))) (Jvm.Term.int (115 : Int32))),
 (Jvm.Cond.eq (Jvm.Term.elem (Jvm.Term.field (Jvm.Term.string "BackwardProofs$Words" (55 : Nat)) "java/lang/String" "value" "[B") (Jvm.Term.int (3 : Int32))) (Jvm.Term.int (115 : Int32))),
 (Jvm.Cond.exactly (Jvm.Term.string "BackwardProofs$Words" (57 : Nat)) "java/lang/String"),
 (Jvm.Cond.eq (Jvm.Term.field (Jvm.Term.string "BackwardProofs$Words" (57 : Nat)) "java/lang/String" "coder" "B") (Jvm.Term.int (0 : Int32))),
 (Jvm.Cond.arrayOf (Jvm.Term.field (Jvm.Term.string "BackwardProofs$Words" (57 : Nat)) "java/lang/String" "value" "[B") Jvm.ClassFile.FieldType.byte),
 (Jvm.Cond.eq (Jvm.Term.length (Jvm.Term.field (Jvm.Term.string "BackwardProofs$Words" (57 : Nat)) "java/lang/String" "value" "[B")) (Jvm.Term.int (5 : Int32))),
 (Jvm.Cond.eq (Jvm.Term.elem (Jvm.Term.field (Jvm.Term.string "BackwardProofs$Words" (57 : Nat)) "java/lang/String" "value" "[B") (Jvm.Term.int (0 : Int32))) (Jvm.Term.int (112 : Int32))),
 (Jvm.Cond.eq (Jvm.Term.elem (Jvm.Term.field (Jvm.Term.string "BackwardProofs$Words" (57 : Nat)) "java/lang/String" "value" "[B") (Jvm.Term.int (1 : Int32))) (Jvm.Term.int (114 : Int32))),
 (Jvm.Cond.eq (Jvm.Term.elem (Jvm.Term.field (Jvm.Term.string "BackwardProofs$Words" (57 : Nat)) "java/lang/String" "value" "[B") (Jvm.Term.int (2 : Int32))) (Jvm.Term.int (111 : Int32))),
 (Jvm.Cond.eq (Jvm.Term.elem (Jvm.Term.field (Jvm.Term.string "BackwardProofs$Words" (57 : Nat)) "java/lang/String" "value" "[B") (Jvm.Term.int (3 : Int32))) (Jvm.Term.int (111 : Int32))),
 (Jvm.Cond.eq (Jvm.Term.elem (Jvm.Term.field (Jvm.Term.string "BackwardProofs$Words" (57 : Nat)) "java/lang/String" "value" "[B") (Jvm.Term.int (4 : Int32))) (Jvm.Term.int (102 : Int32))),
 (Jvm.Cond.exactly (Jvm.Term.string "BackwardProofs$Words" (59 : Nat)) "java/lang/String"),
 (Jvm.Cond.eq (Jvm.Term.field (Jvm.Term.string "BackwardProofs$Words" (59 : Nat)) "java/lang/String" "coder" "B") (Jvm.Term.int (0 : Int32))),
 (Jvm.Cond.arrayOf (Jvm.Term.field (Jvm.Term.string "BackwardProofs$Words" (59 : Nat)) "java/lang/String" "value" "[B") Jvm.ClassFile.FieldType.byte),
 (Jvm.Cond.eq (Jvm.Term.length (Jvm.Term.field (Jvm.Term.string "BackwardProofs$Words" (59 : Nat)) "java/lang/String" "value" "[B")) (Jvm.Term.int (0 : Int32))),
 (Jvm.Cond.exactly (Jvm.Term.string "BackwardProofs" (374 : Nat)) "java/lang/String"),
 (Jvm.Cond.eq (Jvm.Term.field (Jvm.Term.string "BackwardProofs" (374 : Nat)) "java/lang/String" "coder" "B") (Jvm.Term.int (0 : Int32))),
 (Jvm.Cond.arrayOf (Jvm.Term.field (Jvm.Term.string "BackwardProofs" (374 : Nat)) "java/lang/String" "value" "[B") Jvm.ClassFile.FieldType.byte),
 (Jvm.Cond.eq (Jvm.Term.length (Jvm.Term.field (Jvm.Term.string "BackwardProofs" (374 : Nat)) "java/lang/String" "value" "[B")) (Jvm.Term.int (1 : Int32))),
 (Jvm.Cond.eq (Jvm.Term.elem (Jvm.Term.field (Jvm.Term.string "BackwardProofs" (374 : Nat)) "java/lang/String" "value" "[B") (Jvm.Term.int (0 : Int32))) (Jvm.Term.int (32 : Int32))),
 (Jvm.Cond.exactly (Jvm.Term.field (Jvm.Term.string "BackwardProofs" (89 : Nat)) "java/lang/String" "value" "[B") "[B"),
 (Jvm.Cond.exactly (Jvm.Term.field (Jvm.Term.string "BackwardProofs$Words" (7 : Nat)) "java/lang/String" "value" "[B") "[B"),
 (Jvm.Cond.exactly (Jvm.Term.field (Jvm.Term.string "BackwardProofs$Words" (9 : Nat)) "java/lang/String" "value" "[B") "[B"),
 (Jvm.Cond.exactly (Jvm.Term.field (Jvm.Term.string "BackwardProofs$Words" (11 : Nat)) "java/lang/String" "value" "[B") "[B"),
 (Jvm.Cond.exactly (Jvm.Term.field (Jvm.Term.string "BackwardProofs$Words" (13 : Nat)) "java/lang/String" "value" "[B") "[B"),
 (Jvm.Cond.exactly (Jvm.Term.field (Jvm.Term.string "BackwardProofs$Words" (15 : Nat)) "java/lang/String" "value" "[B") "[B"),
 (Jvm.Cond.exactly (Jvm.Term.field (Jvm.Term.string "BackwardProofs$Words" (17 : Nat)) "java/lang/String" "value" "[B") "[B"),
 (Jvm.Cond.exactly (Jvm.Term.field (Jvm.Term.string "BackwardProofs$Words" (19 : Nat)) "java/lang/String" "value" "[B") "[B"),
 (Jvm.Cond.exactly (Jvm.Term.field (Jvm.Term.string "BackwardProofs$Words" (21 : Nat)) "java/lang/String" "value" "[B") "[B"),
 (Jvm.Cond.exactly (Jvm.Term.field (Jvm.Term.string "BackwardProofs$Words" (23 : Nat)) "java/lang/String" "value" "[B") "[B"),
 (Jvm.Cond.exactly (Jvm.Term.field (Jvm.Term.string "BackwardProofs$Words" (25 : Nat)) "java/lang/String" "value" "[B") "[B"),
 (Jvm.Cond.exactly (Jvm.Term.field (Jvm.Term.string "BackwardProofs$Words" (27 : Nat)) "java/lang/String" "value" "[B") "[B"),
 (Jvm.Cond.exactly (Jvm.Term.field (Jvm.Term.string "BackwardProofs$Words" (29 : Nat)) "java/lang/String" "value" "[B") "[B"),
 (Jvm.Cond.exactly (Jvm.Term.field (Jvm.Term.string "BackwardProofs$Words" (31 : Nat)) "java/lang/String" "value" "[B") "[B"),
 (Jvm.Cond.exactly (Jvm.Term.field (Jvm.Term.string "BackwardProofs$Words" (33 : Nat)) "java/lang/String" "value" "[B") "[B"),
 (Jvm.Cond.exactly (Jvm.Term.field (Jvm.Term.string "BackwardProofs$Words" (35 : Nat)) "java/lang/String" "value" "[B") "[B"),
 (Jvm.Cond.exactly (Jvm.Term.field (Jvm.Term.string "BackwardProofs$Words" (37 : Nat)) "java/lang/String" "value" "[B") "[B"),
 (Jvm.Cond.exactly (Jvm.Term.field (Jvm.Term.string "BackwardProofs$Words" (39 : Nat)) "java/lang/String" "value" "[B") "[B"),
 (Jvm.Cond.exactly (Jvm.Term.field (Jvm.Term.string "BackwardProofs$Words" (41 : Nat)) "java/lang/String" "value" "[B") "[B"),
 (Jvm.Cond.exactly (Jvm.Term.field (Jvm.Term.string "BackwardProofs$Words" (43 : Nat)) "java/lang/String" "value" "[B") "[B"),
 (Jvm.Cond.exactly (Jvm.Term.field (Jvm.Term.string "BackwardProofs$Words" (45 : Nat)) "java/lang/String" "value" "[B") "[B"),
 (Jvm.Cond.exactly (Jvm.Term.field (Jvm.Term.string "BackwardProofs$Words" (47 : Nat)) "java/lang/String" "value" "[B") "[B"),
 (Jvm.Cond.exactly (Jvm.Term.field (Jvm.Term.string "BackwardProofs$Words" (49 : Nat)) "java/lang/String" "value" "[B") "[B"),
 (Jvm.Cond.exactly (Jvm.Term.field (Jvm.Term.string "BackwardProofs$Words" (51 : Nat)) "java/lang/String" "value" "[B") "[B"),
 (Jvm.Cond.exactly (Jvm.Term.field (Jvm.Term.string "BackwardProofs$Words" (53 : Nat)) "java/lang/String" "value" "[B") "[B"),
 (Jvm.Cond.exactly (Jvm.Term.field (Jvm.Term.string "BackwardProofs$Words" (55 : Nat)) "java/lang/String" "value" "[B") "[B"),
 (Jvm.Cond.exactly (Jvm.Term.field (Jvm.Term.string "BackwardProofs$Words" (57 : Nat)) "java/lang/String" "value" "[B") "[B"),
 (Jvm.Cond.exactly (Jvm.Term.field (Jvm.Term.string "BackwardProofs$Words" (59 : Nat)) "java/lang/String" "value" "[B") "[B"),
 (Jvm.Cond.exactly (Jvm.Term.field (Jvm.Term.string "BackwardProofs" (374 : Nat)) "java/lang/String" "value" "[B") "[B")]
set_option maxRecDepth 1000000 in
theorem zNar_ok : flatC narrow_1 = zNar := rfl
theorem zin2 {w : Cond} (p : Nat) (h : (zTk (p / 1000))[p % 1000]? = some w) : w ∈ lw_tbl := zTk_in _ w (List.mem_of_getElem? h)
noncomputable def zst (k : Nat) : Term := .string (zstx k).1 (zstx k).2.1
noncomputable abbrev zsv (k : Nat) : Term := .field (zst k) "java/lang/String" "value" "[B"
def zSP (k n p q : Nat) : Prop := zlens.getD k 0 = n ∧ zNar[p]? = some (.exactly (zst k) "java/lang/String") ∧ zNar[p + 1]? = some (.eq (.field (zst k) "java/lang/String" "coder" "B") (.int 0)) ∧ zNar[p + 2]? = some (.arrayOf (zsv k) .byte) ∧ zNar[p + 3]? = some (.eq (.length (zsv k)) (.int (Int32.ofNat n))) ∧
  (∀ j, j < n → zNar[p + 4 + j]? = some (.eq (.elem (zsv k) (.int (Int32.ofNat j))) (.int ((zbyts.getD k []).getD j 0)))) ∧ (zTk (q / 1000))[q % 1000]? = some (.stringRef (zstx k).1 (zstx k).2.1 (zstx k).2.2)
set_option maxRecDepth 1000000 in
theorem zSP_0 : zSP 0 95 115 2175 := ⟨rfl, rfl, rfl, rfl, rfl, lt_s (lt_s (lt_s (lt_s (lt_s (lt_s (lt_s (lt_s (lt_s (lt_s (lt_s (lt_s (lt_s (lt_s (lt_s (lt_s (lt_s (lt_s (lt_s (lt_s (lt_s (lt_s (lt_s (lt_s (lt_s (lt_s (lt_s (lt_s (lt_s (lt_s (lt_s (lt_s (lt_s (lt_s (lt_s (lt_s (lt_s (lt_s (lt_s (lt_s (lt_s (lt_s (lt_s (lt_s (lt_s (lt_s (lt_s (lt_s (lt_s (lt_s (lt_s (lt_s (lt_s (lt_s (lt_s (lt_s (lt_s (lt_s (lt_s (lt_s (lt_s (lt_s (lt_s (lt_s (lt_s (lt_s (lt_s (lt_s (lt_s (lt_s (lt_s (lt_s (lt_s (lt_s (lt_s (lt_s (lt_s (lt_s (lt_s (lt_s (lt_s (lt_s (lt_s (lt_s (lt_s (lt_s (lt_s (lt_s (lt_s (lt_s (lt_s (lt_s (lt_s (lt_s (lt_s (lt_0) rfl) rfl) rfl) rfl) rfl) rfl) rfl) rfl) rfl) rfl) rfl) rfl) rfl) rfl) rfl) rfl) rfl) rfl) rfl) rfl) rfl) rfl) rfl) rfl) rfl) rfl) rfl) rfl) rfl) rfl) rfl) rfl) rfl) rfl) rfl) rfl) rfl) rfl) rfl) rfl) rfl) rfl) rfl) rfl) rfl) rfl) rfl) rfl) rfl) rfl) rfl) rfl) rfl) rfl) rfl) rfl) rfl) rfl) rfl) rfl) rfl) rfl) rfl) rfl) rfl) rfl) rfl) rfl) rfl) rfl) rfl) rfl) rfl) rfl) rfl) rfl) rfl) rfl) rfl) rfl) rfl) rfl) rfl) rfl) rfl) rfl) rfl) rfl) rfl) rfl) rfl) rfl) rfl) rfl) rfl, rfl⟩
set_option maxRecDepth 1000000 in
theorem zSP_1 : zSP 1 1 214 3022 := ⟨rfl, rfl, rfl, rfl, rfl, lt_s (lt_0) rfl, rfl⟩
set_option maxRecDepth 1000000 in
theorem zSP_2 : zSP 2 1 219 3023 := ⟨rfl, rfl, rfl, rfl, rfl, lt_s (lt_0) rfl, rfl⟩
set_option maxRecDepth 1000000 in
theorem zSP_3 : zSP 3 1 224 3024 := ⟨rfl, rfl, rfl, rfl, rfl, lt_s (lt_0) rfl, rfl⟩
set_option maxRecDepth 1000000 in
theorem zSP_4 : zSP 4 1 229 3025 := ⟨rfl, rfl, rfl, rfl, rfl, lt_s (lt_0) rfl, rfl⟩
set_option maxRecDepth 1000000 in
theorem zSP_5 : zSP 5 1 234 3026 := ⟨rfl, rfl, rfl, rfl, rfl, lt_s (lt_0) rfl, rfl⟩
set_option maxRecDepth 1000000 in
theorem zSP_6 : zSP 6 1 239 3027 := ⟨rfl, rfl, rfl, rfl, rfl, lt_s (lt_0) rfl, rfl⟩
set_option maxRecDepth 1000000 in
theorem zSP_7 : zSP 7 1 244 3028 := ⟨rfl, rfl, rfl, rfl, rfl, lt_s (lt_0) rfl, rfl⟩
set_option maxRecDepth 1000000 in
theorem zSP_8 : zSP 8 4 249 3029 := ⟨rfl, rfl, rfl, rfl, rfl, lt_s (lt_s (lt_s (lt_s (lt_0) rfl) rfl) rfl) rfl, rfl⟩
set_option maxRecDepth 1000000 in
theorem zSP_9 : zSP 9 5 257 3030 := ⟨rfl, rfl, rfl, rfl, rfl, lt_s (lt_s (lt_s (lt_s (lt_s (lt_0) rfl) rfl) rfl) rfl) rfl, rfl⟩
set_option maxRecDepth 1000000 in
theorem zSP_10 : zSP 10 5 266 3031 := ⟨rfl, rfl, rfl, rfl, rfl, lt_s (lt_s (lt_s (lt_s (lt_s (lt_0) rfl) rfl) rfl) rfl) rfl, rfl⟩
set_option maxRecDepth 1000000 in
theorem zSP_11 : zSP 11 4 275 3032 := ⟨rfl, rfl, rfl, rfl, rfl, lt_s (lt_s (lt_s (lt_s (lt_0) rfl) rfl) rfl) rfl, rfl⟩
set_option maxRecDepth 1000000 in
theorem zSP_12 : zSP 12 5 283 3033 := ⟨rfl, rfl, rfl, rfl, rfl, lt_s (lt_s (lt_s (lt_s (lt_s (lt_0) rfl) rfl) rfl) rfl) rfl, rfl⟩
set_option maxRecDepth 1000000 in
theorem zSP_13 : zSP 13 2 292 3034 := ⟨rfl, rfl, rfl, rfl, rfl, lt_s (lt_s (lt_0) rfl) rfl, rfl⟩
set_option maxRecDepth 1000000 in
theorem zSP_14 : zSP 14 2 298 3035 := ⟨rfl, rfl, rfl, rfl, rfl, lt_s (lt_s (lt_0) rfl) rfl, rfl⟩
set_option maxRecDepth 1000000 in
theorem zSP_15 : zSP 15 3 304 3036 := ⟨rfl, rfl, rfl, rfl, rfl, lt_s (lt_s (lt_s (lt_0) rfl) rfl) rfl, rfl⟩
set_option maxRecDepth 1000000 in
theorem zSP_16 : zSP 16 3 311 3037 := ⟨rfl, rfl, rfl, rfl, rfl, lt_s (lt_s (lt_s (lt_0) rfl) rfl) rfl, rfl⟩
set_option maxRecDepth 1000000 in
theorem zSP_17 : zSP 17 2 318 3038 := ⟨rfl, rfl, rfl, rfl, rfl, lt_s (lt_s (lt_0) rfl) rfl, rfl⟩
set_option maxRecDepth 1000000 in
theorem zSP_18 : zSP 18 3 324 3039 := ⟨rfl, rfl, rfl, rfl, rfl, lt_s (lt_s (lt_s (lt_0) rfl) rfl) rfl, rfl⟩
set_option maxRecDepth 1000000 in
theorem zSP_19 : zSP 19 2 331 3040 := ⟨rfl, rfl, rfl, rfl, rfl, lt_s (lt_s (lt_0) rfl) rfl, rfl⟩
set_option maxRecDepth 1000000 in
theorem zSP_20 : zSP 20 5 337 3041 := ⟨rfl, rfl, rfl, rfl, rfl, lt_s (lt_s (lt_s (lt_s (lt_s (lt_0) rfl) rfl) rfl) rfl) rfl, rfl⟩
set_option maxRecDepth 1000000 in
theorem zSP_21 : zSP 21 4 346 3042 := ⟨rfl, rfl, rfl, rfl, rfl, lt_s (lt_s (lt_s (lt_s (lt_0) rfl) rfl) rfl) rfl, rfl⟩
set_option maxRecDepth 1000000 in
theorem zSP_22 : zSP 22 4 354 3043 := ⟨rfl, rfl, rfl, rfl, rfl, lt_s (lt_s (lt_s (lt_s (lt_0) rfl) rfl) rfl) rfl, rfl⟩
set_option maxRecDepth 1000000 in
theorem zSP_23 : zSP 23 3 362 3044 := ⟨rfl, rfl, rfl, rfl, rfl, lt_s (lt_s (lt_s (lt_0) rfl) rfl) rfl, rfl⟩
set_option maxRecDepth 1000000 in
theorem zSP_24 : zSP 24 4 369 3045 := ⟨rfl, rfl, rfl, rfl, rfl, lt_s (lt_s (lt_s (lt_s (lt_0) rfl) rfl) rfl) rfl, rfl⟩
set_option maxRecDepth 1000000 in
theorem zSP_25 : zSP 25 4 377 3046 := ⟨rfl, rfl, rfl, rfl, rfl, lt_s (lt_s (lt_s (lt_s (lt_0) rfl) rfl) rfl) rfl, rfl⟩
set_option maxRecDepth 1000000 in
theorem zSP_26 : zSP 26 5 385 3047 := ⟨rfl, rfl, rfl, rfl, rfl, lt_s (lt_s (lt_s (lt_s (lt_s (lt_0) rfl) rfl) rfl) rfl) rfl, rfl⟩
set_option maxRecDepth 1000000 in
theorem zSP_27 : zSP 27 0 394 3048 := ⟨rfl, rfl, rfl, rfl, rfl, lt_0, rfl⟩
set_option maxRecDepth 1000000 in
theorem zSP_28 : zSP 28 1 398 6228 := ⟨rfl, rfl, rfl, rfl, rfl, lt_s (lt_0) rfl, rfl⟩
theorem zSP_all : ∀ k, k < 29 → ∃ n p q, zSP k n p q := lt_s (lt_s (lt_s (lt_s (lt_s (lt_s (lt_s (lt_s (lt_s (lt_s (lt_s (lt_s (lt_s (lt_s (lt_s (lt_s (lt_s (lt_s (lt_s (lt_s (lt_s (lt_s (lt_s (lt_s (lt_s (lt_s (lt_s (lt_s (lt_s (lt_0) ⟨_, _, _, zSP_0⟩) ⟨_, _, _, zSP_1⟩) ⟨_, _, _, zSP_2⟩) ⟨_, _, _, zSP_3⟩) ⟨_, _, _, zSP_4⟩) ⟨_, _, _, zSP_5⟩) ⟨_, _, _, zSP_6⟩) ⟨_, _, _, zSP_7⟩) ⟨_, _, _, zSP_8⟩) ⟨_, _, _, zSP_9⟩) ⟨_, _, _, zSP_10⟩) ⟨_, _, _, zSP_11⟩) ⟨_, _, _, zSP_12⟩) ⟨_, _, _, zSP_13⟩) ⟨_, _, _, zSP_14⟩) ⟨_, _, _, zSP_15⟩) ⟨_, _, _, zSP_16⟩) ⟨_, _, _, zSP_17⟩) ⟨_, _, _, zSP_18⟩) ⟨_, _, _, zSP_19⟩) ⟨_, _, _, zSP_20⟩) ⟨_, _, _, zSP_21⟩) ⟨_, _, _, zSP_22⟩) ⟨_, _, _, zSP_23⟩) ⟨_, _, _, zSP_24⟩) ⟨_, _, _, zSP_25⟩) ⟨_, _, _, zSP_26⟩) ⟨_, _, _, zSP_27⟩) ⟨_, _, _, zSP_28⟩
theorem zlen_lt (k : Nat) : zlens.getD k 0 < 2 ^ 31 := by
  by_cases h : k < 29
  · obtain ⟨n, p, q, e0, -⟩ := zSP_all k h
    exact (show ∀ k, k < 29 → zlens.getD k 0 < 2 ^ 31 by decide) k h
  · rw [List.getD_eq_getElem?_getD, List.getElem?_eq_none (by show 29 ≤ k; omega)]
    decide
theorem zeql {args : Array Value} {s : State} {t : Term} {z w : Int64} (h : (Cond.eq t (.long z)).before args s = true) (e : z = w) : t.eval args s none [] s = some (.long w) := by
  rw [← e]
  exact va_eqtl h
set_option maxRecDepth 1000000
section ZSt
variable {s : State} {b L : Nat} {xs : Nat → Int32}
theorem zst_of (hts : ∀ w ∈ lw_tbl, w.before #[Value.ref b] s = true) (hn : ∀ w ∈ zNar, w.before #[Value.ref b] s = true) (hX : va_X b L xs s s.heap) (hb : b < s.heap.size) (hL : L ≤ 3072) : ∃ adr adV : Nat → Nat, adr 0 = b ∧ zSt s.heap.size adr adV L xs s s.heap := by
  have hA : ∀ a : Nat, a < s.heap.size → ¬ zA s.heap.size a := fun a h1 h2 => by
    have h3 : s.heap.size ≤ a := h2
    omega
  have hg : ∀ {w : Cond} (i : Nat), zNar[i]? = some w → w.before #[Value.ref b] s = true := fun i h => hn _ (List.mem_of_getElem? h)
  have ht : ∀ {w : Cond} (p : Nat), (zTk (p / 1000))[p % 1000]? = some w → w.before #[Value.ref b] s = true := fun p h => hts _ (zin2 p h)
  obtain ⟨tl, el, Tl⟩ := va_Tof (tm := .static "BackwardProofs$Sets" "VARIABLE_LOW" "[J") (ty := .long) (N := 3) (f := fun j => .long (Int64.ofBitVec (zlow j))) (A := zA s.heap.size) (by decide) (hg 8 rfl) (va_eqt (hg 9 rfl)) (lt_s (lt_s (lt_s lt_0 (zeql (hg 10 rfl) (by decide))) (zeql (hg 11 rfl) (by decide))) (zeql (hg 12 rfl) (by decide))) hA
  obtain ⟨th, eh, Th⟩ := va_Tof (tm := .static "BackwardProofs$Sets" "VARIABLE_HIGH" "[J") (ty := .long) (N := 3) (f := fun j => .long (Int64.ofBitVec (zhigh j))) (A := zA s.heap.size) (by decide) (hg 14 rfl) (va_eqt (hg 15 rfl)) (lt_s (lt_s (lt_s lt_0 (zeql (hg 16 rfl) (by decide))) (zeql (hg 17 rfl) (by decide))) (zeql (hg 18 rfl) (by decide))) hA
  have hs : ∀ k, ∃ q : Nat × Nat, k < 29 → vk_S 1 [zlens.getD k 0] [zbyts.getD k []] (fun _ => q.1) (fun _ => q.2) (zA s.heap.size) s s.heap ∧ vk_R (zstx k).1 (zstx k).2.1 (zstx k).2.2 q.1 s := fun k => by
    by_cases hk : k < 29
    · obtain ⟨n, p, q, e0, e1, e2, e3, e4, e5, e6⟩ := zSP_all k hk
      obtain ⟨aK, aV, h1, h2⟩ := vk_Sof (N := 1) (tm := fun _ => zst k) (len := [zlens.getD k 0]) (byt := [zbyts.getD k []]) (A := zA s.heap.size) (args := #[Value.ref b]) (s := s)
        (fun i hi => by obtain rfl : i = 0 := by omega
                        show zlens.getD k 0 < 2 ^ 31
                        exact zlen_lt k)
        (fun i hi => hg p e1) (fun i hi => hg (p + 1) e2) (fun i hi => hg (p + 2) e3)
        (fun i hi => by obtain rfl : i = 0 := by omega
                        show (Cond.eq (.length (zsv k)) (.int (Int32.ofNat (zlens.getD k 0)))).before _ s = true
                        rw [e0]
                        exact hg (p + 3) e4)
        (fun i hi j hj => by obtain rfl : i = 0 := by omega
                             have hj' : j < zlens.getD k 0 := hj
                             rw [e0] at hj'
                             exact hg (p + 4 + j) (e5 j hj'))
        (fun i j hi hj hij => absurd (by omega) hij) hA
      refine ⟨(aK 0, aV 0), fun _ => ⟨⟨fun i hi => ?_, fun i j hi hj _ => by omega⟩, vk_R.of (ht q e6) (h2 0 (by omega))⟩⟩
      obtain rfl : i = 0 := by omega
      exact h1.1 0 (by omega)
    · exact ⟨(0, 0), fun h => absurd h hk⟩
  obtain ⟨f, hf⟩ := Classical.skolem.mp hs
  refine ⟨fun a => if a = 0 then b else if a = 1 then tl else if a = 2 then th else (f (a - 3)).1, fun k => (f k).2, rfl, ⟨hX, hb, Nat.le_refl _, by omega⟩, ⟨va_Zref (ht 3220 rfl) (ht 1011 rfl) el hA, Tl⟩, ⟨va_Zref (ht 3222 rfl) (ht 1011 rfl) eh hA, Th⟩, ⟨fun k hk => ?_, fun k hk => ?_⟩, ⟨va_Zof (ht 2189 rfl) (ht 1016 rfl) (va_eqt (hg 2 rfl)) hA, va_Zqof (ht 2205 rfl) (ht 1018 rfl) (hg 3 rfl) hA⟩, ⟨vx_Zqof (ht 5084 rfl) (ht 1021 rfl) (hg 19 rfl) hA, vx_Zqof (ht 5086 rfl) (ht 1021 rfl) (hg 20 rfl) hA⟩, ?_, va_AO.of (ht 1156 rfl), va_AO.of (ht 1149 rfl), ht 2161 rfl, ?_⟩
  · have h9 := (hf k hk).1
    rw [show (fun _ : Nat => if 3 + k = 0 then b else if 3 + k = 1 then tl else if 3 + k = 2 then th else (f (3 + k - 3)).1) = (fun _ : Nat => (f k).1) from funext fun _ => by rw [if_neg (by omega), if_neg (by omega), if_neg (by omega), Nat.add_sub_cancel_left]]
    exact h9
  · rw [show (fun a => if a = 0 then b else if a = 1 then tl else if a = 2 then th else (f (a - 3)).1) (3 + k) = (f k).1 from by show (if 3 + k = 0 then b else if 3 + k = 1 then tl else if 3 + k = 2 then th else (f (3 + k - 3)).1) = (f k).1; rw [if_neg (by omega), if_neg (by omega), if_neg (by omega), Nat.add_sub_cancel_left]]
    exact (hf k hk).2
  · intro w hw
    unfold zNws at hw
    simp only [List.mem_cons, List.not_mem_nil, or_false] at hw
    rcases hw with rfl | rfl | rfl | rfl | rfl | rfl | rfl | rfl | rfl | rfl | rfl | rfl
    · exact va_Nw.of rfl (ht 5139 rfl)
    · exact va_Nw.of rfl (ht 5059 rfl)
    · exact va_Nw.of rfl (ht 7000 rfl)
    · exact va_Nw.of rfl (ht 5193 rfl)
    · exact va_Nw.of rfl (ht 1057 rfl)
    · exact va_Nw.of rfl (ht 5060 rfl)
    · exact va_Nw.of rfl (ht 5061 rfl)
    · exact va_Nw.of rfl (ht 5062 rfl)
    · exact va_Nw.of rfl (ht 5063 rfl)
    · exact va_Nw.of rfl (ht 5064 rfl)
    · exact va_Nw.of rfl (ht 5065 rfl)
    · exact va_Nw.of rfl (ht 1230 rfl)
  · intro i hi j hj hij
    match i, hi, j, hj, hij with
    | 0, _, 0, _, h => exact absurd rfl h
    | 0, _, 1, _, _ => exact va_Nc.of (hg 33 rfl)
    | 0, _, 2, _, _ => exact va_Nc.of (hg 79 rfl)
    | 0, _, 3, _, _ => exact va_Nc.of (hg 64 rfl)
    | 1, _, 0, _, _ => exact va_Nc.of (hg 48 rfl)
    | 1, _, 1, _, h => exact absurd rfl h
    | 1, _, 2, _, _ => exact va_Nc.of (hg 78 rfl)
    | 1, _, 3, _, _ => exact va_Nc.of (hg 63 rfl)
    | 2, _, 0, _, _ => exact va_Nc.of (hg 50 rfl)
    | 2, _, 1, _, _ => exact va_Nc.of (hg 35 rfl)
    | 2, _, 2, _, h => exact absurd rfl h
    | 2, _, 3, _, _ => exact va_Nc.of (hg 65 rfl)
    | 3, _, 0, _, _ => exact va_Nc.of (hg 49 rfl)
    | 3, _, 1, _, _ => exact va_Nc.of (hg 34 rfl)
    | 3, _, 2, _, _ => exact va_Nc.of (hg 80 rfl)
    | 3, _, 3, _, h => exact absurd rfl h
end ZSt
