/-! The start: what stands beside the cells that the runs make. -/
def zNar : List Cond := [(Jvm.Cond.arrayOf (Jvm.Term.arg (0 : Nat)) Jvm.ClassFile.FieldType.int),
 (Jvm.Cond.le (Jvm.Term.length (Jvm.Term.arg (0 : Nat))) (Jvm.Term.int (260 : Int32))),
 (Jvm.Cond.eq (Jvm.Term.static "java/lang/String" "COMPACT_STRINGS" "Z") (Jvm.Term.int (1 : Int32))),
 (Jvm.Cond.isRef (Jvm.Term.static "jdk/internal/util/Preconditions" "SIOOBE_FORMATTER" "Ljava/util/function/BiFunction;")),
 (Jvm.Cond.eq (Jvm.Term.static "java/lang/StringUTF16" "$assertionsDisabled" "Z") (Jvm.Term.int (1 : Int32))),
 (Jvm.Cond.eq (Jvm.Term.static "java/lang/StringUTF16" "HI_BYTE_SHIFT" "I") (Jvm.Term.int (0 : Int32))),
 (Jvm.Cond.eq (Jvm.Term.static "java/lang/StringUTF16" "LO_BYTE_SHIFT" "I") (Jvm.Term.int (8 : Int32))),
 (Jvm.Cond.isRef (Jvm.Term.static "BackwardProofs$Sets" "VARIABLE_LOW" "[J")),
 (Jvm.Cond.arrayOf (Jvm.Term.static "BackwardProofs$Sets" "VARIABLE_LOW" "[J") Jvm.ClassFile.FieldType.long),
 (Jvm.Cond.eq (Jvm.Term.length (Jvm.Term.static "BackwardProofs$Sets" "VARIABLE_LOW" "[J")) (Jvm.Term.int (3 : Int32))),
 (Jvm.Cond.eq (Jvm.Term.elem (Jvm.Term.static "BackwardProofs$Sets" "VARIABLE_LOW" "[J") (Jvm.Term.int (0 : Int32))) (Jvm.Term.long (-6148914691236517206 : Int64))),
 (Jvm.Cond.eq (Jvm.Term.elem (Jvm.Term.static "BackwardProofs$Sets" "VARIABLE_LOW" "[J") (Jvm.Term.int (1 : Int32))) (Jvm.Term.long (-1085102592571150096 : Int64))),
 (Jvm.Cond.eq (Jvm.Term.elem (Jvm.Term.static "BackwardProofs$Sets" "VARIABLE_LOW" "[J") (Jvm.Term.int (2 : Int32))) (Jvm.Term.long (-281470681808896 : Int64))),
 (Jvm.Cond.isRef (Jvm.Term.static "BackwardProofs$Sets" "VARIABLE_HIGH" "[J")),
 (Jvm.Cond.arrayOf (Jvm.Term.static "BackwardProofs$Sets" "VARIABLE_HIGH" "[J") Jvm.ClassFile.FieldType.long),
 (Jvm.Cond.eq (Jvm.Term.length (Jvm.Term.static "BackwardProofs$Sets" "VARIABLE_HIGH" "[J")) (Jvm.Term.int (3 : Int32))),
 (Jvm.Cond.eq (Jvm.Term.elem (Jvm.Term.static "BackwardProofs$Sets" "VARIABLE_HIGH" "[J") (Jvm.Term.int (0 : Int32))) (Jvm.Term.long (-3689348814741910324 : Int64))),
 (Jvm.Cond.eq (Jvm.Term.elem (Jvm.Term.static "BackwardProofs$Sets" "VARIABLE_HIGH" "[J") (Jvm.Term.int (1 : Int32))) (Jvm.Term.long (-71777214294589696 : Int64))),
 (Jvm.Cond.eq (Jvm.Term.elem (Jvm.Term.static "BackwardProofs$Sets" "VARIABLE_HIGH" "[J") (Jvm.Term.int (2 : Int32))) (Jvm.Term.long (-4294967296 : Int64))),
 (Jvm.Cond.isRef (Jvm.Term.static "java/lang/Throwable" "UNASSIGNED_STACK" "[Ljava/lang/StackTraceElement;")),
 (Jvm.Cond.isRef (Jvm.Term.static "java/lang/Throwable" "SUPPRESSED_SENTINEL" "Ljava/util/List;")),
 (Jvm.Cond.isRef (Jvm.Term.static "java/lang/Integer" "DigitOnes" "[B")),
 (Jvm.Cond.arrayOf (Jvm.Term.static "java/lang/Integer" "DigitOnes" "[B") Jvm.ClassFile.FieldType.byte),
 (Jvm.Cond.eq (Jvm.Term.length (Jvm.Term.static "java/lang/Integer" "DigitOnes" "[B")) (Jvm.Term.int (100 : Int32))),
 (Jvm.Cond.eq (Jvm.Term.elem (Jvm.Term.static "java/lang/Integer" "DigitOnes" "[B") (Jvm.Term.int (0 : Int32))) (Jvm.Term.int (48 : Int32))),
 (Jvm.Cond.eq (Jvm.Term.elem (Jvm.Term.static "java/lang/Integer" "DigitOnes" "[B") (Jvm.Term.int (1 : Int32))) (Jvm.Term.int (49 : Int32))),
 (Jvm.Cond.eq (Jvm.Term.elem (Jvm.Term.static "java/lang/Integer" "DigitOnes" "[B") (Jvm.Term.int (2 : Int32))) (Jvm.Term.int (50 : Int32))),
 (Jvm.Cond.eq (Jvm.Term.elem (Jvm.Term.static "java/lang/Integer" "DigitOnes" "[B") (Jvm.Term.int (3 : Int32))) (Jvm.Term.int (51 : Int32))),
 (Jvm.Cond.eq (Jvm.Term.elem (Jvm.Term.static "java/lang/Integer" "DigitOnes" "[B") (Jvm.Term.int (4 : Int32))) (Jvm.Term.int (52 : Int32))),
 (Jvm.Cond.eq (Jvm.Term.elem (Jvm.Term.static "java/lang/Integer" "DigitOnes" "[B") (Jvm.Term.int (5 : Int32))) (Jvm.Term.int (53 : Int32))),
 (Jvm.Cond.eq (Jvm.Term.elem (Jvm.Term.static "java/lang/Integer" "DigitOnes" "[B") (Jvm.Term.int (6 : Int32))) (Jvm.Term.int (54 : Int32))),
 (Jvm.Cond.eq (Jvm.Term.elem (Jvm.Term.static "java/lang/Integer" "DigitOnes" "[B") (Jvm.Term.int (7 : Int32))) (Jvm.Term.int (55 : Int32))),
 (Jvm.Cond.eq (Jvm.Term.elem (Jvm.Term.static "java/lang/Integer" "DigitOnes" "[B") (Jvm.Term.int (8 : Int32))) (Jvm.Term.int (56 : Int32))),
 (Jvm.Cond.eq (Jvm.Term.elem (Jvm.Term.static "java/lang/Integer" "DigitOnes" "[B") (Jvm.Term.int (9 : Int32))) (Jvm.Term.int (57 : Int32))),
 (Jvm.Cond.eq (Jvm.Term.elem (Jvm.Term.static "java/lang/Integer" "DigitOnes" "[B") (Jvm.Term.int (10 : Int32))) (Jvm.Term.int (48 : Int32))),
 (Jvm.Cond.eq (Jvm.Term.elem (Jvm.Term.static "java/lang/Integer" "DigitOnes" "[B") (Jvm.Term.int (11 : Int32))) (Jvm.Term.int (49 : Int32))),
 (Jvm.Cond.eq (Jvm.Term.elem (Jvm.Term.static "java/lang/Integer" "DigitOnes" "[B") (Jvm.Term.int (12 : Int32))) (Jvm.Term.int (50 : Int32))),
 (Jvm.Cond.eq (Jvm.Term.elem (Jvm.Term.static "java/lang/Integer" "DigitOnes" "[B") (Jvm.Term.int (13 : Int32))) (Jvm.Term.int (51 : Int32))),
 (Jvm.Cond.eq (Jvm.Term.elem (Jvm.Term.static "java/lang/Integer" "DigitOnes" "[B") (Jvm.Term.int (14 : Int32))) (Jvm.Term.int (52 : Int32))),
 (Jvm.Cond.eq (Jvm.Term.elem (Jvm.Term.static "java/lang/Integer" "DigitOnes" "[B") (Jvm.Term.int (15 : Int32))) (Jvm.Term.int (53 : Int32))),
 (Jvm.Cond.eq (Jvm.Term.elem (Jvm.Term.static "java/lang/Integer" "DigitOnes" "[B") (Jvm.Term.int (16 : Int32))) (Jvm.Term.int (54 : Int32))),
 (Jvm.Cond.eq (Jvm.Term.elem (Jvm.Term.static "java/lang/Integer" "DigitOnes" "[B") (Jvm.Term.int (17 : Int32))) (Jvm.Term.int (55 : Int32))),
 (Jvm.Cond.eq (Jvm.Term.elem (Jvm.Term.static "java/lang/Integer" "DigitOnes" "[B") (Jvm.Term.int (18 : Int32))) (Jvm.Term.int (56 : Int32))),
 (Jvm.Cond.eq (Jvm.Term.elem (Jvm.Term.static "java/lang/Integer" "DigitOnes" "[B") (Jvm.Term.int (19 : Int32))) (Jvm.Term.int (57 : Int32))),
 (Jvm.Cond.eq (Jvm.Term.elem (Jvm.Term.static "java/lang/Integer" "DigitOnes" "[B") (Jvm.Term.int (20 : Int32))) (Jvm.Term.int (48 : Int32))),
 (Jvm.Cond.eq (Jvm.Term.elem (Jvm.Term.static "java/lang/Integer" "DigitOnes" "[B") (Jvm.Term.int (21 : Int32))) (Jvm.Term.int (49 : Int32))),
 (Jvm.Cond.eq (Jvm.Term.elem (Jvm.Term.static "java/lang/Integer" "DigitOnes" "[B") (Jvm.Term.int (22 : Int32))) (Jvm.Term.int (50 : Int32))),
 (Jvm.Cond.eq (Jvm.Term.elem (Jvm.Term.static "java/lang/Integer" "DigitOnes" "[B") (Jvm.Term.int (23 : Int32))) (Jvm.Term.int (51 : Int32))),
 (Jvm.Cond.eq (Jvm.Term.elem (Jvm.Term.static "java/lang/Integer" "DigitOnes" "[B") (Jvm.Term.int (24 : Int32))) (Jvm.Term.int (52 : Int32))),
 (Jvm.Cond.eq (Jvm.Term.elem (Jvm.Term.static "java/lang/Integer" "DigitOnes" "[B") (Jvm.Term.int (25 : Int32))) (Jvm.Term.int (53 : Int32))),
 (Jvm.Cond.eq (Jvm.Term.elem (Jvm.Term.static "java/lang/Integer" "DigitOnes" "[B") (Jvm.Term.int (26 : Int32))) (Jvm.Term.int (54 : Int32))),
 (Jvm.Cond.eq (Jvm.Term.elem (Jvm.Term.static "java/lang/Integer" "DigitOnes" "[B") (Jvm.Term.int (27 : Int32))) (Jvm.Term.int (55 : Int32))),
 (Jvm.Cond.eq (Jvm.Term.elem (Jvm.Term.static "java/lang/Integer" "DigitOnes" "[B") (Jvm.Term.int (28 : Int32))) (Jvm.Term.int (56 : Int32))),
 (Jvm.Cond.eq (Jvm.Term.elem (Jvm.Term.static "java/lang/Integer" "DigitOnes" "[B") (Jvm.Term.int (29 : Int32))) (Jvm.Term.int (57 : Int32))),
 (Jvm.Cond.eq (Jvm.Term.elem (Jvm.Term.static "java/lang/Integer" "DigitOnes" "[B") (Jvm.Term.int (30 : Int32))) (Jvm.Term.int (48 : Int32))),
 (Jvm.Cond.eq (Jvm.Term.elem (Jvm.Term.static "java/lang/Integer" "DigitOnes" "[B") (Jvm.Term.int (31 : Int32))) (Jvm.Term.int (49 : Int32))),
 (Jvm.Cond.eq (Jvm.Term.elem (Jvm.Term.static "java/lang/Integer" "DigitOnes" "[B") (Jvm.Term.int (32 : Int32))) (Jvm.Term.int (50 : Int32))),
 (Jvm.Cond.eq (Jvm.Term.elem (Jvm.Term.static "java/lang/Integer" "DigitOnes" "[B") (Jvm.Term.int (33 : Int32))) (Jvm.Term.int (51 : Int32))),
 (Jvm.Cond.eq (Jvm.Term.elem (Jvm.Term.static "java/lang/Integer" "DigitOnes" "[B") (Jvm.Term.int (34 : Int32))) (Jvm.Term.int (52 : Int32))),
 (Jvm.Cond.eq (Jvm.Term.elem (Jvm.Term.static "java/lang/Integer" "DigitOnes" "[B") (Jvm.Term.int (35 : Int32))) (Jvm.Term.int (53 : Int32))),
 (Jvm.Cond.eq (Jvm.Term.elem (Jvm.Term.static "java/lang/Integer" "DigitOnes" "[B") (Jvm.Term.int (36 : Int32))) (Jvm.Term.int (54 : Int32))),
 (Jvm.Cond.eq (Jvm.Term.elem (Jvm.Term.static "java/lang/Integer" "DigitOnes" "[B") (Jvm.Term.int (37 : Int32))) (Jvm.Term.int (55 : Int32))),
 (Jvm.Cond.eq (Jvm.Term.elem (Jvm.Term.static "java/lang/Integer" "DigitOnes" "[B") (Jvm.Term.int (38 : Int32))) (Jvm.Term.int (56 : Int32))),
 (Jvm.Cond.eq (Jvm.Term.elem (Jvm.Term.static "java/lang/Integer" "DigitOnes" "[B") (Jvm.Term.int (39 : Int32))) (Jvm.Term.int (57 : Int32))),
 (Jvm.Cond.eq (Jvm.Term.elem (Jvm.Term.static "java/lang/Integer" "DigitOnes" "[B") (Jvm.Term.int (40 : Int32))) (Jvm.Term.int (48 : Int32))),
 (Jvm.Cond.eq (Jvm.Term.elem (Jvm.Term.static "java/lang/Integer" "DigitOnes" "[B") (Jvm.Term.int (41 : Int32))) (Jvm.Term.int (49 : Int32))),
 (Jvm.Cond.eq (Jvm.Term.elem (Jvm.Term.static "java/lang/Integer" "DigitOnes" "[B") (Jvm.Term.int (42 : Int32))) (Jvm.Term.int (50 : Int32))),
 (Jvm.Cond.eq (Jvm.Term.elem (Jvm.Term.static "java/lang/Integer" "DigitOnes" "[B") (Jvm.Term.int (43 : Int32))) (Jvm.Term.int (51 : Int32))),
 (Jvm.Cond.eq (Jvm.Term.elem (Jvm.Term.static "java/lang/Integer" "DigitOnes" "[B") (Jvm.Term.int (44 : Int32))) (Jvm.Term.int (52 : Int32))),
 (Jvm.Cond.eq (Jvm.Term.elem (Jvm.Term.static "java/lang/Integer" "DigitOnes" "[B") (Jvm.Term.int (45 : Int32))) (Jvm.Term.int (53 : Int32))),
 (Jvm.Cond.eq (Jvm.Term.elem (Jvm.Term.static "java/lang/Integer" "DigitOnes" "[B") (Jvm.Term.int (46 : Int32))) (Jvm.Term.int (54 : Int32))),
 (Jvm.Cond.eq (Jvm.Term.elem (Jvm.Term.static "java/lang/Integer" "DigitOnes" "[B") (Jvm.Term.int (47 : Int32))) (Jvm.Term.int (55 : Int32))),
 (Jvm.Cond.eq (Jvm.Term.elem (Jvm.Term.static "java/lang/Integer" "DigitOnes" "[B") (Jvm.Term.int (48 : Int32))) (Jvm.Term.int (56 : Int32))),
 (Jvm.Cond.eq (Jvm.Term.elem (Jvm.Term.static "java/lang/Integer" "DigitOnes" "[B") (Jvm.Term.int (49 : Int32))) (Jvm.Term.int (57 : Int32))),
 (Jvm.Cond.eq (Jvm.Term.elem (Jvm.Term.static "java/lang/Integer" "DigitOnes" "[B") (Jvm.Term.int (50 : Int32))) (Jvm.Term.int (48 : Int32))),
 (Jvm.Cond.eq (Jvm.Term.elem (Jvm.Term.static "java/lang/Integer" "DigitOnes" "[B") (Jvm.Term.int (51 : Int32))) (Jvm.Term.int (49 : Int32))),
 (Jvm.Cond.eq (Jvm.Term.elem (Jvm.Term.static "java/lang/Integer" "DigitOnes" "[B") (Jvm.Term.int (52 : Int32))) (Jvm.Term.int (50 : Int32))),
 (Jvm.Cond.eq (Jvm.Term.elem (Jvm.Term.static "java/lang/Integer" "DigitOnes" "[B") (Jvm.Term.int (53 : Int32))) (Jvm.Term.int (51 : Int32))),
 (Jvm.Cond.eq (Jvm.Term.elem (Jvm.Term.static "java/lang/Integer" "DigitOnes" "[B") (Jvm.Term.int (54 : Int32))) (Jvm.Term.int (52 : Int32))),
 (Jvm.Cond.eq (Jvm.Term.elem (Jvm.Term.static "java/lang/Integer" "DigitOnes" "[B") (Jvm.Term.int (55 : Int32))) (Jvm.Term.int (53 : Int32))),
 (Jvm.Cond.eq (Jvm.Term.elem (Jvm.Term.static "java/lang/Integer" "DigitOnes" "[B") (Jvm.Term.int (56 : Int32))) (Jvm.Term.int (54 : Int32))),
 (Jvm.Cond.eq (Jvm.Term.elem (Jvm.Term.static "java/lang/Integer" "DigitOnes" "[B") (Jvm.Term.int (57 : Int32))) (Jvm.Term.int (55 : Int32))),
 (Jvm.Cond.eq (Jvm.Term.elem (Jvm.Term.static "java/lang/Integer" "DigitOnes" "[B") (Jvm.Term.int (58 : Int32))) (Jvm.Term.int (56 : Int32))),
 (Jvm.Cond.eq (Jvm.Term.elem (Jvm.Term.static "java/lang/Integer" "DigitOnes" "[B") (Jvm.Term.int (59 : Int32))) (Jvm.Term.int (57 : Int32))),
 (Jvm.Cond.eq (Jvm.Term.elem (Jvm.Term.static "java/lang/Integer" "DigitOnes" "[B") (Jvm.Term.int (60 : Int32))) (Jvm.Term.int (48 : Int32))),
 (Jvm.Cond.eq (Jvm.Term.elem (Jvm.Term.static "java/lang/Integer" "DigitOnes" "[B") (Jvm.Term.int (61 : Int32))) (Jvm.Term.int (49 : Int32))),
 (Jvm.Cond.eq (Jvm.Term.elem (Jvm.Term.static "java/lang/Integer" "DigitOnes" "[B") (Jvm.Term.int (62 : Int32))) (Jvm.Term.int (50 : Int32))),
 (Jvm.Cond.eq (Jvm.Term.elem (Jvm.Term.static "java/lang/Integer" "DigitOnes" "[B") (Jvm.Term.int (63 : Int32))) (Jvm.Term.int (51 : Int32))),
 (Jvm.Cond.eq (Jvm.Term.elem (Jvm.Term.static "java/lang/Integer" "DigitOnes" "[B") (Jvm.Term.int (64 : Int32))) (Jvm.Term.int (52 : Int32))),
 (Jvm.Cond.eq (Jvm.Term.elem (Jvm.Term.static "java/lang/Integer" "DigitOnes" "[B") (Jvm.Term.int (65 : Int32))) (Jvm.Term.int (53 : Int32))),
 (Jvm.Cond.eq (Jvm.Term.elem (Jvm.Term.static "java/lang/Integer" "DigitOnes" "[B") (Jvm.Term.int (66 : Int32))) (Jvm.Term.int (54 : Int32))),
 (Jvm.Cond.eq (Jvm.Term.elem (Jvm.Term.static "java/lang/Integer" "DigitOnes" "[B") (Jvm.Term.int (67 : Int32))) (Jvm.Term.int (55 : Int32))),
 (Jvm.Cond.eq (Jvm.Term.elem (Jvm.Term.static "java/lang/Integer" "DigitOnes" "[B") (Jvm.Term.int (68 : Int32))) (Jvm.Term.int (56 : Int32))),
 (Jvm.Cond.eq (Jvm.Term.elem (Jvm.Term.static "java/lang/Integer" "DigitOnes" "[B") (Jvm.Term.int (69 : Int32))) (Jvm.Term.int (57 : Int32))),
 (Jvm.Cond.eq (Jvm.Term.elem (Jvm.Term.static "java/lang/Integer" "DigitOnes" "[B") (Jvm.Term.int (70 : Int32))) (Jvm.Term.int (48 : Int32))),
 (Jvm.Cond.eq (Jvm.Term.elem (Jvm.Term.static "java/lang/Integer" "DigitOnes" "[B") (Jvm.Term.int (71 : Int32))) (Jvm.Term.int (49 : Int32))),
 (Jvm.Cond.eq (Jvm.Term.elem (Jvm.Term.static "java/lang/Integer" "DigitOnes" "[B") (Jvm.Term.int (72 : Int32))) (Jvm.Term.int (50 : Int32))),
 (Jvm.Cond.eq (Jvm.Term.elem (Jvm.Term.static "java/lang/Integer" "DigitOnes" "[B") (Jvm.Term.int (73 : Int32))) (Jvm.Term.int (51 : Int32))),
 (Jvm.Cond.eq (Jvm.Term.elem (Jvm.Term.static "java/lang/Integer" "DigitOnes" "[B") (Jvm.Term.int (74 : Int32))) (Jvm.Term.int (52 : Int32))),
 (Jvm.Cond.eq (Jvm.Term.elem (Jvm.Term.static "java/lang/Integer" "DigitOnes" "[B") (Jvm.Term.int (75 : Int32))) (Jvm.Term.int (53 : Int32))),
 (Jvm.Cond.eq (Jvm.Term.elem (Jvm.Term.static "java/lang/Integer" "DigitOnes" "[B") (Jvm.Term.int (76 : Int32))) (Jvm.Term.int (54 : Int32))),
 (Jvm.Cond.eq (Jvm.Term.elem (Jvm.Term.static "java/lang/Integer" "DigitOnes" "[B") (Jvm.Term.int (77 : Int32))) (Jvm.Term.int (55 : Int32))),
 (Jvm.Cond.eq (Jvm.Term.elem (Jvm.Term.static "java/lang/Integer" "DigitOnes" "[B") (Jvm.Term.int (78 : Int32))) (Jvm.Term.int (56 : Int32))),
 (Jvm.Cond.eq (Jvm.Term.elem (Jvm.Term.static "java/lang/Integer" "DigitOnes" "[B") (Jvm.Term.int (79 : Int32))) (Jvm.Term.int (57 : Int32))),
 (Jvm.Cond.eq (Jvm.Term.elem (Jvm.Term.static "java/lang/Integer" "DigitOnes" "[B") (Jvm.Term.int (80 : Int32))) (Jvm.Term.int (48 : Int32))),
 (Jvm.Cond.eq (Jvm.Term.elem (Jvm.Term.static "java/lang/Integer" "DigitOnes" "[B") (Jvm.Term.int (81 : Int32))) (Jvm.Term.int (49 : Int32))),
 (Jvm.Cond.eq (Jvm.Term.elem (Jvm.Term.static "java/lang/Integer" "DigitOnes" "[B") (Jvm.Term.int (82 : Int32))) (Jvm.Term.int (50 : Int32))),
 (Jvm.Cond.eq (Jvm.Term.elem (Jvm.Term.static "java/lang/Integer" "DigitOnes" "[B") (Jvm.Term.int (83 : Int32))) (Jvm.Term.int (51 : Int32))),
 (Jvm.Cond.eq (Jvm.Term.elem (Jvm.Term.static "java/lang/Integer" "DigitOnes" "[B") (Jvm.Term.int (84 : Int32))) (Jvm.Term.int (52 : Int32))),
 (Jvm.Cond.eq (Jvm.Term.elem (Jvm.Term.static "java/lang/Integer" "DigitOnes" "[B") (Jvm.Term.int (85 : Int32))) (Jvm.Term.int (53 : Int32))),
 (Jvm.Cond.eq (Jvm.Term.elem (Jvm.Term.static "java/lang/Integer" "DigitOnes" "[B") (Jvm.Term.int (86 : Int32))) (Jvm.Term.int (54 : Int32))),
 (Jvm.Cond.eq (Jvm.Term.elem (Jvm.Term.static "java/lang/Integer" "DigitOnes" "[B") (Jvm.Term.int (87 : Int32))) (Jvm.Term.int (55 : Int32))),
 (Jvm.Cond.eq (Jvm.Term.elem (Jvm.Term.static "java/lang/Integer" "DigitOnes" "[B") (Jvm.Term.int (88 : Int32))) (Jvm.Term.int (56 : Int32))),
 (Jvm.Cond.eq (Jvm.Term.elem (Jvm.Term.static "java/lang/Integer" "DigitOnes" "[B") (Jvm.Term.int (89 : Int32))) (Jvm.Term.int (57 : Int32))),
 (Jvm.Cond.eq (Jvm.Term.elem (Jvm.Term.static "java/lang/Integer" "DigitOnes" "[B") (Jvm.Term.int (90 : Int32))) (Jvm.Term.int (48 : Int32))),
 (Jvm.Cond.eq (Jvm.Term.elem (Jvm.Term.static "java/lang/Integer" "DigitOnes" "[B") (Jvm.Term.int (91 : Int32))) (Jvm.Term.int (49 : Int32))),
 (Jvm.Cond.eq (Jvm.Term.elem (Jvm.Term.static "java/lang/Integer" "DigitOnes" "[B") (Jvm.Term.int (92 : Int32))) (Jvm.Term.int (50 : Int32))),
 (Jvm.Cond.eq (Jvm.Term.elem (Jvm.Term.static "java/lang/Integer" "DigitOnes" "[B") (Jvm.Term.int (93 : Int32))) (Jvm.Term.int (51 : Int32))),
 (Jvm.Cond.eq (Jvm.Term.elem (Jvm.Term.static "java/lang/Integer" "DigitOnes" "[B") (Jvm.Term.int (94 : Int32))) (Jvm.Term.int (52 : Int32))),
 (Jvm.Cond.eq (Jvm.Term.elem (Jvm.Term.static "java/lang/Integer" "DigitOnes" "[B") (Jvm.Term.int (95 : Int32))) (Jvm.Term.int (53 : Int32))),
 (Jvm.Cond.eq (Jvm.Term.elem (Jvm.Term.static "java/lang/Integer" "DigitOnes" "[B") (Jvm.Term.int (96 : Int32))) (Jvm.Term.int (54 : Int32))),
 (Jvm.Cond.eq (Jvm.Term.elem (Jvm.Term.static "java/lang/Integer" "DigitOnes" "[B") (Jvm.Term.int (97 : Int32))) (Jvm.Term.int (55 : Int32))),
 (Jvm.Cond.eq (Jvm.Term.elem (Jvm.Term.static "java/lang/Integer" "DigitOnes" "[B") (Jvm.Term.int (98 : Int32))) (Jvm.Term.int (56 : Int32))),
 (Jvm.Cond.eq (Jvm.Term.elem (Jvm.Term.static "java/lang/Integer" "DigitOnes" "[B") (Jvm.Term.int (99 : Int32))) (Jvm.Term.int (57 : Int32))),
 (Jvm.Cond.isRef (Jvm.Term.static "java/lang/Integer" "DigitTens" "[B")),
 (Jvm.Cond.arrayOf (Jvm.Term.static "java/lang/Integer" "DigitTens" "[B") Jvm.ClassFile.FieldType.byte),
 (Jvm.Cond.eq (Jvm.Term.length (Jvm.Term.static "java/lang/Integer" "DigitTens" "[B")) (Jvm.Term.int (100 : Int32))),
 (Jvm.Cond.eq (Jvm.Term.elem (Jvm.Term.static "java/lang/Integer" "DigitTens" "[B") (Jvm.Term.int (0 : Int32))) (Jvm.Term.int (48 : Int32))),
 (Jvm.Cond.eq (Jvm.Term.elem (Jvm.Term.static "java/lang/Integer" "DigitTens" "[B") (Jvm.Term.int (1 : Int32))) (Jvm.Term.int (48 : Int32))),
 (Jvm.Cond.eq (Jvm.Term.elem (Jvm.Term.static "java/lang/Integer" "DigitTens" "[B") (Jvm.Term.int (2 : Int32))) (Jvm.Term.int (48 : Int32))),
 (Jvm.Cond.eq (Jvm.Term.elem (Jvm.Term.static "java/lang/Integer" "DigitTens" "[B") (Jvm.Term.int (3 : Int32))) (Jvm.Term.int (48 : Int32))),
 (Jvm.Cond.eq (Jvm.Term.elem (Jvm.Term.static "java/lang/Integer" "DigitTens" "[B") (Jvm.Term.int (4 : Int32))) (Jvm.Term.int (48 : Int32))),
 (Jvm.Cond.eq (Jvm.Term.elem (Jvm.Term.static "java/lang/Integer" "DigitTens" "[B") (Jvm.Term.int (5 : Int32))) (Jvm.Term.int (48 : Int32))),
 (Jvm.Cond.eq (Jvm.Term.elem (Jvm.Term.static "java/lang/Integer" "DigitTens" "[B") (Jvm.Term.int (6 : Int32))) (Jvm.Term.int (48 : Int32))),
 (Jvm.Cond.eq (Jvm.Term.elem (Jvm.Term.static "java/lang/Integer" "DigitTens" "[B") (Jvm.Term.int (7 : Int32))) (Jvm.Term.int (48 : Int32))),
 (Jvm.Cond.eq (Jvm.Term.elem (Jvm.Term.static "java/lang/Integer" "DigitTens" "[B") (Jvm.Term.int (8 : Int32))) (Jvm.Term.int (48 : Int32))),
 (Jvm.Cond.eq (Jvm.Term.elem (Jvm.Term.static "java/lang/Integer" "DigitTens" "[B") (Jvm.Term.int (9 : Int32))) (Jvm.Term.int (48 : Int32))),
 (Jvm.Cond.eq (Jvm.Term.elem (Jvm.Term.static "java/lang/Integer" "DigitTens" "[B") (Jvm.Term.int (10 : Int32))) (Jvm.Term.int (49 : Int32))),
 (Jvm.Cond.eq (Jvm.Term.elem (Jvm.Term.static "java/lang/Integer" "DigitTens" "[B") (Jvm.Term.int (11 : Int32))) (Jvm.Term.int (49 : Int32))),
 (Jvm.Cond.eq (Jvm.Term.elem (Jvm.Term.static "java/lang/Integer" "DigitTens" "[B") (Jvm.Term.int (12 : Int32))) (Jvm.Term.int (49 : Int32))),
 (Jvm.Cond.eq (Jvm.Term.elem (Jvm.Term.static "java/lang/Integer" "DigitTens" "[B") (Jvm.Term.int (13 : Int32))) (Jvm.Term.int (49 : Int32))),
 (Jvm.Cond.eq (Jvm.Term.elem (Jvm.Term.static "java/lang/Integer" "DigitTens" "[B") (Jvm.Term.int (14 : Int32))) (Jvm.Term.int (49 : Int32))),
 (Jvm.Cond.eq (Jvm.Term.elem (Jvm.Term.static "java/lang/Integer" "DigitTens" "[B") (Jvm.Term.int (15 : Int32))) (Jvm.Term.int (49 : Int32))),
 (Jvm.Cond.eq (Jvm.Term.elem (Jvm.Term.static "java/lang/Integer" "DigitTens" "[B") (Jvm.Term.int (16 : Int32))) (Jvm.Term.int (49 : Int32))),
 (Jvm.Cond.eq (Jvm.Term.elem (Jvm.Term.static "java/lang/Integer" "DigitTens" "[B") (Jvm.Term.int (17 : Int32))) (Jvm.Term.int (49 : Int32))),
 (Jvm.Cond.eq (Jvm.Term.elem (Jvm.Term.static "java/lang/Integer" "DigitTens" "[B") (Jvm.Term.int (18 : Int32))) (Jvm.Term.int (49 : Int32))),
 (Jvm.Cond.eq (Jvm.Term.elem (Jvm.Term.static "java/lang/Integer" "DigitTens" "[B") (Jvm.Term.int (19 : Int32))) (Jvm.Term.int (49 : Int32))),
 (Jvm.Cond.eq (Jvm.Term.elem (Jvm.Term.static "java/lang/Integer" "DigitTens" "[B") (Jvm.Term.int (20 : Int32))) (Jvm.Term.int (50 : Int32))),
 (Jvm.Cond.eq (Jvm.Term.elem (Jvm.Term.static "java/lang/Integer" "DigitTens" "[B") (Jvm.Term.int (21 : Int32))) (Jvm.Term.int (50 : Int32))),
 (Jvm.Cond.eq (Jvm.Term.elem (Jvm.Term.static "java/lang/Integer" "DigitTens" "[B") (Jvm.Term.int (22 : Int32))) (Jvm.Term.int (50 : Int32))),
 (Jvm.Cond.eq (Jvm.Term.elem (Jvm.Term.static "java/lang/Integer" "DigitTens" "[B") (Jvm.Term.int (23 : Int32))) (Jvm.Term.int (50 : Int32))),
 (Jvm.Cond.eq (Jvm.Term.elem (Jvm.Term.static "java/lang/Integer" "DigitTens" "[B") (Jvm.Term.int (24 : Int32))) (Jvm.Term.int (50 : Int32))),
 (Jvm.Cond.eq (Jvm.Term.elem (Jvm.Term.static "java/lang/Integer" "DigitTens" "[B") (Jvm.Term.int (25 : Int32))) (Jvm.Term.int (50 : Int32))),
 (Jvm.Cond.eq (Jvm.Term.elem (Jvm.Term.static "java/lang/Integer" "DigitTens" "[B") (Jvm.Term.int (26 : Int32))) (Jvm.Term.int (50 : Int32))),
 (Jvm.Cond.eq (Jvm.Term.elem (Jvm.Term.static "java/lang/Integer" "DigitTens" "[B") (Jvm.Term.int (27 : Int32))) (Jvm.Term.int (50 : Int32))),
 (Jvm.Cond.eq (Jvm.Term.elem (Jvm.Term.static "java/lang/Integer" "DigitTens" "[B") (Jvm.Term.int (28 : Int32))) (Jvm.Term.int (50 : Int32))),
 (Jvm.Cond.eq (Jvm.Term.elem (Jvm.Term.static "java/lang/Integer" "DigitTens" "[B") (Jvm.Term.int (29 : Int32))) (Jvm.Term.int (50 : Int32))),
 (Jvm.Cond.eq (Jvm.Term.elem (Jvm.Term.static "java/lang/Integer" "DigitTens" "[B") (Jvm.Term.int (30 : Int32))) (Jvm.Term.int (51 : Int32))),
 (Jvm.Cond.eq (Jvm.Term.elem (Jvm.Term.static "java/lang/Integer" "DigitTens" "[B") (Jvm.Term.int (31 : Int32))) (Jvm.Term.int (51 : Int32))),
 (Jvm.Cond.eq (Jvm.Term.elem (Jvm.Term.static "java/lang/Integer" "DigitTens" "[B") (Jvm.Term.int (32 : Int32))) (Jvm.Term.int (51 : Int32))),
 (Jvm.Cond.eq (Jvm.Term.elem (Jvm.Term.static "java/lang/Integer" "DigitTens" "[B") (Jvm.Term.int (33 : Int32))) (Jvm.Term.int (51 : Int32))),
 (Jvm.Cond.eq (Jvm.Term.elem (Jvm.Term.static "java/lang/Integer" "DigitTens" "[B") (Jvm.Term.int (34 : Int32))) (Jvm.Term.int (51 : Int32))),
 (Jvm.Cond.eq (Jvm.Term.elem (Jvm.Term.static "java/lang/Integer" "DigitTens" "[B") (Jvm.Term.int (35 : Int32))) (Jvm.Term.int (51 : Int32))),
 (Jvm.Cond.eq (Jvm.Term.elem (Jvm.Term.static "java/lang/Integer" "DigitTens" "[B") (Jvm.Term.int (36 : Int32))) (Jvm.Term.int (51 : Int32))),
 (Jvm.Cond.eq (Jvm.Term.elem (Jvm.Term.static "java/lang/Integer" "DigitTens" "[B") (Jvm.Term.int (37 : Int32))) (Jvm.Term.int (51 : Int32))),
 (Jvm.Cond.eq (Jvm.Term.elem (Jvm.Term.static "java/lang/Integer" "DigitTens" "[B") (Jvm.Term.int (38 : Int32))) (Jvm.Term.int (51 : Int32))),
 (Jvm.Cond.eq (Jvm.Term.elem (Jvm.Term.static "java/lang/Integer" "DigitTens" "[B") (Jvm.Term.int (39 : Int32))) (Jvm.Term.int (51 : Int32))),
 (Jvm.Cond.eq (Jvm.Term.elem (Jvm.Term.static "java/lang/Integer" "DigitTens" "[B") (Jvm.Term.int (40 : Int32))) (Jvm.Term.int (52 : Int32))),
 (Jvm.Cond.eq (Jvm.Term.elem (Jvm.Term.static "java/lang/Integer" "DigitTens" "[B") (Jvm.Term.int (41 : Int32))) (Jvm.Term.int (52 : Int32))),
 (Jvm.Cond.eq (Jvm.Term.elem (Jvm.Term.static "java/lang/Integer" "DigitTens" "[B") (Jvm.Term.int (42 : Int32))) (Jvm.Term.int (52 : Int32))),
 (Jvm.Cond.eq (Jvm.Term.elem (Jvm.Term.static "java/lang/Integer" "DigitTens" "[B") (Jvm.Term.int (43 : Int32))) (Jvm.Term.int (52 : Int32))),
 (Jvm.Cond.eq (Jvm.Term.elem (Jvm.Term.static "java/lang/Integer" "DigitTens" "[B") (Jvm.Term.int (44 : Int32))) (Jvm.Term.int (52 : Int32))),
 (Jvm.Cond.eq (Jvm.Term.elem (Jvm.Term.static "java/lang/Integer" "DigitTens" "[B") (Jvm.Term.int (45 : Int32))) (Jvm.Term.int (52 : Int32))),
 (Jvm.Cond.eq (Jvm.Term.elem (Jvm.Term.static "java/lang/Integer" "DigitTens" "[B") (Jvm.Term.int (46 : Int32))) (Jvm.Term.int (52 : Int32))),
 (Jvm.Cond.eq (Jvm.Term.elem (Jvm.Term.static "java/lang/Integer" "DigitTens" "[B") (Jvm.Term.int (47 : Int32))) (Jvm.Term.int (52 : Int32))),
 (Jvm.Cond.eq (Jvm.Term.elem (Jvm.Term.static "java/lang/Integer" "DigitTens" "[B") (Jvm.Term.int (48 : Int32))) (Jvm.Term.int (52 : Int32))),
 (Jvm.Cond.eq (Jvm.Term.elem (Jvm.Term.static "java/lang/Integer" "DigitTens" "[B") (Jvm.Term.int (49 : Int32))) (Jvm.Term.int (52 : Int32))),
 (Jvm.Cond.eq (Jvm.Term.elem (Jvm.Term.static "java/lang/Integer" "DigitTens" "[B") (Jvm.Term.int (50 : Int32))) (Jvm.Term.int (53 : Int32))),
 (Jvm.Cond.eq (Jvm.Term.elem (Jvm.Term.static "java/lang/Integer" "DigitTens" "[B") (Jvm.Term.int (51 : Int32))) (Jvm.Term.int (53 : Int32))),
 (Jvm.Cond.eq (Jvm.Term.elem (Jvm.Term.static "java/lang/Integer" "DigitTens" "[B") (Jvm.Term.int (52 : Int32))) (Jvm.Term.int (53 : Int32))),
 (Jvm.Cond.eq (Jvm.Term.elem (Jvm.Term.static "java/lang/Integer" "DigitTens" "[B") (Jvm.Term.int (53 : Int32))) (Jvm.Term.int (53 : Int32))),
 (Jvm.Cond.eq (Jvm.Term.elem (Jvm.Term.static "java/lang/Integer" "DigitTens" "[B") (Jvm.Term.int (54 : Int32))) (Jvm.Term.int (53 : Int32))),
 (Jvm.Cond.eq (Jvm.Term.elem (Jvm.Term.static "java/lang/Integer" "DigitTens" "[B") (Jvm.Term.int (55 : Int32))) (Jvm.Term.int (53 : Int32))),
 (Jvm.Cond.eq (Jvm.Term.elem (Jvm.Term.static "java/lang/Integer" "DigitTens" "[B") (Jvm.Term.int (56 : Int32))) (Jvm.Term.int (53 : Int32))),
 (Jvm.Cond.eq (Jvm.Term.elem (Jvm.Term.static "java/lang/Integer" "DigitTens" "[B") (Jvm.Term.int (57 : Int32))) (Jvm.Term.int (53 : Int32))),
 (Jvm.Cond.eq (Jvm.Term.elem (Jvm.Term.static "java/lang/Integer" "DigitTens" "[B") (Jvm.Term.int (58 : Int32))) (Jvm.Term.int (53 : Int32))),
 (Jvm.Cond.eq (Jvm.Term.elem (Jvm.Term.static "java/lang/Integer" "DigitTens" "[B") (Jvm.Term.int (59 : Int32))) (Jvm.Term.int (53 : Int32))),
 (Jvm.Cond.eq (Jvm.Term.elem (Jvm.Term.static "java/lang/Integer" "DigitTens" "[B") (Jvm.Term.int (60 : Int32))) (Jvm.Term.int (54 : Int32))),
 (Jvm.Cond.eq (Jvm.Term.elem (Jvm.Term.static "java/lang/Integer" "DigitTens" "[B") (Jvm.Term.int (61 : Int32))) (Jvm.Term.int (54 : Int32))),
 (Jvm.Cond.eq (Jvm.Term.elem (Jvm.Term.static "java/lang/Integer" "DigitTens" "[B") (Jvm.Term.int (62 : Int32))) (Jvm.Term.int (54 : Int32))),
 (Jvm.Cond.eq (Jvm.Term.elem (Jvm.Term.static "java/lang/Integer" "DigitTens" "[B") (Jvm.Term.int (63 : Int32))) (Jvm.Term.int (54 : Int32))),
 (Jvm.Cond.eq (Jvm.Term.elem (Jvm.Term.static "java/lang/Integer" "DigitTens" "[B") (Jvm.Term.int (64 : Int32))) (Jvm.Term.int (54 : Int32))),
 (Jvm.Cond.eq (Jvm.Term.elem (Jvm.Term.static "java/lang/Integer" "DigitTens" "[B") (Jvm.Term.int (65 : Int32))) (Jvm.Term.int (54 : Int32))),
 (Jvm.Cond.eq (Jvm.Term.elem (Jvm.Term.static "java/lang/Integer" "DigitTens" "[B") (Jvm.Term.int (66 : Int32))) (Jvm.Term.int (54 : Int32))),
 (Jvm.Cond.eq (Jvm.Term.elem (Jvm.Term.static "java/lang/Integer" "DigitTens" "[B") (Jvm.Term.int (67 : Int32))) (Jvm.Term.int (54 : Int32))),
 (Jvm.Cond.eq (Jvm.Term.elem (Jvm.Term.static "java/lang/Integer" "DigitTens" "[B") (Jvm.Term.int (68 : Int32))) (Jvm.Term.int (54 : Int32))),
 (Jvm.Cond.eq (Jvm.Term.elem (Jvm.Term.static "java/lang/Integer" "DigitTens" "[B") (Jvm.Term.int (69 : Int32))) (Jvm.Term.int (54 : Int32))),
 (Jvm.Cond.eq (Jvm.Term.elem (Jvm.Term.static "java/lang/Integer" "DigitTens" "[B") (Jvm.Term.int (70 : Int32))) (Jvm.Term.int (55 : Int32))),
 (Jvm.Cond.eq (Jvm.Term.elem (Jvm.Term.static "java/lang/Integer" "DigitTens" "[B") (Jvm.Term.int (71 : Int32))) (Jvm.Term.int (55 : Int32))),
 (Jvm.Cond.eq (Jvm.Term.elem (Jvm.Term.static "java/lang/Integer" "DigitTens" "[B") (Jvm.Term.int (72 : Int32))) (Jvm.Term.int (55 : Int32))),
 (Jvm.Cond.eq (Jvm.Term.elem (Jvm.Term.static "java/lang/Integer" "DigitTens" "[B") (Jvm.Term.int (73 : Int32))) (Jvm.Term.int (55 : Int32))),
 (Jvm.Cond.eq (Jvm.Term.elem (Jvm.Term.static "java/lang/Integer" "DigitTens" "[B") (Jvm.Term.int (74 : Int32))) (Jvm.Term.int (55 : Int32))),
 (Jvm.Cond.eq (Jvm.Term.elem (Jvm.Term.static "java/lang/Integer" "DigitTens" "[B") (Jvm.Term.int (75 : Int32))) (Jvm.Term.int (55 : Int32))),
 (Jvm.Cond.eq (Jvm.Term.elem (Jvm.Term.static "java/lang/Integer" "DigitTens" "[B") (Jvm.Term.int (76 : Int32))) (Jvm.Term.int (55 : Int32))),
 (Jvm.Cond.eq (Jvm.Term.elem (Jvm.Term.static "java/lang/Integer" "DigitTens" "[B") (Jvm.Term.int (77 : Int32))) (Jvm.Term.int (55 : Int32))),
 (Jvm.Cond.eq (Jvm.Term.elem (Jvm.Term.static "java/lang/Integer" "DigitTens" "[B") (Jvm.Term.int (78 : Int32))) (Jvm.Term.int (55 : Int32))),
 (Jvm.Cond.eq (Jvm.Term.elem (Jvm.Term.static "java/lang/Integer" "DigitTens" "[B") (Jvm.Term.int (79 : Int32))) (Jvm.Term.int (55 : Int32))),
 (Jvm.Cond.eq (Jvm.Term.elem (Jvm.Term.static "java/lang/Integer" "DigitTens" "[B") (Jvm.Term.int (80 : Int32))) (Jvm.Term.int (56 : Int32))),
 (Jvm.Cond.eq (Jvm.Term.elem (Jvm.Term.static "java/lang/Integer" "DigitTens" "[B") (Jvm.Term.int (81 : Int32))) (Jvm.Term.int (56 : Int32))),
 (Jvm.Cond.eq (Jvm.Term.elem (Jvm.Term.static "java/lang/Integer" "DigitTens" "[B") (Jvm.Term.int (82 : Int32))) (Jvm.Term.int (56 : Int32))),
 (Jvm.Cond.eq (Jvm.Term.elem (Jvm.Term.static "java/lang/Integer" "DigitTens" "[B") (Jvm.Term.int (83 : Int32))) (Jvm.Term.int (56 : Int32))),
 (Jvm.Cond.eq (Jvm.Term.elem (Jvm.Term.static "java/lang/Integer" "DigitTens" "[B") (Jvm.Term.int (84 : Int32))) (Jvm.Term.int (56 : Int32))),
 (Jvm.Cond.eq (Jvm.Term.elem (Jvm.Term.static "java/lang/Integer" "DigitTens" "[B") (Jvm.Term.int (85 : Int32))) (Jvm.Term.int (56 : Int32))),
 (Jvm.Cond.eq (Jvm.Term.elem (Jvm.Term.static "java/lang/Integer" "DigitTens" "[B") (Jvm.Term.int (86 : Int32))) (Jvm.Term.int (56 : Int32))),
 (Jvm.Cond.eq (Jvm.Term.elem (Jvm.Term.static "java/lang/Integer" "DigitTens" "[B") (Jvm.Term.int (87 : Int32))) (Jvm.Term.int (56 : Int32))),
 (Jvm.Cond.eq (Jvm.Term.elem (Jvm.Term.static "java/lang/Integer" "DigitTens" "[B") (Jvm.Term.int (88 : Int32))) (Jvm.Term.int (56 : Int32))),
 (Jvm.Cond.eq (Jvm.Term.elem (Jvm.Term.static "java/lang/Integer" "DigitTens" "[B") (Jvm.Term.int (89 : Int32))) (Jvm.Term.int (56 : Int32))),
 (Jvm.Cond.eq (Jvm.Term.elem (Jvm.Term.static "java/lang/Integer" "DigitTens" "[B") (Jvm.Term.int (90 : Int32))) (Jvm.Term.int (57 : Int32))),
 (Jvm.Cond.eq (Jvm.Term.elem (Jvm.Term.static "java/lang/Integer" "DigitTens" "[B") (Jvm.Term.int (91 : Int32))) (Jvm.Term.int (57 : Int32))),
 (Jvm.Cond.eq (Jvm.Term.elem (Jvm.Term.static "java/lang/Integer" "DigitTens" "[B") (Jvm.Term.int (92 : Int32))) (Jvm.Term.int (57 : Int32))),
 (Jvm.Cond.eq (Jvm.Term.elem (Jvm.Term.static "java/lang/Integer" "DigitTens" "[B") (Jvm.Term.int (93 : Int32))) (Jvm.Term.int (57 : Int32))),
 (Jvm.Cond.eq (Jvm.Term.elem (Jvm.Term.static "java/lang/Integer" "DigitTens" "[B") (Jvm.Term.int (94 : Int32))) (Jvm.Term.int (57 : Int32))),
 (Jvm.Cond.eq (Jvm.Term.elem (Jvm.Term.static "java/lang/Integer" "DigitTens" "[B") (Jvm.Term.int (95 : Int32))) (Jvm.Term.int (57 : Int32))),
 (Jvm.Cond.eq (Jvm.Term.elem (Jvm.Term.static "java/lang/Integer" "DigitTens" "[B") (Jvm.Term.int (96 : Int32))) (Jvm.Term.int (57 : Int32))),
 (Jvm.Cond.eq (Jvm.Term.elem (Jvm.Term.static "java/lang/Integer" "DigitTens" "[B") (Jvm.Term.int (97 : Int32))) (Jvm.Term.int (57 : Int32))),
 (Jvm.Cond.eq (Jvm.Term.elem (Jvm.Term.static "java/lang/Integer" "DigitTens" "[B") (Jvm.Term.int (98 : Int32))) (Jvm.Term.int (57 : Int32))),
 (Jvm.Cond.eq (Jvm.Term.elem (Jvm.Term.static "java/lang/Integer" "DigitTens" "[B") (Jvm.Term.int (99 : Int32))) (Jvm.Term.int (57 : Int32))),
 (Jvm.Cond.not (Jvm.Cond.castable "BackwardProofs" "java/lang/IllegalArgumentException")),
 (Jvm.Cond.not (Jvm.Cond.castable "BackwardProofs$Formula" "java/lang/IllegalArgumentException")),
 (Jvm.Cond.not (Jvm.Cond.castable "BackwardProofs$Parser" "java/lang/IllegalArgumentException")),
 (Jvm.Cond.not (Jvm.Cond.castable "BackwardProofs$Scanner" "java/lang/IllegalArgumentException")),
 (Jvm.Cond.not (Jvm.Cond.castable "BackwardProofs$History" "java/lang/IllegalArgumentException")),
 (Jvm.Cond.not (Jvm.Cond.castable "BackwardProofs$Version" "java/lang/IllegalArgumentException")),
 (Jvm.Cond.not (Jvm.Cond.castable "BackwardProofs$Program" "java/lang/IllegalArgumentException")),
 (Jvm.Cond.not (Jvm.Cond.castable "BackwardProofs$Sets" "java/lang/IllegalArgumentException")),
 (Jvm.Cond.not (Jvm.Cond.castable "BackwardProofs$Runs" "java/lang/IllegalArgumentException")),
 (Jvm.Cond.not (Jvm.Cond.castable "BackwardProofs$Duties" "java/lang/IllegalArgumentException")),
 (Jvm.Cond.not (Jvm.Cond.castable "BackwardProofs$Sheet" "java/lang/IllegalArgumentException")),
 (Jvm.Cond.not (Jvm.Cond.castable "java/lang/StringBuilder" "java/lang/IllegalArgumentException")),
 (Jvm.Cond.not (Jvm.Cond.castable "java/lang/String" "java/lang/IllegalArgumentException")),
 (Jvm.Cond.not (Jvm.Cond.castable "java/lang/IllegalStateException" "java/lang/IllegalArgumentException")),
 (Jvm.Cond.not (Jvm.Cond.castable "java/util/NoSuchElementException" "java/lang/IllegalArgumentException")),
 (Jvm.Cond.not (Jvm.Cond.castable "BackwardProofs" "java/lang/IllegalStateException")),
 (Jvm.Cond.not (Jvm.Cond.castable "BackwardProofs$Formula" "java/lang/IllegalStateException")),
 (Jvm.Cond.not (Jvm.Cond.castable "BackwardProofs$Parser" "java/lang/IllegalStateException")),
 (Jvm.Cond.not (Jvm.Cond.castable "BackwardProofs$Scanner" "java/lang/IllegalStateException")),
 (Jvm.Cond.not (Jvm.Cond.castable "BackwardProofs$History" "java/lang/IllegalStateException")),
 (Jvm.Cond.not (Jvm.Cond.castable "BackwardProofs$Version" "java/lang/IllegalStateException")),
 (Jvm.Cond.not (Jvm.Cond.castable "BackwardProofs$Program" "java/lang/IllegalStateException")),
 (Jvm.Cond.not (Jvm.Cond.castable "BackwardProofs$Sets" "java/lang/IllegalStateException")),
 (Jvm.Cond.not (Jvm.Cond.castable "BackwardProofs$Runs" "java/lang/IllegalStateException")),
 (Jvm.Cond.not (Jvm.Cond.castable "BackwardProofs$Duties" "java/lang/IllegalStateException")),
 (Jvm.Cond.not (Jvm.Cond.castable "BackwardProofs$Sheet" "java/lang/IllegalStateException")),
 (Jvm.Cond.not (Jvm.Cond.castable "java/lang/StringBuilder" "java/lang/IllegalStateException")),
 (Jvm.Cond.not (Jvm.Cond.castable "java/lang/String" "java/lang/IllegalStateException")),
 (Jvm.Cond.not (Jvm.Cond.castable "java/lang/IllegalArgumentException" "java/lang/IllegalStateException")),
 (Jvm.Cond.not (Jvm.Cond.castable "java/util/NoSuchElementException" "java/lang/IllegalStateException")),
 (Jvm.Cond.not (Jvm.Cond.castable "BackwardProofs" "java/util/NoSuchElementException")),
 (Jvm.Cond.not (Jvm.Cond.castable "BackwardProofs$Formula" "java/util/NoSuchElementException")),
 (Jvm.Cond.not (Jvm.Cond.castable "BackwardProofs$Parser" "java/util/NoSuchElementException")),
 (Jvm.Cond.not (Jvm.Cond.castable "BackwardProofs$Scanner" "java/util/NoSuchElementException")),
 (Jvm.Cond.not (Jvm.Cond.castable "BackwardProofs$History" "java/util/NoSuchElementException")),
 (Jvm.Cond.not (Jvm.Cond.castable "BackwardProofs$Version" "java/util/NoSuchElementException")),
 (Jvm.Cond.not (Jvm.Cond.castable "BackwardProofs$Program" "java/util/NoSuchElementException")),
 (Jvm.Cond.not (Jvm.Cond.castable "BackwardProofs$Sets" "java/util/NoSuchElementException")),
 (Jvm.Cond.not (Jvm.Cond.castable "BackwardProofs$Runs" "java/util/NoSuchElementException")),
 (Jvm.Cond.not (Jvm.Cond.castable "BackwardProofs$Duties" "java/util/NoSuchElementException")),
 (Jvm.Cond.not (Jvm.Cond.castable "BackwardProofs$Sheet" "java/util/NoSuchElementException")),
 (Jvm.Cond.not (Jvm.Cond.castable "java/lang/StringBuilder" "java/util/NoSuchElementException")),
 (Jvm.Cond.not (Jvm.Cond.castable "java/lang/String" "java/util/NoSuchElementException")),
 (Jvm.Cond.not (Jvm.Cond.castable "java/lang/IllegalArgumentException" "java/util/NoSuchElementException")),
 (Jvm.Cond.not (Jvm.Cond.castable "java/lang/IllegalStateException" "java/util/NoSuchElementException")),
 (Jvm.Cond.not (Jvm.Cond.castable "BackwardProofs" "BackwardProofs$Version")),
 (Jvm.Cond.not (Jvm.Cond.castable "BackwardProofs$Formula" "BackwardProofs$Version")),
 (Jvm.Cond.not (Jvm.Cond.castable "BackwardProofs$Parser" "BackwardProofs$Version")),
 (Jvm.Cond.not (Jvm.Cond.castable "BackwardProofs$Scanner" "BackwardProofs$Version")),
 (Jvm.Cond.not (Jvm.Cond.castable "BackwardProofs$History" "BackwardProofs$Version")),
 (Jvm.Cond.not (Jvm.Cond.castable "BackwardProofs$Program" "BackwardProofs$Version")),
 (Jvm.Cond.not (Jvm.Cond.castable "BackwardProofs$Sets" "BackwardProofs$Version")),
 (Jvm.Cond.not (Jvm.Cond.castable "BackwardProofs$Runs" "BackwardProofs$Version")),
 (Jvm.Cond.not (Jvm.Cond.castable "BackwardProofs$Duties" "BackwardProofs$Version")),
 (Jvm.Cond.not (Jvm.Cond.castable "BackwardProofs$Sheet" "BackwardProofs$Version")),
 (Jvm.Cond.not (Jvm.Cond.castable "java/lang/StringBuilder" "BackwardProofs$Version")),
 (Jvm.Cond.not (Jvm.Cond.castable "java/lang/String" "BackwardProofs$Version")),
 (Jvm.Cond.not (Jvm.Cond.castable "java/lang/IllegalArgumentException" "BackwardProofs$Version")),
 (Jvm.Cond.not (Jvm.Cond.castable "java/lang/IllegalStateException" "BackwardProofs$Version")),
 (Jvm.Cond.not (Jvm.Cond.castable "java/util/NoSuchElementException" "BackwardProofs$Version")),
 (Jvm.Cond.not (Jvm.Cond.castable "java/lang/Throwable" "BackwardProofs$Version")),
 (Jvm.Cond.not (Jvm.Cond.castable "BackwardProofs" "BackwardProofs$Formula")),
 (Jvm.Cond.not (Jvm.Cond.castable "BackwardProofs$Parser" "BackwardProofs$Formula")),
 (Jvm.Cond.not (Jvm.Cond.castable "BackwardProofs$Scanner" "BackwardProofs$Formula")),
 (Jvm.Cond.not (Jvm.Cond.castable "BackwardProofs$History" "BackwardProofs$Formula")),
 (Jvm.Cond.not (Jvm.Cond.castable "BackwardProofs$Version" "BackwardProofs$Formula")),
 (Jvm.Cond.not (Jvm.Cond.castable "BackwardProofs$Program" "BackwardProofs$Formula")),
 (Jvm.Cond.not (Jvm.Cond.castable "BackwardProofs$Sets" "BackwardProofs$Formula")),
 (Jvm.Cond.not (Jvm.Cond.castable "BackwardProofs$Runs" "BackwardProofs$Formula")),
 (Jvm.Cond.not (Jvm.Cond.castable "BackwardProofs$Duties" "BackwardProofs$Formula")),
 (Jvm.Cond.not (Jvm.Cond.castable "BackwardProofs$Sheet" "BackwardProofs$Formula")),
 (Jvm.Cond.not (Jvm.Cond.castable "java/lang/StringBuilder" "BackwardProofs$Formula")),
 (Jvm.Cond.not (Jvm.Cond.castable "java/lang/String" "BackwardProofs$Formula")),
 (Jvm.Cond.not (Jvm.Cond.castable "java/lang/IllegalArgumentException" "BackwardProofs$Formula")),
 (Jvm.Cond.not (Jvm.Cond.castable "java/lang/IllegalStateException" "BackwardProofs$Formula")),
 (Jvm.Cond.not (Jvm.Cond.castable "java/util/NoSuchElementException" "BackwardProofs$Formula")),
 (Jvm.Cond.not (Jvm.Cond.castable "java/lang/Throwable" "BackwardProofs$Formula")),
 (Jvm.Cond.exactly (Jvm.Term.string "BackwardProofs" (89 : Nat)) "java/lang/String"),
 (Jvm.Cond.eq (Jvm.Term.field (Jvm.Term.string "BackwardProofs" (89 : Nat)) "java/lang/String" "coder" "B") (Jvm.Term.int (0 : Int32))),
 (Jvm.Cond.arrayOf (Jvm.Term.field (Jvm.Term.string "BackwardProofs" (89 : Nat)) "java/lang/String" "value" "[B") Jvm.ClassFile.FieldType.byte),
 (Jvm.Cond.eq (Jvm.Term.length (Jvm.Term.field (Jvm.Term.string "BackwardProofs" (89 : Nat)) "java/lang/String" "value" "[B")) (Jvm.Term.int (95 : Int32))),
 (Jvm.Cond.eq (Jvm.Term.elem (Jvm.Term.field (Jvm.Term.string "BackwardProofs" (89 : Nat)) "java/lang/String" "value" "[B") (Jvm.Term.int (0 : Int32))) (Jvm.Term.int (112 : Int32))),
 (Jvm.Cond.eq (Jvm.Term.elem (Jvm.Term.field (Jvm.Term.string "BackwardProofs" (89 : Nat)) "java/lang/String" "value" "[B") (Jvm.Term.int (1 : Int32))) (Jvm.Term.int (114 : Int32))),
 (Jvm.Cond.eq (Jvm.Term.elem (Jvm.Term.field (Jvm.Term.string "BackwardProofs" (89 : Nat)) "java/lang/String" "value" "[B") (Jvm.Term.int (2 : Int32))) (Jvm.Term.int (111 : Int32))),
 (Jvm.Cond.eq (Jvm.Term.elem (Jvm.Term.field (Jvm.Term.string "BackwardProofs" (89 : Nat)) "java/lang/String" "value" "[B") (Jvm.Term.int (3 : Int32))) (Jvm.Term.int (111 : Int32))),
 (Jvm.Cond.eq (Jvm.Term.elem (Jvm.Term.field (Jvm.Term.string "BackwardProofs" (89 : Nat)) "java/lang/String" "value" "[B") (Jvm.Term.int (4 : Int32))) (Jvm.Term.int (102 : Int32))),
 (Jvm.Cond.eq (Jvm.Term.elem (Jvm.Term.field (Jvm.Term.string "BackwardProofs" (89 : Nat)) "java/lang/String" "value" "[B") (Jvm.Term.int (5 : Int32))) (Jvm.Term.int (32 : Int32))),
 (Jvm.Cond.eq (Jvm.Term.elem (Jvm.Term.field (Jvm.Term.string "BackwardProofs" (89 : Nat)) "java/lang/String" "value" "[B") (Jvm.Term.int (6 : Int32))) (Jvm.Term.int (108 : Int32))),
 (Jvm.Cond.eq (Jvm.Term.elem (Jvm.Term.field (Jvm.Term.string "BackwardProofs" (89 : Nat)) "java/lang/String" "value" "[B") (Jvm.Term.int (7 : Int32))) (Jvm.Term.int (116 : Int32))),
 (Jvm.Cond.eq (Jvm.Term.elem (Jvm.Term.field (Jvm.Term.string "BackwardProofs" (89 : Nat)) "java/lang/String" "value" "[B") (Jvm.Term.int (8 : Int32))) (Jvm.Term.int (32 : Int32))),
 (Jvm.Cond.eq (Jvm.Term.elem (Jvm.Term.field (Jvm.Term.string "BackwardProofs" (89 : Nat)) "java/lang/String" "value" "[B") (Jvm.Term.int (9 : Int32))) (Jvm.Term.int (97 : Int32))),
 (Jvm.Cond.eq (Jvm.Term.elem (Jvm.Term.field (Jvm.Term.string "BackwardProofs" (89 : Nat)) "java/lang/String" "value" "[B") (Jvm.Term.int (10 : Int32))) (Jvm.Term.int (32 : Int32))),
 (Jvm.Cond.eq (Jvm.Term.elem (Jvm.Term.field (Jvm.Term.string "BackwardProofs" (89 : Nat)) "java/lang/String" "value" "[B") (Jvm.Term.int (11 : Int32))) (Jvm.Term.int (51 : Int32))),
 (Jvm.Cond.eq (Jvm.Term.elem (Jvm.Term.field (Jvm.Term.string "BackwardProofs" (89 : Nat)) "java/lang/String" "value" "[B") (Jvm.Term.int (12 : Int32))) (Jvm.Term.int (32 : Int32))),
 (Jvm.Cond.eq (Jvm.Term.elem (Jvm.Term.field (Jvm.Term.string "BackwardProofs" (89 : Nat)) "java/lang/String" "value" "[B") (Jvm.Term.int (13 : Int32))) (Jvm.Term.int (97 : Int32))),
 (Jvm.Cond.eq (Jvm.Term.elem (Jvm.Term.field (Jvm.Term.string "BackwardProofs" (89 : Nat)) "java/lang/String" "value" "[B") (Jvm.Term.int (14 : Int32))) (Jvm.Term.int (110 : Int32))),
 (Jvm.Cond.eq (Jvm.Term.elem (Jvm.Term.field (Jvm.Term.string "BackwardProofs" (89 : Nat)) "java/lang/String" "value" "[B") (Jvm.Term.int (15 : Int32))) (Jvm.Term.int (100 : Int32))),
 (Jvm.Cond.eq (Jvm.Term.elem (Jvm.Term.field (Jvm.Term.string "BackwardProofs" (89 : Nat)) "java/lang/String" "value" "[B") (Jvm.Term.int (16 : Int32))) (Jvm.Term.int (32 : Int32))),
 (Jvm.Cond.eq (Jvm.Term.elem (Jvm.Term.field (Jvm.Term.string "BackwardProofs" (89 : Nat)) "java/lang/String" "value" "[B") (Jvm.Term.int (17 : Int32))) (Jvm.Term.int (101 : Int32))),
 (Jvm.Cond.eq (Jvm.Term.elem (Jvm.Term.field (Jvm.Term.string "BackwardProofs" (89 : Nat)) "java/lang/String" "value" "[B") (Jvm.Term.int (18 : Int32))) (Jvm.Term.int (113 : Int32))),
 (Jvm.Cond.eq (Jvm.Term.elem (Jvm.Term.field (Jvm.Term.string "BackwardProofs" (89 : Nat)) "java/lang/String" "value" "[B") (Jvm.Term.int (19 : Int32))) (Jvm.Term.int (32 : Int32))),
 (Jvm.Cond.eq (Jvm.Term.elem (Jvm.Term.field (Jvm.Term.string "BackwardProofs" (89 : Nat)) "java/lang/String" "value" "[B") (Jvm.Term.int (20 : Int32))) (Jvm.Term.int (97 : Int32))),
 (Jvm.Cond.eq (Jvm.Term.elem (Jvm.Term.field (Jvm.Term.string "BackwardProofs" (89 : Nat)) "java/lang/String" "value" "[B") (Jvm.Term.int (21 : Int32))) (Jvm.Term.int (32 : Int32))),
 (Jvm.Cond.eq (Jvm.Term.elem (Jvm.Term.field (Jvm.Term.string "BackwardProofs" (89 : Nat)) "java/lang/String" "value" "[B") (Jvm.Term.int (22 : Int32))) (Jvm.Term.int (48 : Int32))),
 (Jvm.Cond.eq (Jvm.Term.elem (Jvm.Term.field (Jvm.Term.string "BackwardProofs" (89 : Nat)) "java/lang/String" "value" "[B") (Jvm.Term.int (23 : Int32))) (Jvm.Term.int (32 : Int32))),
 (Jvm.Cond.eq (Jvm.Term.elem (Jvm.Term.field (Jvm.Term.string "BackwardProofs" (89 : Nat)) "java/lang/String" "value" "[B") (Jvm.Term.int (24 : Int32))) (Jvm.Term.int (101 : Int32))),
 (Jvm.Cond.eq (Jvm.Term.elem (Jvm.Term.field (Jvm.Term.string "BackwardProofs" (89 : Nat)) "java/lang/String" "value" "[B") (Jvm.Term.int (25 : Int32))) (Jvm.Term.int (113 : Int32))),
 (Jvm.Cond.eq (Jvm.Term.elem (Jvm.Term.field (Jvm.Term.string "BackwardProofs" (89 : Nat)) "java/lang/String" "value" "[B") (Jvm.Term.int (26 : Int32))) (Jvm.Term.int (32 : Int32))),
 (Jvm.Cond.eq (Jvm.Term.elem (Jvm.Term.field (Jvm.Term.string "BackwardProofs" (89 : Nat)) "java/lang/String" "value" "[B") (Jvm.Term.int (27 : Int32))) (Jvm.Term.int (98 : Int32))),
 (Jvm.Cond.eq (Jvm.Term.elem (Jvm.Term.field (Jvm.Term.string "BackwardProofs" (89 : Nat)) "java/lang/String" "value" "[B") (Jvm.Term.int (28 : Int32))) (Jvm.Term.int (32 : Int32))),
 (Jvm.Cond.eq (Jvm.Term.elem (Jvm.Term.field (Jvm.Term.string "BackwardProofs" (89 : Nat)) "java/lang/String" "value" "[B") (Jvm.Term.int (29 : Int32))) (Jvm.Term.int (50 : Int32))),
 (Jvm.Cond.eq (Jvm.Term.elem (Jvm.Term.field (Jvm.Term.string "BackwardProofs" (89 : Nat)) "java/lang/String" "value" "[B") (Jvm.Term.int (30 : Int32))) (Jvm.Term.int (32 : Int32))),
 (Jvm.Cond.eq (Jvm.Term.elem (Jvm.Term.field (Jvm.Term.string "BackwardProofs" (89 : Nat)) "java/lang/String" "value" "[B") (Jvm.Term.int (31 : Int32))) (Jvm.Term.int (115 : Int32))),
 (Jvm.Cond.eq (Jvm.Term.elem (Jvm.Term.field (Jvm.Term.string "BackwardProofs" (89 : Nat)) "java/lang/String" "value" "[B") (Jvm.Term.int (32 : Int32))) (Jvm.Term.int (101 : Int32))),
 (Jvm.Cond.eq (Jvm.Term.elem (Jvm.Term.field (Jvm.Term.string "BackwardProofs" (89 : Nat)) "java/lang/String" "value" "[B") (Jvm.Term.int (33 : Int32))) (Jvm.Term.int (116 : Int32))),
 (Jvm.Cond.eq (Jvm.Term.elem (Jvm.Term.field (Jvm.Term.string "BackwardProofs" (89 : Nat)) "java/lang/String" "value" "[B") (Jvm.Term.int (34 : Int32))) (Jvm.Term.int (32 : Int32))),
 (Jvm.Cond.eq (Jvm.Term.elem (Jvm.Term.field (Jvm.Term.string "BackwardProofs" (89 : Nat)) "java/lang/String" "value" "[B") (Jvm.Term.int (35 : Int32))) (Jvm.Term.int (98 : Int32))),
 (Jvm.Cond.eq (Jvm.Term.elem (Jvm.Term.field (Jvm.Term.string "BackwardProofs" (89 : Nat)) "java/lang/String" "value" "[B") (Jvm.Term.int (36 : Int32))) (Jvm.Term.int (32 : Int32))),
 (Jvm.Cond.eq (Jvm.Term.elem (Jvm.Term.field (Jvm.Term.string "BackwardProofs" (89 : Nat)) "java/lang/String" "value" "[B") (Jvm.Term.int (37 : Int32))) (Jvm.Term.int (50 : Int32))),
 (Jvm.Cond.eq (Jvm.Term.elem (Jvm.Term.field (Jvm.Term.string "BackwardProofs" (89 : Nat)) "java/lang/String" "value" "[B") (Jvm.Term.int (38 : Int32))) (Jvm.Term.int (32 : Int32))),
 (Jvm.Cond.eq (Jvm.Term.elem (Jvm.Term.field (Jvm.Term.string "BackwardProofs" (89 : Nat)) "java/lang/String" "value" "[B") (Jvm.Term.int (39 : Int32))) (Jvm.Term.int (119 : Int32))),
 (Jvm.Cond.eq (Jvm.Term.elem (Jvm.Term.field (Jvm.Term.string "BackwardProofs" (89 : Nat)) "java/lang/String" "value" "[B") (Jvm.Term.int (40 : Int32))) (Jvm.Term.int (104 : Int32))),
 (Jvm.Cond.eq (Jvm.Term.elem (Jvm.Term.field (Jvm.Term.string "BackwardProofs" (89 : Nat)) "java/lang/String" "value" "[B") (Jvm.Term.int (41 : Int32))) (Jvm.Term.int (105 : Int32))),
 (Jvm.Cond.eq (Jvm.Term.elem (Jvm.Term.field (Jvm.Term.string "BackwardProofs" (89 : Nat)) "java/lang/String" "value" "[B") (Jvm.Term.int (42 : Int32))) (Jvm.Term.int (108 : Int32))),
 (Jvm.Cond.eq (Jvm.Term.elem (Jvm.Term.field (Jvm.Term.string "BackwardProofs" (89 : Nat)) "java/lang/String" "value" "[B") (Jvm.Term.int (43 : Int32))) (Jvm.Term.int (101 : Int32))),
 (Jvm.Cond.eq (Jvm.Term.elem (Jvm.Term.field (Jvm.Term.string "BackwardProofs" (89 : Nat)) "java/lang/String" "value" "[B") (Jvm.Term.int (44 : Int32))) (Jvm.Term.int (32 : Int32))),
 (Jvm.Cond.eq (Jvm.Term.elem (Jvm.Term.field (Jvm.Term.string "BackwardProofs" (89 : Nat)) "java/lang/String" "value" "[B") (Jvm.Term.int (45 : Int32))) (Jvm.Term.int (108 : Int32))),
 (Jvm.Cond.eq (Jvm.Term.elem (Jvm.Term.field (Jvm.Term.string "BackwardProofs" (89 : Nat)) "java/lang/String" "value" "[B") (Jvm.Term.int (46 : Int32))) (Jvm.Term.int (116 : Int32))),
 (Jvm.Cond.eq (Jvm.Term.elem (Jvm.Term.field (Jvm.Term.string "BackwardProofs" (89 : Nat)) "java/lang/String" "value" "[B") (Jvm.Term.int (47 : Int32))) (Jvm.Term.int (32 : Int32))),
 (Jvm.Cond.eq (Jvm.Term.elem (Jvm.Term.field (Jvm.Term.string "BackwardProofs" (89 : Nat)) "java/lang/String" "value" "[B") (Jvm.Term.int (48 : Int32))) (Jvm.Term.int (48 : Int32))),
 (Jvm.Cond.eq (Jvm.Term.elem (Jvm.Term.field (Jvm.Term.string "BackwardProofs" (89 : Nat)) "java/lang/String" "value" "[B") (Jvm.Term.int (49 : Int32))) (Jvm.Term.int (32 : Int32))),
 (Jvm.Cond.eq (Jvm.Term.elem (Jvm.Term.field (Jvm.Term.string "BackwardProofs" (89 : Nat)) "java/lang/String" "value" "[B") (Jvm.Term.int (50 : Int32))) (Jvm.Term.int (97 : Int32))),
 (Jvm.Cond.eq (Jvm.Term.elem (Jvm.Term.field (Jvm.Term.string "BackwardProofs" (89 : Nat)) "java/lang/String" "value" "[B") (Jvm.Term.int (51 : Int32))) (Jvm.Term.int (32 : Int32))),
 (Jvm.Cond.eq (Jvm.Term.elem (Jvm.Term.field (Jvm.Term.string "BackwardProofs" (89 : Nat)) "java/lang/String" "value" "[B") (Jvm.Term.int (52 : Int32))) (Jvm.Term.int (107 : Int32))),
 (Jvm.Cond.eq (Jvm.Term.elem (Jvm.Term.field (Jvm.Term.string "BackwardProofs" (89 : Nat)) "java/lang/String" "value" "[B") (Jvm.Term.int (53 : Int32))) (Jvm.Term.int (101 : Int32))),
 (Jvm.Cond.eq (Jvm.Term.elem (Jvm.Term.field (Jvm.Term.string "BackwardProofs" (89 : Nat)) "java/lang/String" "value" "[B") (Jvm.Term.int (54 : Int32))) (Jvm.Term.int (101 : Int32))),
 (Jvm.Cond.eq (Jvm.Term.elem (Jvm.Term.field (Jvm.Term.string "BackwardProofs" (89 : Nat)) "java/lang/String" "value" "[B") (Jvm.Term.int (55 : Int32))) (Jvm.Term.int (112 : Int32))),
 (Jvm.Cond.eq (Jvm.Term.elem (Jvm.Term.field (Jvm.Term.string "BackwardProofs" (89 : Nat)) "java/lang/String" "value" "[B") (Jvm.Term.int (56 : Int32))) (Jvm.Term.int (32 : Int32))),
 (Jvm.Cond.eq (Jvm.Term.elem (Jvm.Term.field (Jvm.Term.string "BackwardProofs" (89 : Nat)) "java/lang/String" "value" "[B") (Jvm.Term.int (57 : Int32))) (Jvm.Term.int (101 : Int32))),
 (Jvm.Cond.eq (Jvm.Term.elem (Jvm.Term.field (Jvm.Term.string "BackwardProofs" (89 : Nat)) "java/lang/String" "value" "[B") (Jvm.Term.int (58 : Int32))) (Jvm.Term.int (113 : Int32))),
 (Jvm.Cond.eq (Jvm.Term.elem (Jvm.Term.field (Jvm.Term.string "BackwardProofs" (89 : Nat)) "java/lang/String" "value" "[B") (Jvm.Term.int (59 : Int32))) (Jvm.Term.int (32 : Int32))),
 (Jvm.Cond.eq (Jvm.Term.elem (Jvm.Term.field (Jvm.Term.string "BackwardProofs" (89 : Nat)) "java/lang/String" "value" "[B") (Jvm.Term.int (60 : Int32))) (Jvm.Term.int (98 : Int32))),
 (Jvm.Cond.eq (Jvm.Term.elem (Jvm.Term.field (Jvm.Term.string "BackwardProofs" (89 : Nat)) "java/lang/String" "value" "[B") (Jvm.Term.int (61 : Int32))) (Jvm.Term.int (32 : Int32))),
 (Jvm.Cond.eq (Jvm.Term.elem (Jvm.Term.field (Jvm.Term.string "BackwardProofs" (89 : Nat)) "java/lang/String" "value" "[B") (Jvm.Term.int (62 : Int32))) (Jvm.Term.int (50 : Int32))),
 (Jvm.Cond.eq (Jvm.Term.elem (Jvm.Term.field (Jvm.Term.string "BackwardProofs" (89 : Nat)) "java/lang/String" "value" "[B") (Jvm.Term.int (63 : Int32))) (Jvm.Term.int (32 : Int32))),
 (Jvm.Cond.eq (Jvm.Term.elem (Jvm.Term.field (Jvm.Term.string "BackwardProofs" (89 : Nat)) "java/lang/String" "value" "[B") (Jvm.Term.int (64 : Int32))) (Jvm.Term.int (108 : Int32))),
 (Jvm.Cond.eq (Jvm.Term.elem (Jvm.Term.field (Jvm.Term.string "BackwardProofs" (89 : Nat)) "java/lang/String" "value" "[B") (Jvm.Term.int (65 : Int32))) (Jvm.Term.int (101 : Int32))),
 (Jvm.Cond.eq (Jvm.Term.elem (Jvm.Term.field (Jvm.Term.string "BackwardProofs" (89 : Nat)) "java/lang/String" "value" "[B") (Jvm.Term.int (66 : Int32))) (Jvm.Term.int (115 : Int32))),
 (Jvm.Cond.eq (Jvm.Term.elem (Jvm.Term.field (Jvm.Term.string "BackwardProofs" (89 : Nat)) "java/lang/String" "value" "[B") (Jvm.Term.int (67 : Int32))) (Jvm.Term.int (115 : Int32))),
 (Jvm.Cond.eq (Jvm.Term.elem (Jvm.Term.field (Jvm.Term.string "BackwardProofs" (89 : Nat)) "java/lang/String" "value" "[B") (Jvm.Term.int (68 : Int32))) (Jvm.Term.int (32 : Int32))),
 (Jvm.Cond.eq (Jvm.Term.elem (Jvm.Term.field (Jvm.Term.string "BackwardProofs" (89 : Nat)) "java/lang/String" "value" "[B") (Jvm.Term.int (69 : Int32))) (Jvm.Term.int (97 : Int32))),
 (Jvm.Cond.eq (Jvm.Term.elem (Jvm.Term.field (Jvm.Term.string "BackwardProofs" (89 : Nat)) "java/lang/String" "value" "[B") (Jvm.Term.int (70 : Int32))) (Jvm.Term.int (32 : Int32))),
 (Jvm.Cond.eq (Jvm.Term.elem (Jvm.Term.field (Jvm.Term.string "BackwardProofs" (89 : Nat)) "java/lang/String" "value" "[B") (Jvm.Term.int (71 : Int32))) (Jvm.Term.int (115 : Int32))),
 (Jvm.Cond.eq (Jvm.Term.elem (Jvm.Term.field (Jvm.Term.string "BackwardProofs" (89 : Nat)) "java/lang/String" "value" "[B") (Jvm.Term.int (72 : Int32))) (Jvm.Term.int (101 : Int32))),
 (Jvm.Cond.eq (Jvm.Term.elem (Jvm.Term.field (Jvm.Term.string "BackwardProofs" (89 : Nat)) "java/lang/String" "value" "[B") (Jvm.Term.int (73 : Int32))) (Jvm.Term.int (116 : Int32))),
 (Jvm.Cond.eq (Jvm.Term.elem (Jvm.Term.field (Jvm.Term.string "BackwardProofs" (89 : Nat)) "java/lang/String" "value" "[B") (Jvm.Term.int (74 : Int32))) (Jvm.Term.int (32 : Int32))),
 (Jvm.Cond.eq (Jvm.Term.elem (Jvm.Term.field (Jvm.Term.string "BackwardProofs" (89 : Nat)) "java/lang/String" "value" "[B") (Jvm.Term.int (75 : Int32))) (Jvm.Term.int (97 : Int32))),
 (Jvm.Cond.eq (Jvm.Term.elem (Jvm.Term.field (Jvm.Term.string "BackwardProofs" (89 : Nat)) "java/lang/String" "value" "[B") (Jvm.Term.int (76 : Int32))) (Jvm.Term.int (32 : Int32))),
 (Jvm.Cond.eq (Jvm.Term.elem (Jvm.Term.field (Jvm.Term.string "BackwardProofs" (89 : Nat)) "java/lang/String" "value" "[B") (Jvm.Term.int (77 : Int32))) (Jvm.Term.int (109 : Int32))),
 (Jvm.Cond.eq (Jvm.Term.elem (Jvm.Term.field (Jvm.Term.string "BackwardProofs" (89 : Nat)) "java/lang/String" "value" "[B") (Jvm.Term.int (78 : Int32))) (Jvm.Term.int (105 : Int32))),
 (Jvm.Cond.eq (Jvm.Term.elem (Jvm.Term.field (Jvm.Term.string "BackwardProofs" (89 : Nat)) "java/lang/String" "value" "[B") (Jvm.Term.int (79 : Int32))) (Jvm.Term.int (110 : Int32))),
 (Jvm.Cond.eq (Jvm.Term.elem (Jvm.Term.field (Jvm.Term.string "BackwardProofs" (89 : Nat)) "java/lang/String" "value" "[B") (Jvm.Term.int (80 : Int32))) (Jvm.Term.int (117 : Int32))),
 (Jvm.Cond.eq (Jvm.Term.elem (Jvm.Term.field (Jvm.Term.string "BackwardProofs" (89 : Nat)) "java/lang/String" "value" "[B") (Jvm.Term.int (81 : Int32))) (Jvm.Term.int (115 : Int32))),
 (Jvm.Cond.eq (Jvm.Term.elem (Jvm.Term.field (Jvm.Term.string "BackwardProofs" (89 : Nat)) "java/lang/String" "value" "[B") (Jvm.Term.int (82 : Int32))) (Jvm.Term.int (32 : Int32))),
 (Jvm.Cond.eq (Jvm.Term.elem (Jvm.Term.field (Jvm.Term.string "BackwardProofs" (89 : Nat)) "java/lang/String" "value" "[B") (Jvm.Term.int (83 : Int32))) (Jvm.Term.int (97 : Int32))),
 (Jvm.Cond.eq (Jvm.Term.elem (Jvm.Term.field (Jvm.Term.string "BackwardProofs" (89 : Nat)) "java/lang/String" "value" "[B") (Jvm.Term.int (84 : Int32))) (Jvm.Term.int (32 : Int32))),
 (Jvm.Cond.eq (Jvm.Term.elem (Jvm.Term.field (Jvm.Term.string "BackwardProofs" (89 : Nat)) "java/lang/String" "value" "[B") (Jvm.Term.int (85 : Int32))) (Jvm.Term.int (49 : Int32))),
 (Jvm.Cond.eq (Jvm.Term.elem (Jvm.Term.field (Jvm.Term.string "BackwardProofs" (89 : Nat)) "java/lang/String" "value" "[B") (Jvm.Term.int (86 : Int32))) (Jvm.Term.int (32 : Int32))),
 (Jvm.Cond.eq (Jvm.Term.elem (Jvm.Term.field (Jvm.Term.string "BackwardProofs" (89 : Nat)) "java/lang/String" "value" "[B") (Jvm.Term.int (87 : Int32))) (Jvm.Term.int (101 : Int32))),
 (Jvm.Cond.eq (Jvm.Term.elem (Jvm.Term.field (Jvm.Term.string "BackwardProofs" (89 : Nat)) "java/lang/String" "value" "[B") (Jvm.Term.int (88 : Int32))) (Jvm.Term.int (110 : Int32))),
 (Jvm.Cond.eq (Jvm.Term.elem (Jvm.Term.field (Jvm.Term.string "BackwardProofs" (89 : Nat)) "java/lang/String" "value" "[B") (Jvm.Term.int (89 : Int32))) (Jvm.Term.int (100 : Int32))),
 (Jvm.Cond.eq (Jvm.Term.elem (Jvm.Term.field (Jvm.Term.string "BackwardProofs" (89 : Nat)) "java/lang/String" "value" "[B") (Jvm.Term.int (90 : Int32))) (Jvm.Term.int (32 : Int32))),
 (Jvm.Cond.eq (Jvm.Term.elem (Jvm.Term.field (Jvm.Term.string "BackwardProofs" (89 : Nat)) "java/lang/String" "value" "[B") (Jvm.Term.int (91 : Int32))) (Jvm.Term.int (104 : Int32))),
 (Jvm.Cond.eq (Jvm.Term.elem (Jvm.Term.field (Jvm.Term.string "BackwardProofs" (89 : Nat)) "java/lang/String" "value" "[B") (Jvm.Term.int (92 : Int32))) (Jvm.Term.int (111 : Int32))),
 (Jvm.Cond.eq (Jvm.Term.elem (Jvm.Term.field (Jvm.Term.string "BackwardProofs" (89 : Nat)) "java/lang/String" "value" "[B") (Jvm.Term.int (93 : Int32))) (Jvm.Term.int (108 : Int32))),
 (Jvm.Cond.eq (Jvm.Term.elem (Jvm.Term.field (Jvm.Term.string "BackwardProofs" (89 : Nat)) "java/lang/String" "value" "[B") (Jvm.Term.int (94 : Int32))) (Jvm.Term.int (101 : Int32))),
 (Jvm.Cond.exactly (Jvm.Term.string "BackwardProofs$Words" (7 : Nat)) "java/lang/String"),
 (Jvm.Cond.eq (Jvm.Term.field (Jvm.Term.string "BackwardProofs$Words" (7 : Nat)) "java/lang/String" "coder" "B") (Jvm.Term.int (0 : Int32))),
 (Jvm.Cond.arrayOf (Jvm.Term.field (Jvm.Term.string "BackwardProofs$Words" (7 : Nat)) "java/lang/String" "value" "[B") Jvm.ClassFile.FieldType.byte),
 (Jvm.Cond.eq (Jvm.Term.length (Jvm.Term.field (Jvm.Term.string "BackwardProofs$Words" (7 : Nat)) "java/lang/String" "value" "[B")) (Jvm.Term.int (1 : Int32))),
 (Jvm.Cond.eq (Jvm.Term.elem (Jvm.Term.field (Jvm.Term.string "BackwardProofs$Words" (7 : Nat)) "java/lang/String" "value" "[B") (Jvm.Term.int (0 : Int32))) (Jvm.Term.int (48 : Int32))),
 (Jvm.Cond.exactly (Jvm.Term.string "BackwardProofs$Words" (9 : Nat)) "java/lang/String"),
 (Jvm.Cond.eq (Jvm.Term.field (Jvm.Term.string "BackwardProofs$Words" (9 : Nat)) "java/lang/String" "coder" "B") (Jvm.Term.int (0 : Int32))),
 (Jvm.Cond.arrayOf (Jvm.Term.field (Jvm.Term.string "BackwardProofs$Words" (9 : Nat)) "java/lang/String" "value" "[B") Jvm.ClassFile.FieldType.byte),
 (Jvm.Cond.eq (Jvm.Term.length (Jvm.Term.field (Jvm.Term.string "BackwardProofs$Words" (9 : Nat)) "java/lang/String" "value" "[B")) (Jvm.Term.int (1 : Int32))),
 (Jvm.Cond.eq (Jvm.Term.elem (Jvm.Term.field (Jvm.Term.string "BackwardProofs$Words" (9 : Nat)) "java/lang/String" "value" "[B") (Jvm.Term.int (0 : Int32))) (Jvm.Term.int (49 : Int32))),
 (Jvm.Cond.exactly (Jvm.Term.string "BackwardProofs$Words" (11 : Nat)) "java/lang/String"),
 (Jvm.Cond.eq (Jvm.Term.field (Jvm.Term.string "BackwardProofs$Words" (11 : Nat)) "java/lang/String" "coder" "B") (Jvm.Term.int (0 : Int32))),
 (Jvm.Cond.arrayOf (Jvm.Term.field (Jvm.Term.string "BackwardProofs$Words" (11 : Nat)) "java/lang/String" "value" "[B") Jvm.ClassFile.FieldType.byte),
 (Jvm.Cond.eq (Jvm.Term.length (Jvm.Term.field (Jvm.Term.string "BackwardProofs$Words" (11 : Nat)) "java/lang/String" "value" "[B")) (Jvm.Term.int (1 : Int32))),
 (Jvm.Cond.eq (Jvm.Term.elem (Jvm.Term.field (Jvm.Term.string "BackwardProofs$Words" (11 : Nat)) "java/lang/String" "value" "[B") (Jvm.Term.int (0 : Int32))) (Jvm.Term.int (50 : Int32))),
 (Jvm.Cond.exactly (Jvm.Term.string "BackwardProofs$Words" (13 : Nat)) "java/lang/String"),
 (Jvm.Cond.eq (Jvm.Term.field (Jvm.Term.string "BackwardProofs$Words" (13 : Nat)) "java/lang/String" "coder" "B") (Jvm.Term.int (0 : Int32))),
 (Jvm.Cond.arrayOf (Jvm.Term.field (Jvm.Term.string "BackwardProofs$Words" (13 : Nat)) "java/lang/String" "value" "[B") Jvm.ClassFile.FieldType.byte),
 (Jvm.Cond.eq (Jvm.Term.length (Jvm.Term.field (Jvm.Term.string "BackwardProofs$Words" (13 : Nat)) "java/lang/String" "value" "[B")) (Jvm.Term.int (1 : Int32))),
 (Jvm.Cond.eq (Jvm.Term.elem (Jvm.Term.field (Jvm.Term.string "BackwardProofs$Words" (13 : Nat)) "java/lang/String" "value" "[B") (Jvm.Term.int (0 : Int32))) (Jvm.Term.int (51 : Int32))),
 (Jvm.Cond.exactly (Jvm.Term.string "BackwardProofs$Words" (15 : Nat)) "java/lang/String"),
 (Jvm.Cond.eq (Jvm.Term.field (Jvm.Term.string "BackwardProofs$Words" (15 : Nat)) "java/lang/String" "coder" "B") (Jvm.Term.int (0 : Int32))),
 (Jvm.Cond.arrayOf (Jvm.Term.field (Jvm.Term.string "BackwardProofs$Words" (15 : Nat)) "java/lang/String" "value" "[B") Jvm.ClassFile.FieldType.byte),
 (Jvm.Cond.eq (Jvm.Term.length (Jvm.Term.field (Jvm.Term.string "BackwardProofs$Words" (15 : Nat)) "java/lang/String" "value" "[B")) (Jvm.Term.int (1 : Int32))),
 (Jvm.Cond.eq (Jvm.Term.elem (Jvm.Term.field (Jvm.Term.string "BackwardProofs$Words" (15 : Nat)) "java/lang/String" "value" "[B") (Jvm.Term.int (0 : Int32))) (Jvm.Term.int (97 : Int32))),
 (Jvm.Cond.exactly (Jvm.Term.string "BackwardProofs$Words" (17 : Nat)) "java/lang/String"),
 (Jvm.Cond.eq (Jvm.Term.field (Jvm.Term.string "BackwardProofs$Words" (17 : Nat)) "java/lang/String" "coder" "B") (Jvm.Term.int (0 : Int32))),
 (Jvm.Cond.arrayOf (Jvm.Term.field (Jvm.Term.string "BackwardProofs$Words" (17 : Nat)) "java/lang/String" "value" "[B") Jvm.ClassFile.FieldType.byte),
 (Jvm.Cond.eq (Jvm.Term.length (Jvm.Term.field (Jvm.Term.string "BackwardProofs$Words" (17 : Nat)) "java/lang/String" "value" "[B")) (Jvm.Term.int (1 : Int32))),
 (Jvm.Cond.eq (Jvm.Term.elem (Jvm.Term.field (Jvm.Term.string "BackwardProofs$Words" (17 : Nat)) "java/lang/String" "value" "[B") (Jvm.Term.int (0 : Int32))) (Jvm.Term.int (98 : Int32))),
 (Jvm.Cond.exactly (Jvm.Term.string "BackwardProofs$Words" (19 : Nat)) "java/lang/String"),
 (Jvm.Cond.eq (Jvm.Term.field (Jvm.Term.string "BackwardProofs$Words" (19 : Nat)) "java/lang/String" "coder" "B") (Jvm.Term.int (0 : Int32))),
 (Jvm.Cond.arrayOf (Jvm.Term.field (Jvm.Term.string "BackwardProofs$Words" (19 : Nat)) "java/lang/String" "value" "[B") Jvm.ClassFile.FieldType.byte),
 (Jvm.Cond.eq (Jvm.Term.length (Jvm.Term.field (Jvm.Term.string "BackwardProofs$Words" (19 : Nat)) "java/lang/String" "value" "[B")) (Jvm.Term.int (1 : Int32))),
 (Jvm.Cond.eq (Jvm.Term.elem (Jvm.Term.field (Jvm.Term.string "BackwardProofs$Words" (19 : Nat)) "java/lang/String" "value" "[B") (Jvm.Term.int (0 : Int32))) (Jvm.Term.int (99 : Int32))),
 (Jvm.Cond.exactly (Jvm.Term.string "BackwardProofs$Words" (21 : Nat)) "java/lang/String"),
 (Jvm.Cond.eq (Jvm.Term.field (Jvm.Term.string "BackwardProofs$Words" (21 : Nat)) "java/lang/String" "coder" "B") (Jvm.Term.int (0 : Int32))),
 (Jvm.Cond.arrayOf (Jvm.Term.field (Jvm.Term.string "BackwardProofs$Words" (21 : Nat)) "java/lang/String" "value" "[B") Jvm.ClassFile.FieldType.byte),
 (Jvm.Cond.eq (Jvm.Term.length (Jvm.Term.field (Jvm.Term.string "BackwardProofs$Words" (21 : Nat)) "java/lang/String" "value" "[B")) (Jvm.Term.int (4 : Int32))),
 (Jvm.Cond.eq (Jvm.Term.elem (Jvm.Term.field (Jvm.Term.string "BackwardProofs$Words" (21 : Nat)) "java/lang/String" "value" "[B") (Jvm.Term.int (0 : Int32))) (Jvm.Term.int (112 : Int32))),
 (Jvm.Cond.eq (Jvm.Term.elem (Jvm.Term.field (Jvm.Term.string "BackwardProofs$Words" (21 : Nat)) "java/lang/String" "value" "[B") (Jvm.Term.int (1 : Int32))) (Jvm.Term.int (108 : Int32))),
 (Jvm.Cond.eq (Jvm.Term.elem (Jvm.Term.field (Jvm.Term.string "BackwardProofs$Words" (21 : Nat)) "java/lang/String" "value" "[B") (Jvm.Term.int (2 : Int32))) (Jvm.Term.int (117 : Int32))),
 (Jvm.Cond.eq (Jvm.Term.elem (Jvm.Term.field (Jvm.Term.string "BackwardProofs$Words" (21 : Nat)) "java/lang/String" "value" "[B") (Jvm.Term.int (3 : Int32))) (Jvm.Term.int (115 : Int32))),
 (Jvm.Cond.exactly (Jvm.Term.string "BackwardProofs$Words" (23 : Nat)) "java/lang/String"),
 (Jvm.Cond.eq (Jvm.Term.field (Jvm.Term.string "BackwardProofs$Words" (23 : Nat)) "java/lang/String" "coder" "B") (Jvm.Term.int (0 : Int32))),
 (Jvm.Cond.arrayOf (Jvm.Term.field (Jvm.Term.string "BackwardProofs$Words" (23 : Nat)) "java/lang/String" "value" "[B") Jvm.ClassFile.FieldType.byte),
 (Jvm.Cond.eq (Jvm.Term.length (Jvm.Term.field (Jvm.Term.string "BackwardProofs$Words" (23 : Nat)) "java/lang/String" "value" "[B")) (Jvm.Term.int (5 : Int32))),
 (Jvm.Cond.eq (Jvm.Term.elem (Jvm.Term.field (Jvm.Term.string "BackwardProofs$Words" (23 : Nat)) "java/lang/String" "value" "[B") (Jvm.Term.int (0 : Int32))) (Jvm.Term.int (109 : Int32))),
 (Jvm.Cond.eq (Jvm.Term.elem (Jvm.Term.field (Jvm.Term.string "BackwardProofs$Words" (23 : Nat)) "java/lang/String" "value" "[B") (Jvm.Term.int (1 : Int32))) (Jvm.Term.int (105 : Int32))),
 (Jvm.Cond.eq (Jvm.Term.elem (Jvm.Term.field (Jvm.Term.string "BackwardProofs$Words" (23 : Nat)) "java/lang/String" "value" "[B") (Jvm.Term.int (2 : Int32))) (Jvm.Term.int (110 : Int32))),
 (Jvm.Cond.eq (Jvm.Term.elem (Jvm.Term.field (Jvm.Term.string "BackwardProofs$Words" (23 : Nat)) "java/lang/String" "value" "[B") (Jvm.Term.int (3 : Int32))) (Jvm.Term.int (117 : Int32))),
 (Jvm.Cond.eq (Jvm.Term.elem (Jvm.Term.field (Jvm.Term.string "BackwardProofs$Words" (23 : Nat)) "java/lang/String" "value" "[B") (Jvm.Term.int (4 : Int32))) (Jvm.Term.int (115 : Int32))),
 (Jvm.Cond.exactly (Jvm.Term.string "BackwardProofs$Words" (25 : Nat)) "java/lang/String"),
 (Jvm.Cond.eq (Jvm.Term.field (Jvm.Term.string "BackwardProofs$Words" (25 : Nat)) "java/lang/String" "coder" "B") (Jvm.Term.int (0 : Int32))),
 (Jvm.Cond.arrayOf (Jvm.Term.field (Jvm.Term.string "BackwardProofs$Words" (25 : Nat)) "java/lang/String" "value" "[B") Jvm.ClassFile.FieldType.byte),
 (Jvm.Cond.eq (Jvm.Term.length (Jvm.Term.field (Jvm.Term.string "BackwardProofs$Words" (25 : Nat)) "java/lang/String" "value" "[B")) (Jvm.Term.int (5 : Int32))),
 (Jvm.Cond.eq (Jvm.Term.elem (Jvm.Term.field (Jvm.Term.string "BackwardProofs$Words" (25 : Nat)) "java/lang/String" "value" "[B") (Jvm.Term.int (0 : Int32))) (Jvm.Term.int (116 : Int32))),
 (Jvm.Cond.eq (Jvm.Term.elem (Jvm.Term.field (Jvm.Term.string "BackwardProofs$Words" (25 : Nat)) "java/lang/String" "value" "[B") (Jvm.Term.int (1 : Int32))) (Jvm.Term.int (105 : Int32))),
 (Jvm.Cond.eq (Jvm.Term.elem (Jvm.Term.field (Jvm.Term.string "BackwardProofs$Words" (25 : Nat)) "java/lang/String" "value" "[B") (Jvm.Term.int (2 : Int32))) (Jvm.Term.int (109 : Int32))),
 (Jvm.Cond.eq (Jvm.Term.elem (Jvm.Term.field (Jvm.Term.string "BackwardProofs$Words" (25 : Nat)) "java/lang/String" "value" "[B") (Jvm.Term.int (3 : Int32))) (Jvm.Term.int (101 : Int32))),
 (Jvm.Cond.eq (Jvm.Term.elem (Jvm.Term.field (Jvm.Term.string "BackwardProofs$Words" (25 : Nat)) "java/lang/String" "value" "[B") (Jvm.Term.int (4 : Int32))) (Jvm.Term.int (115 : Int32))),
 (Jvm.Cond.exactly (Jvm.Term.string "BackwardProofs$Words" (27 : Nat)) "java/lang/String"),
 (Jvm.Cond.eq (Jvm.Term.field (Jvm.Term.string "BackwardProofs$Words" (27 : Nat)) "java/lang/String" "coder" "B") (Jvm.Term.int (0 : Int32))),
 (Jvm.Cond.arrayOf (Jvm.Term.field (Jvm.Term.string "BackwardProofs$Words" (27 : Nat)) "java/lang/String" "value" "[B") Jvm.ClassFile.FieldType.byte),
 (Jvm.Cond.eq (Jvm.Term.length (Jvm.Term.field (Jvm.Term.string "BackwardProofs$Words" (27 : Nat)) "java/lang/String" "value" "[B")) (Jvm.Term.int (4 : Int32))),
 (Jvm.Cond.eq (Jvm.Term.elem (Jvm.Term.field (Jvm.Term.string "BackwardProofs$Words" (27 : Nat)) "java/lang/String" "value" "[B") (Jvm.Term.int (0 : Int32))) (Jvm.Term.int (116 : Int32))),
 (Jvm.Cond.eq (Jvm.Term.elem (Jvm.Term.field (Jvm.Term.string "BackwardProofs$Words" (27 : Nat)) "java/lang/String" "value" "[B") (Jvm.Term.int (1 : Int32))) (Jvm.Term.int (114 : Int32))),
 (Jvm.Cond.eq (Jvm.Term.elem (Jvm.Term.field (Jvm.Term.string "BackwardProofs$Words" (27 : Nat)) "java/lang/String" "value" "[B") (Jvm.Term.int (2 : Int32))) (Jvm.Term.int (117 : Int32))),
 (Jvm.Cond.eq (Jvm.Term.elem (Jvm.Term.field (Jvm.Term.string "BackwardProofs$Words" (27 : Nat)) "java/lang/String" "value" "[B") (Jvm.Term.int (3 : Int32))) (Jvm.Term.int (101 : Int32))),
 (Jvm.Cond.exactly (Jvm.Term.string "BackwardProofs$Words" (29 : Nat)) "java/lang/String"),
 (Jvm.Cond.eq (Jvm.Term.field (Jvm.Term.string "BackwardProofs$Words" (29 : Nat)) "java/lang/String" "coder" "B") (Jvm.Term.int (0 : Int32))),
 (Jvm.Cond.arrayOf (Jvm.Term.field (Jvm.Term.string "BackwardProofs$Words" (29 : Nat)) "java/lang/String" "value" "[B") Jvm.ClassFile.FieldType.byte),
 (Jvm.Cond.eq (Jvm.Term.length (Jvm.Term.field (Jvm.Term.string "BackwardProofs$Words" (29 : Nat)) "java/lang/String" "value" "[B")) (Jvm.Term.int (5 : Int32))),
 (Jvm.Cond.eq (Jvm.Term.elem (Jvm.Term.field (Jvm.Term.string "BackwardProofs$Words" (29 : Nat)) "java/lang/String" "value" "[B") (Jvm.Term.int (0 : Int32))) (Jvm.Term.int (102 : Int32))),
 (Jvm.Cond.eq (Jvm.Term.elem (Jvm.Term.field (Jvm.Term.string "BackwardProofs$Words" (29 : Nat)) "java/lang/String" "value" "[B") (Jvm.Term.int (1 : Int32))) (Jvm.Term.int (97 : Int32))),
 (Jvm.Cond.eq (Jvm.Term.elem (Jvm.Term.field (Jvm.Term.string "BackwardProofs$Words" (29 : Nat)) "java/lang/String" "value" "[B") (Jvm.Term.int (2 : Int32))) (Jvm.Term.int (108 : Int32))),
 (Jvm.Cond.eq (Jvm.Term.elem (Jvm.Term.field (Jvm.Term.string "BackwardProofs$Words" (29 : Nat)) "java/lang/String" "value" "[B") (Jvm.Term.int (3 : Int32))) (Jvm.Term.int (115 : Int32))),
 (Jvm.Cond.eq (Jvm.Term.elem (Jvm.Term.field (Jvm.Term.string "BackwardProofs$Words" (29 : Nat)) "java/lang/String" "value" "[B") (Jvm.Term.int (4 : Int32))) (Jvm.Term.int (101 : Int32))),
 (Jvm.Cond.exactly (Jvm.Term.string "BackwardProofs$Words" (31 : Nat)) "java/lang/String"),
 (Jvm.Cond.eq (Jvm.Term.field (Jvm.Term.string "BackwardProofs$Words" (31 : Nat)) "java/lang/String" "coder" "B") (Jvm.Term.int (0 : Int32))),
 (Jvm.Cond.arrayOf (Jvm.Term.field (Jvm.Term.string "BackwardProofs$Words" (31 : Nat)) "java/lang/String" "value" "[B") Jvm.ClassFile.FieldType.byte),
 (Jvm.Cond.eq (Jvm.Term.length (Jvm.Term.field (Jvm.Term.string "BackwardProofs$Words" (31 : Nat)) "java/lang/String" "value" "[B")) (Jvm.Term.int (2 : Int32))),
 (Jvm.Cond.eq (Jvm.Term.elem (Jvm.Term.field (Jvm.Term.string "BackwardProofs$Words" (31 : Nat)) "java/lang/String" "value" "[B") (Jvm.Term.int (0 : Int32))) (Jvm.Term.int (101 : Int32))),
 (Jvm.Cond.eq (Jvm.Term.elem (Jvm.Term.field (Jvm.Term.string "BackwardProofs$Words" (31 : Nat)) "java/lang/String" "value" "[B") (Jvm.Term.int (1 : Int32))) (Jvm.Term.int (113 : Int32))),
 (Jvm.Cond.exactly (Jvm.Term.string "BackwardProofs$Words" (33 : Nat)) "java/lang/String"),
 (Jvm.Cond.eq (Jvm.Term.field (Jvm.Term.string "BackwardProofs$Words" (33 : Nat)) "java/lang/String" "coder" "B") (Jvm.Term.int (0 : Int32))),
 (Jvm.Cond.arrayOf (Jvm.Term.field (Jvm.Term.string "BackwardProofs$Words" (33 : Nat)) "java/lang/String" "value" "[B") Jvm.ClassFile.FieldType.byte),
 (Jvm.Cond.eq (Jvm.Term.length (Jvm.Term.field (Jvm.Term.string "BackwardProofs$Words" (33 : Nat)) "java/lang/String" "value" "[B")) (Jvm.Term.int (2 : Int32))),
 (Jvm.Cond.eq (Jvm.Term.elem (Jvm.Term.field (Jvm.Term.string "BackwardProofs$Words" (33 : Nat)) "java/lang/String" "value" "[B") (Jvm.Term.int (0 : Int32))) (Jvm.Term.int (108 : Int32))),
 (Jvm.Cond.eq (Jvm.Term.elem (Jvm.Term.field (Jvm.Term.string "BackwardProofs$Words" (33 : Nat)) "java/lang/String" "value" "[B") (Jvm.Term.int (1 : Int32))) (Jvm.Term.int (116 : Int32))),
 (Jvm.Cond.exactly (Jvm.Term.string "BackwardProofs$Words" (35 : Nat)) "java/lang/String"),
 (Jvm.Cond.eq (Jvm.Term.field (Jvm.Term.string "BackwardProofs$Words" (35 : Nat)) "java/lang/String" "coder" "B") (Jvm.Term.int (0 : Int32))),
 (Jvm.Cond.arrayOf (Jvm.Term.field (Jvm.Term.string "BackwardProofs$Words" (35 : Nat)) "java/lang/String" "value" "[B") Jvm.ClassFile.FieldType.byte),
 (Jvm.Cond.eq (Jvm.Term.length (Jvm.Term.field (Jvm.Term.string "BackwardProofs$Words" (35 : Nat)) "java/lang/String" "value" "[B")) (Jvm.Term.int (3 : Int32))),
 (Jvm.Cond.eq (Jvm.Term.elem (Jvm.Term.field (Jvm.Term.string "BackwardProofs$Words" (35 : Nat)) "java/lang/String" "value" "[B") (Jvm.Term.int (0 : Int32))) (Jvm.Term.int (110 : Int32))),
 (Jvm.Cond.eq (Jvm.Term.elem (Jvm.Term.field (Jvm.Term.string "BackwardProofs$Words" (35 : Nat)) "java/lang/String" "value" "[B") (Jvm.Term.int (1 : Int32))) (Jvm.Term.int (111 : Int32))),
 (Jvm.Cond.eq (Jvm.Term.elem (Jvm.Term.field (Jvm.Term.string "BackwardProofs$Words" (35 : Nat)) "java/lang/String" "value" "[B") (Jvm.Term.int (2 : Int32))) (Jvm.Term.int (116 : Int32))),
 (Jvm.Cond.exactly (Jvm.Term.string "BackwardProofs$Words" (37 : Nat)) "java/lang/String"),
 (Jvm.Cond.eq (Jvm.Term.field (Jvm.Term.string "BackwardProofs$Words" (37 : Nat)) "java/lang/String" "coder" "B") (Jvm.Term.int (0 : Int32))),
 (Jvm.Cond.arrayOf (Jvm.Term.field (Jvm.Term.string "BackwardProofs$Words" (37 : Nat)) "java/lang/String" "value" "[B") Jvm.ClassFile.FieldType.byte),
 (Jvm.Cond.eq (Jvm.Term.length (Jvm.Term.field (Jvm.Term.string "BackwardProofs$Words" (37 : Nat)) "java/lang/String" "value" "[B")) (Jvm.Term.int (3 : Int32))),
 (Jvm.Cond.eq (Jvm.Term.elem (Jvm.Term.field (Jvm.Term.string "BackwardProofs$Words" (37 : Nat)) "java/lang/String" "value" "[B") (Jvm.Term.int (0 : Int32))) (Jvm.Term.int (97 : Int32))),
 (Jvm.Cond.eq (Jvm.Term.elem (Jvm.Term.field (Jvm.Term.string "BackwardProofs$Words" (37 : Nat)) "java/lang/String" "value" "[B") (Jvm.Term.int (1 : Int32))) (Jvm.Term.int (110 : Int32))),
 (Jvm.Cond.eq (Jvm.Term.elem (Jvm.Term.field (Jvm.Term.string "BackwardProofs$Words" (37 : Nat)) "java/lang/String" "value" "[B") (Jvm.Term.int (2 : Int32))) (Jvm.Term.int (100 : Int32))),
 (Jvm.Cond.exactly (Jvm.Term.string "BackwardProofs$Words" (39 : Nat)) "java/lang/String"),
 (Jvm.Cond.eq (Jvm.Term.field (Jvm.Term.string "BackwardProofs$Words" (39 : Nat)) "java/lang/String" "coder" "B") (Jvm.Term.int (0 : Int32))),
 (Jvm.Cond.arrayOf (Jvm.Term.field (Jvm.Term.string "BackwardProofs$Words" (39 : Nat)) "java/lang/String" "value" "[B") Jvm.ClassFile.FieldType.byte),
 (Jvm.Cond.eq (Jvm.Term.length (Jvm.Term.field (Jvm.Term.string "BackwardProofs$Words" (39 : Nat)) "java/lang/String" "value" "[B")) (Jvm.Term.int (2 : Int32))),
 (Jvm.Cond.eq (Jvm.Term.elem (Jvm.Term.field (Jvm.Term.string "BackwardProofs$Words" (39 : Nat)) "java/lang/String" "value" "[B") (Jvm.Term.int (0 : Int32))) (Jvm.Term.int (111 : Int32))),
 (Jvm.Cond.eq (Jvm.Term.elem (Jvm.Term.field (Jvm.Term.string "BackwardProofs$Words" (39 : Nat)) "java/lang/String" "value" "[B") (Jvm.Term.int (1 : Int32))) (Jvm.Term.int (114 : Int32))),
 (Jvm.Cond.exactly (Jvm.Term.string "BackwardProofs$Words" (41 : Nat)) "java/lang/String"),
 (Jvm.Cond.eq (Jvm.Term.field (Jvm.Term.string "BackwardProofs$Words" (41 : Nat)) "java/lang/String" "coder" "B") (Jvm.Term.int (0 : Int32))),
 (Jvm.Cond.arrayOf (Jvm.Term.field (Jvm.Term.string "BackwardProofs$Words" (41 : Nat)) "java/lang/String" "value" "[B") Jvm.ClassFile.FieldType.byte),
 (Jvm.Cond.eq (Jvm.Term.length (Jvm.Term.field (Jvm.Term.string "BackwardProofs$Words" (41 : Nat)) "java/lang/String" "value" "[B")) (Jvm.Term.int (3 : Int32))),
 (Jvm.Cond.eq (Jvm.Term.elem (Jvm.Term.field (Jvm.Term.string "BackwardProofs$Words" (41 : Nat)) "java/lang/String" "value" "[B") (Jvm.Term.int (0 : Int32))) (Jvm.Term.int (115 : Int32))),
 (Jvm.Cond.eq (Jvm.Term.elem (Jvm.Term.field (Jvm.Term.string "BackwardProofs$Words" (41 : Nat)) "java/lang/String" "value" "[B") (Jvm.Term.int (1 : Int32))) (Jvm.Term.int (101 : Int32))),
 (Jvm.Cond.eq (Jvm.Term.elem (Jvm.Term.field (Jvm.Term.string "BackwardProofs$Words" (41 : Nat)) "java/lang/String" "value" "[B") (Jvm.Term.int (2 : Int32))) (Jvm.Term.int (116 : Int32))),
 (Jvm.Cond.exactly (Jvm.Term.string "BackwardProofs$Words" (43 : Nat)) "java/lang/String"),
 (Jvm.Cond.eq (Jvm.Term.field (Jvm.Term.string "BackwardProofs$Words" (43 : Nat)) "java/lang/String" "coder" "B") (Jvm.Term.int (0 : Int32))),
 (Jvm.Cond.arrayOf (Jvm.Term.field (Jvm.Term.string "BackwardProofs$Words" (43 : Nat)) "java/lang/String" "value" "[B") Jvm.ClassFile.FieldType.byte),
 (Jvm.Cond.eq (Jvm.Term.length (Jvm.Term.field (Jvm.Term.string "BackwardProofs$Words" (43 : Nat)) "java/lang/String" "value" "[B")) (Jvm.Term.int (2 : Int32))),
 (Jvm.Cond.eq (Jvm.Term.elem (Jvm.Term.field (Jvm.Term.string "BackwardProofs$Words" (43 : Nat)) "java/lang/String" "value" "[B") (Jvm.Term.int (0 : Int32))) (Jvm.Term.int (105 : Int32))),
 (Jvm.Cond.eq (Jvm.Term.elem (Jvm.Term.field (Jvm.Term.string "BackwardProofs$Words" (43 : Nat)) "java/lang/String" "value" "[B") (Jvm.Term.int (1 : Int32))) (Jvm.Term.int (102 : Int32))),
 (Jvm.Cond.exactly (Jvm.Term.string "BackwardProofs$Words" (45 : Nat)) "java/lang/String"),
 (Jvm.Cond.eq (Jvm.Term.field (Jvm.Term.string "BackwardProofs$Words" (45 : Nat)) "java/lang/String" "coder" "B") (Jvm.Term.int (0 : Int32))),
 (Jvm.Cond.arrayOf (Jvm.Term.field (Jvm.Term.string "BackwardProofs$Words" (45 : Nat)) "java/lang/String" "value" "[B") Jvm.ClassFile.FieldType.byte),
 (Jvm.Cond.eq (Jvm.Term.length (Jvm.Term.field (Jvm.Term.string "BackwardProofs$Words" (45 : Nat)) "java/lang/String" "value" "[B")) (Jvm.Term.int (5 : Int32))),
 (Jvm.Cond.eq (Jvm.Term.elem (Jvm.Term.field (Jvm.Term.string "BackwardProofs$Words" (45 : Nat)) "java/lang/String" "value" "[B") (Jvm.Term.int (0 : Int32))) (Jvm.Term.int (119 : Int32))),
 (Jvm.Cond.eq (Jvm.Term.elem (Jvm.Term.field (Jvm.Term.string "BackwardProofs$Words" (45 : Nat)) "java/lang/String" "value" "[B") (Jvm.Term.int (1 : Int32))) (Jvm.Term.int (104 : Int32))),
 (Jvm.Cond.eq (Jvm.Term.elem (Jvm.Term.field (Jvm.Term.string "BackwardProofs$Words" (45 : Nat)) "java/lang/String" "value" "[B") (Jvm.Term.int (2 : Int32))) (Jvm.Term.int (105 : Int32))),
 (Jvm.Cond.eq (Jvm.Term.elem (Jvm.Term.field (Jvm.Term.string "BackwardProofs$Words" (45 : Nat)) "java/lang/String" "value" "[B") (Jvm.Term.int (3 : Int32))) (Jvm.Term.int (108 : Int32))),
 (Jvm.Cond.eq (Jvm.Term.elem (Jvm.Term.field (Jvm.Term.string "BackwardProofs$Words" (45 : Nat)) "java/lang/String" "value" "[B") (Jvm.Term.int (4 : Int32))) (Jvm.Term.int (101 : Int32))),
 (Jvm.Cond.exactly (Jvm.Term.string "BackwardProofs$Words" (47 : Nat)) "java/lang/String"),
 (Jvm.Cond.eq (Jvm.Term.field (Jvm.Term.string "BackwardProofs$Words" (47 : Nat)) "java/lang/String" "coder" "B") (Jvm.Term.int (0 : Int32))),
 (Jvm.Cond.arrayOf (Jvm.Term.field (Jvm.Term.string "BackwardProofs$Words" (47 : Nat)) "java/lang/String" "value" "[B") Jvm.ClassFile.FieldType.byte),
 (Jvm.Cond.eq (Jvm.Term.length (Jvm.Term.field (Jvm.Term.string "BackwardProofs$Words" (47 : Nat)) "java/lang/String" "value" "[B")) (Jvm.Term.int (4 : Int32))),
 (Jvm.Cond.eq (Jvm.Term.elem (Jvm.Term.field (Jvm.Term.string "BackwardProofs$Words" (47 : Nat)) "java/lang/String" "value" "[B") (Jvm.Term.int (0 : Int32))) (Jvm.Term.int (104 : Int32))),
 (Jvm.Cond.eq (Jvm.Term.elem (Jvm.Term.field (Jvm.Term.string "BackwardProofs$Words" (47 : Nat)) "java/lang/String" "value" "[B") (Jvm.Term.int (1 : Int32))) (Jvm.Term.int (111 : Int32))),
 (Jvm.Cond.eq (Jvm.Term.elem (Jvm.Term.field (Jvm.Term.string "BackwardProofs$Words" (47 : Nat)) "java/lang/String" "value" "[B") (Jvm.Term.int (2 : Int32))) (Jvm.Term.int (108 : Int32))),
 (Jvm.Cond.eq (Jvm.Term.elem (Jvm.Term.field (Jvm.Term.string "BackwardProofs$Words" (47 : Nat)) "java/lang/String" "value" "[B") (Jvm.Term.int (3 : Int32))) (Jvm.Term.int (101 : Int32))),
 (Jvm.Cond.exactly (Jvm.Term.string "BackwardProofs$Words" (49 : Nat)) "java/lang/String"),
 (Jvm.Cond.eq (Jvm.Term.field (Jvm.Term.string "BackwardProofs$Words" (49 : Nat)) "java/lang/String" "coder" "B") (Jvm.Term.int (0 : Int32))),
 (Jvm.Cond.arrayOf (Jvm.Term.field (Jvm.Term.string "BackwardProofs$Words" (49 : Nat)) "java/lang/String" "value" "[B") Jvm.ClassFile.FieldType.byte),
 (Jvm.Cond.eq (Jvm.Term.length (Jvm.Term.field (Jvm.Term.string "BackwardProofs$Words" (49 : Nat)) "java/lang/String" "value" "[B")) (Jvm.Term.int (4 : Int32))),
 (Jvm.Cond.eq (Jvm.Term.elem (Jvm.Term.field (Jvm.Term.string "BackwardProofs$Words" (49 : Nat)) "java/lang/String" "value" "[B") (Jvm.Term.int (0 : Int32))) (Jvm.Term.int (101 : Int32))),
 (Jvm.Cond.eq (Jvm.Term.elem (Jvm.Term.field (Jvm.Term.string "BackwardProofs$Words" (49 : Nat)) "java/lang/String" "value" "[B") (Jvm.Term.int (1 : Int32))) (Jvm.Term.int (108 : Int32))),
 (Jvm.Cond.eq (Jvm.Term.elem (Jvm.Term.field (Jvm.Term.string "BackwardProofs$Words" (49 : Nat)) "java/lang/String" "value" "[B") (Jvm.Term.int (2 : Int32))) (Jvm.Term.int (115 : Int32))),
 (Jvm.Cond.eq (Jvm.Term.elem (Jvm.Term.field (Jvm.Term.string "BackwardProofs$Words" (49 : Nat)) "java/lang/String" "value" "[B") (Jvm.Term.int (3 : Int32))) (Jvm.Term.int (101 : Int32))),
 (Jvm.Cond.exactly (Jvm.Term.string "BackwardProofs$Words" (51 : Nat)) "java/lang/String"),
 (Jvm.Cond.eq (Jvm.Term.field (Jvm.Term.string "BackwardProofs$Words" (51 : Nat)) "java/lang/String" "coder" "B") (Jvm.Term.int (0 : Int32))),
 (Jvm.Cond.arrayOf (Jvm.Term.field (Jvm.Term.string "BackwardProofs$Words" (51 : Nat)) "java/lang/String" "value" "[B") Jvm.ClassFile.FieldType.byte),
 (Jvm.Cond.eq (Jvm.Term.length (Jvm.Term.field (Jvm.Term.string "BackwardProofs$Words" (51 : Nat)) "java/lang/String" "value" "[B")) (Jvm.Term.int (3 : Int32))),
 (Jvm.Cond.eq (Jvm.Term.elem (Jvm.Term.field (Jvm.Term.string "BackwardProofs$Words" (51 : Nat)) "java/lang/String" "value" "[B") (Jvm.Term.int (0 : Int32))) (Jvm.Term.int (101 : Int32))),
 (Jvm.Cond.eq (Jvm.Term.elem (Jvm.Term.field (Jvm.Term.string "BackwardProofs$Words" (51 : Nat)) "java/lang/String" "value" "[B") (Jvm.Term.int (1 : Int32))) (Jvm.Term.int (110 : Int32))),
 (Jvm.Cond.eq (Jvm.Term.elem (Jvm.Term.field (Jvm.Term.string "BackwardProofs$Words" (51 : Nat)) "java/lang/String" "value" "[B") (Jvm.Term.int (2 : Int32))) (Jvm.Term.int (100 : Int32))),
 (Jvm.Cond.exactly (Jvm.Term.string "BackwardProofs$Words" (53 : Nat)) "java/lang/String"),
 (Jvm.Cond.eq (Jvm.Term.field (Jvm.Term.string "BackwardProofs$Words" (53 : Nat)) "java/lang/String" "coder" "B") (Jvm.Term.int (0 : Int32))),
 (Jvm.Cond.arrayOf (Jvm.Term.field (Jvm.Term.string "BackwardProofs$Words" (53 : Nat)) "java/lang/String" "value" "[B") Jvm.ClassFile.FieldType.byte),
 (Jvm.Cond.eq (Jvm.Term.length (Jvm.Term.field (Jvm.Term.string "BackwardProofs$Words" (53 : Nat)) "java/lang/String" "value" "[B")) (Jvm.Term.int (4 : Int32))),
 (Jvm.Cond.eq (Jvm.Term.elem (Jvm.Term.field (Jvm.Term.string "BackwardProofs$Words" (53 : Nat)) "java/lang/String" "value" "[B") (Jvm.Term.int (0 : Int32))) (Jvm.Term.int (107 : Int32))),
 (Jvm.Cond.eq (Jvm.Term.elem (Jvm.Term.field (Jvm.Term.string "BackwardProofs$Words" (53 : Nat)) "java/lang/String" "value" "[B") (Jvm.Term.int (1 : Int32))) (Jvm.Term.int (101 : Int32))),
 (Jvm.Cond.eq (Jvm.Term.elem (Jvm.Term.field (Jvm.Term.string "BackwardProofs$Words" (53 : Nat)) "java/lang/String" "value" "[B") (Jvm.Term.int (2 : Int32))) (Jvm.Term.int (101 : Int32))),
 (Jvm.Cond.eq (Jvm.Term.elem (Jvm.Term.field (Jvm.Term.string "BackwardProofs$Words" (53 : Nat)) "java/lang/String" "value" "[B") (Jvm.Term.int (3 : Int32))) (Jvm.Term.int (112 : Int32))),
 (Jvm.Cond.exactly (Jvm.Term.string "BackwardProofs$Words" (55 : Nat)) "java/lang/String"),
 (Jvm.Cond.eq (Jvm.Term.field (Jvm.Term.string "BackwardProofs$Words" (55 : Nat)) "java/lang/String" "coder" "B") (Jvm.Term.int (0 : Int32))),
 (Jvm.Cond.arrayOf (Jvm.Term.field (Jvm.Term.string "BackwardProofs$Words" (55 : Nat)) "java/lang/String" "value" "[B") Jvm.ClassFile.FieldType.byte),
 (Jvm.Cond.eq (Jvm.Term.length (Jvm.Term.field (Jvm.Term.string "BackwardProofs$Words" (55 : Nat)) "java/lang/String" "value" "[B")) (Jvm.Term.int (4 : Int32))),
 (Jvm.Cond.eq (Jvm.Term.elem (Jvm.Term.field (Jvm.Term.string "BackwardProofs$Words" (55 : Nat)) "java/lang/String" "value" "[B") (Jvm.Term.int (0 : Int32))) (Jvm.Term.int (108 : Int32))),
 (Jvm.Cond.eq (Jvm.Term.elem (Jvm.Term.field (Jvm.Term.string "BackwardProofs$Words" (55 : Nat)) "java/lang/String" "value" "[B") (Jvm.Term.int (1 : Int32))) (Jvm.Term.int (101 : Int32))),
 (Jvm.Cond.eq (Jvm.Term.elem (Jvm.Term.field (Jvm.Term.string "BackwardProofs$Words" (55 : Nat)) "java/lang/String" "value" "[B") (Jvm.Term.int (2 : Int32))) (Jvm.Term.int (115 : Int32))),
 (Jvm.Cond.eq (Jvm.Term.elem (Jvm.Term.field (Jvm.Term.string "BackwardProofs$Words" (55 : Nat)) "java/lang/String" "value" "[B") (Jvm.Term.int (3 : Int32))) (Jvm.Term.int (115 : Int32))),
 (Jvm.Cond.exactly (Jvm.Term.string "BackwardProofs$Words" (57 : Nat)) "java/lang/String"),
 (Jvm.Cond.eq (Jvm.Term.field (Jvm.Term.string "BackwardProofs$Words" (57 : Nat)) "java/lang/String" "coder" "B") (Jvm.Term.int (0 : Int32))),
 (Jvm.Cond.arrayOf (Jvm.Term.field (Jvm.Term.string "BackwardProofs$Words" (57 : Nat)) "java/lang/String" "value" "[B") Jvm.ClassFile.FieldType.byte),
 (Jvm.Cond.eq (Jvm.Term.length (Jvm.Term.field (Jvm.Term.string "BackwardProofs$Words" (57 : Nat)) "java/lang/String" "value" "[B")) (Jvm.Term.int (5 : Int32))),
 (Jvm.Cond.eq (Jvm.Term.elem (Jvm.Term.field (Jvm.Term.string "BackwardProofs$Words" (57 : Nat)) "java/lang/String" "value" "[B") (Jvm.Term.int (0 : Int32))) (Jvm.Term.int (112 : Int32))),
 (Jvm.Cond.eq (Jvm.Term.elem (Jvm.Term.field (Jvm.Term.string "BackwardProofs$Words" (57 : Nat)) "java/lang/String" "value" "[B") (Jvm.Term.int (1 : Int32))) (Jvm.Term.int (114 : Int32))),
 (Jvm.Cond.eq (Jvm.Term.elem (Jvm.Term.field (Jvm.Term.string "BackwardProofs$Words" (57 : Nat)) "java/lang/String" "value" "[B") (Jvm.Term.int (2 : Int32))) (Jvm.Term.int (111 : Int32))),
 (Jvm.Cond.eq (Jvm.Term.elem (Jvm.Term.field (Jvm.Term.string "BackwardProofs$Words" (57 : Nat)) "java/lang/String" "value" "[B") (Jvm.Term.int (3 : Int32))) (Jvm.Term.int (111 : Int32))),
 (Jvm.Cond.eq (Jvm.Term.elem (Jvm.Term.field (Jvm.Term.string "BackwardProofs$Words" (57 : Nat)) "java/lang/String" "value" "[B") (Jvm.Term.int (4 : Int32))) (Jvm.Term.int (102 : Int32))),
 (Jvm.Cond.exactly (Jvm.Term.string "BackwardProofs$Words" (59 : Nat)) "java/lang/String"),
 (Jvm.Cond.eq (Jvm.Term.field (Jvm.Term.string "BackwardProofs$Words" (59 : Nat)) "java/lang/String" "coder" "B") (Jvm.Term.int (0 : Int32))),
 (Jvm.Cond.arrayOf (Jvm.Term.field (Jvm.Term.string "BackwardProofs$Words" (59 : Nat)) "java/lang/String" "value" "[B") Jvm.ClassFile.FieldType.byte),
 (Jvm.Cond.eq (Jvm.Term.length (Jvm.Term.field (Jvm.Term.string "BackwardProofs$Words" (59 : Nat)) "java/lang/String" "value" "[B")) (Jvm.Term.int (0 : Int32))),
 (Jvm.Cond.exactly (Jvm.Term.string "BackwardProofsLaw" (98 : Nat)) "java/lang/String"),
 (Jvm.Cond.eq (Jvm.Term.field (Jvm.Term.string "BackwardProofsLaw" (98 : Nat)) "java/lang/String" "coder" "B") (Jvm.Term.int (0 : Int32))),
 (Jvm.Cond.arrayOf (Jvm.Term.field (Jvm.Term.string "BackwardProofsLaw" (98 : Nat)) "java/lang/String" "value" "[B") Jvm.ClassFile.FieldType.byte),
 (Jvm.Cond.eq (Jvm.Term.length (Jvm.Term.field (Jvm.Term.string "BackwardProofsLaw" (98 : Nat)) "java/lang/String" "value" "[B")) (Jvm.Term.int (5 : Int32))),
 (Jvm.Cond.eq (Jvm.Term.elem (Jvm.Term.field (Jvm.Term.string "BackwardProofsLaw" (98 : Nat)) "java/lang/String" "value" "[B") (Jvm.Term.int (0 : Int32))) (Jvm.Term.int (112 : Int32))),
 (Jvm.Cond.eq (Jvm.Term.elem (Jvm.Term.field (Jvm.Term.string "BackwardProofsLaw" (98 : Nat)) "java/lang/String" "value" "[B") (Jvm.Term.int (1 : Int32))) (Jvm.Term.int (114 : Int32))),
 (Jvm.Cond.eq (Jvm.Term.elem (Jvm.Term.field (Jvm.Term.string "BackwardProofsLaw" (98 : Nat)) "java/lang/String" "value" "[B") (Jvm.Term.int (2 : Int32))) (Jvm.Term.int (111 : Int32))),
 (Jvm.Cond.eq (Jvm.Term.elem (Jvm.Term.field (Jvm.Term.string "BackwardProofsLaw" (98 : Nat)) "java/lang/String" "value" "[B") (Jvm.Term.int (3 : Int32))) (Jvm.Term.int (111 : Int32))),
 (Jvm.Cond.eq (Jvm.Term.elem (Jvm.Term.field (Jvm.Term.string "BackwardProofsLaw" (98 : Nat)) "java/lang/String" "value" "[B") (Jvm.Term.int (4 : Int32))) (Jvm.Term.int (102 : Int32))),
 (Jvm.Cond.eq (Jvm.Term.string "BackwardProofs$Words" (57 : Nat)) (Jvm.Term.string "BackwardProofsLaw" (98 : Nat))),
 (Jvm.Cond.exactly (Jvm.Term.string "BackwardProofsLaw" (66 : Nat)) "java/lang/String"),
 (Jvm.Cond.eq (Jvm.Term.field (Jvm.Term.string "BackwardProofsLaw" (66 : Nat)) "java/lang/String" "coder" "B") (Jvm.Term.int (0 : Int32))),
 (Jvm.Cond.arrayOf (Jvm.Term.field (Jvm.Term.string "BackwardProofsLaw" (66 : Nat)) "java/lang/String" "value" "[B") Jvm.ClassFile.FieldType.byte),
 (Jvm.Cond.eq (Jvm.Term.length (Jvm.Term.field (Jvm.Term.string "BackwardProofsLaw" (66 : Nat)) "java/lang/String" "value" "[B")) (Jvm.Term.int (5 : Int32))),
 (Jvm.Cond.eq (Jvm.Term.elem (Jvm.Term.field (Jvm.Term.string "BackwardProofsLaw" (66 : Nat)) "java/lang/String" "value" "[B") (Jvm.Term.int (0 : Int32))) (Jvm.Term.int (32 : Int32))),
 (Jvm.Cond.eq (Jvm.Term.elem (Jvm.Term.field (Jvm.Term.string "BackwardProofsLaw" (66 : Nat)) "java/lang/String" "value" "[B") (Jvm.Term.int (1 : Int32))) (Jvm.Term.int (112 : Int32))),
 (Jvm.Cond.eq (Jvm.Term.elem (Jvm.Term.field (Jvm.Term.string "BackwardProofsLaw" (66 : Nat)) "java/lang/String" "value" "[B") (Jvm.Term.int (2 : Int32))) (Jvm.Term.int (108 : Int32))),
 (Jvm.Cond.eq (Jvm.Term.elem (Jvm.Term.field (Jvm.Term.string "BackwardProofsLaw" (66 : Nat)) "java/lang/String" "value" "[B") (Jvm.Term.int (3 : Int32))) (Jvm.Term.int (117 : Int32))),
 (Jvm.Cond.eq (Jvm.Term.elem (Jvm.Term.field (Jvm.Term.string "BackwardProofsLaw" (66 : Nat)) "java/lang/String" "value" "[B") (Jvm.Term.int (4 : Int32))) (Jvm.Term.int (115 : Int32))),
 (Jvm.Cond.exactly (Jvm.Term.string "BackwardProofsLaw" (68 : Nat)) "java/lang/String"),
 (Jvm.Cond.eq (Jvm.Term.field (Jvm.Term.string "BackwardProofsLaw" (68 : Nat)) "java/lang/String" "coder" "B") (Jvm.Term.int (0 : Int32))),
 (Jvm.Cond.arrayOf (Jvm.Term.field (Jvm.Term.string "BackwardProofsLaw" (68 : Nat)) "java/lang/String" "value" "[B") Jvm.ClassFile.FieldType.byte),
 (Jvm.Cond.eq (Jvm.Term.length (Jvm.Term.field (Jvm.Term.string "BackwardProofsLaw" (68 : Nat)) "java/lang/String" "value" "[B")) (Jvm.Term.int (6 : Int32))),
 (Jvm.Cond.eq (Jvm.Term.elem (Jvm.Term.field (Jvm.Term.string "BackwardProofsLaw" (68 : Nat)) "java/lang/String" "value" "[B") (Jvm.Term.int (0 : Int32))) (Jvm.Term.int (32 : Int32))),
 (Jvm.Cond.eq (Jvm.Term.elem (Jvm.Term.field (Jvm.Term.string "BackwardProofsLaw" (68 : Nat)) "java/lang/String" "value" "[B") (Jvm.Term.int (1 : Int32))) (Jvm.Term.int (109 : Int32))),
 (Jvm.Cond.eq (Jvm.Term.elem (Jvm.Term.field (Jvm.Term.string "BackwardProofsLaw" (68 : Nat)) "java/lang/String" "value" "[B") (Jvm.Term.int (2 : Int32))) (Jvm.Term.int (105 : Int32))),
 (Jvm.Cond.eq (Jvm.Term.elem (Jvm.Term.field (Jvm.Term.string "BackwardProofsLaw" (68 : Nat)) "java/lang/String" "value" "[B") (Jvm.Term.int (3 : Int32))) (Jvm.Term.int (110 : Int32))),
 (Jvm.Cond.eq (Jvm.Term.elem (Jvm.Term.field (Jvm.Term.string "BackwardProofsLaw" (68 : Nat)) "java/lang/String" "value" "[B") (Jvm.Term.int (4 : Int32))) (Jvm.Term.int (117 : Int32))),
 (Jvm.Cond.eq (Jvm.Term.elem (Jvm.Term.field (Jvm.Term.string "BackwardProofsLaw" (68 : Nat)) "java/lang/String" "value" "[B") (Jvm.Term.int (5 : Int32))) (Jvm.Term.int (115 : Int32))),
 (Jvm.Cond.exactly (Jvm.Term.string "BackwardProofsLaw" (70 : Nat)) "java/lang/String"),
 (Jvm.Cond.eq (Jvm.Term.field (Jvm.Term.string "BackwardProofsLaw" (70 : Nat)) "java/lang/String" "coder" "B") (Jvm.Term.int (0 : Int32))),
 (Jvm.Cond.arrayOf (Jvm.Term.field (Jvm.Term.string "BackwardProofsLaw" (70 : Nat)) "java/lang/String" "value" "[B") Jvm.ClassFile.FieldType.byte),
 (Jvm.Cond.eq (Jvm.Term.length (Jvm.Term.field (Jvm.Term.string "BackwardProofsLaw" (70 : Nat)) "java/lang/String" "value" "[B")) (Jvm.Term.int (6 : Int32))),
 (Jvm.Cond.eq (Jvm.Term.elem (Jvm.Term.field (Jvm.Term.string "BackwardProofsLaw" (70 : Nat)) "java/lang/String" "value" "[B") (Jvm.Term.int (0 : Int32))) (Jvm.Term.int (32 : Int32))),
 (Jvm.Cond.eq (Jvm.Term.elem (Jvm.Term.field (Jvm.Term.string "BackwardProofsLaw" (70 : Nat)) "java/lang/String" "value" "[B") (Jvm.Term.int (1 : Int32))) (Jvm.Term.int (116 : Int32))),
 (Jvm.Cond.eq (Jvm.Term.elem (Jvm.Term.field (Jvm.Term.string "BackwardProofsLaw" (70 : Nat)) "java/lang/String" "value" "[B") (Jvm.Term.int (2 : Int32))) (Jvm.Term.int (105 : Int32))),
 (Jvm.Cond.eq (Jvm.Term.elem (Jvm.Term.field (Jvm.Term.string "BackwardProofsLaw" (70 : Nat)) "java/lang/String" "value" "[B") (Jvm.Term.int (3 : Int32))) (Jvm.Term.int (109 : Int32))),
 (Jvm.Cond.eq (Jvm.Term.elem (Jvm.Term.field (Jvm.Term.string "BackwardProofsLaw" (70 : Nat)) "java/lang/String" "value" "[B") (Jvm.Term.int (4 : Int32))) (Jvm.Term.int (101 : Int32))),
 (Jvm.Cond.eq (Jvm.Term.elem (Jvm.Term.field (Jvm.Term.string "BackwardProofsLaw" (70 : Nat)) "java/lang/String" "value" "[B") (Jvm.Term.int (5 : Int32))) (Jvm.Term.int (115 : Int32))),
 (Jvm.Cond.exactly (Jvm.Term.string "BackwardProofsLaw" (84 : Nat)) "java/lang/String"),
 (Jvm.Cond.eq (Jvm.Term.field (Jvm.Term.string "BackwardProofsLaw" (84 : Nat)) "java/lang/String" "coder" "B") (Jvm.Term.int (0 : Int32))),
 (Jvm.Cond.arrayOf (Jvm.Term.field (Jvm.Term.string "BackwardProofsLaw" (84 : Nat)) "java/lang/String" "value" "[B") Jvm.ClassFile.FieldType.byte),
 (Jvm.Cond.eq (Jvm.Term.length (Jvm.Term.field (Jvm.Term.string "BackwardProofsLaw" (84 : Nat)) "java/lang/String" "value" "[B")) (Jvm.Term.int (4 : Int32))),
 (Jvm.Cond.eq (Jvm.Term.elem (Jvm.Term.field (Jvm.Term.string "BackwardProofsLaw" (84 : Nat)) "java/lang/String" "value" "[B") (Jvm.Term.int (0 : Int32))) (Jvm.Term.int (32 : Int32))),
 (Jvm.Cond.eq (Jvm.Term.elem (Jvm.Term.field (Jvm.Term.string "BackwardProofsLaw" (84 : Nat)) "java/lang/String" "value" "[B") (Jvm.Term.int (1 : Int32))) (Jvm.Term.int (110 : Int32))),
 (Jvm.Cond.eq (Jvm.Term.elem (Jvm.Term.field (Jvm.Term.string "BackwardProofsLaw" (84 : Nat)) "java/lang/String" "value" "[B") (Jvm.Term.int (2 : Int32))) (Jvm.Term.int (111 : Int32))),
 (Jvm.Cond.eq (Jvm.Term.elem (Jvm.Term.field (Jvm.Term.string "BackwardProofsLaw" (84 : Nat)) "java/lang/String" "value" "[B") (Jvm.Term.int (3 : Int32))) (Jvm.Term.int (116 : Int32))),
 (Jvm.Cond.exactly (Jvm.Term.string "BackwardProofsLaw" (86 : Nat)) "java/lang/String"),
 (Jvm.Cond.eq (Jvm.Term.field (Jvm.Term.string "BackwardProofsLaw" (86 : Nat)) "java/lang/String" "coder" "B") (Jvm.Term.int (0 : Int32))),
 (Jvm.Cond.arrayOf (Jvm.Term.field (Jvm.Term.string "BackwardProofsLaw" (86 : Nat)) "java/lang/String" "value" "[B") Jvm.ClassFile.FieldType.byte),
 (Jvm.Cond.eq (Jvm.Term.length (Jvm.Term.field (Jvm.Term.string "BackwardProofsLaw" (86 : Nat)) "java/lang/String" "value" "[B")) (Jvm.Term.int (4 : Int32))),
 (Jvm.Cond.eq (Jvm.Term.elem (Jvm.Term.field (Jvm.Term.string "BackwardProofsLaw" (86 : Nat)) "java/lang/String" "value" "[B") (Jvm.Term.int (0 : Int32))) (Jvm.Term.int (32 : Int32))),
 (Jvm.Cond.eq (Jvm.Term.elem (Jvm.Term.field (Jvm.Term.string "BackwardProofsLaw" (86 : Nat)) "java/lang/String" "value" "[B") (Jvm.Term.int (1 : Int32))) (Jvm.Term.int (97 : Int32))),
 (Jvm.Cond.eq (Jvm.Term.elem (Jvm.Term.field (Jvm.Term.string "BackwardProofsLaw" (86 : Nat)) "java/lang/String" "value" "[B") (Jvm.Term.int (2 : Int32))) (Jvm.Term.int (110 : Int32))),
 (Jvm.Cond.eq (Jvm.Term.elem (Jvm.Term.field (Jvm.Term.string "BackwardProofsLaw" (86 : Nat)) "java/lang/String" "value" "[B") (Jvm.Term.int (3 : Int32))) (Jvm.Term.int (100 : Int32))),
 (Jvm.Cond.exactly (Jvm.Term.string "BackwardProofsLaw" (88 : Nat)) "java/lang/String"),
 (Jvm.Cond.eq (Jvm.Term.field (Jvm.Term.string "BackwardProofsLaw" (88 : Nat)) "java/lang/String" "coder" "B") (Jvm.Term.int (0 : Int32))),
 (Jvm.Cond.arrayOf (Jvm.Term.field (Jvm.Term.string "BackwardProofsLaw" (88 : Nat)) "java/lang/String" "value" "[B") Jvm.ClassFile.FieldType.byte),
 (Jvm.Cond.eq (Jvm.Term.length (Jvm.Term.field (Jvm.Term.string "BackwardProofsLaw" (88 : Nat)) "java/lang/String" "value" "[B")) (Jvm.Term.int (3 : Int32))),
 (Jvm.Cond.eq (Jvm.Term.elem (Jvm.Term.field (Jvm.Term.string "BackwardProofsLaw" (88 : Nat)) "java/lang/String" "value" "[B") (Jvm.Term.int (0 : Int32))) (Jvm.Term.int (32 : Int32))),
 (Jvm.Cond.eq (Jvm.Term.elem (Jvm.Term.field (Jvm.Term.string "BackwardProofsLaw" (88 : Nat)) "java/lang/String" "value" "[B") (Jvm.Term.int (1 : Int32))) (Jvm.Term.int (111 : Int32))),
 (Jvm.Cond.eq (Jvm.Term.elem (Jvm.Term.field (Jvm.Term.string "BackwardProofsLaw" (88 : Nat)) "java/lang/String" "value" "[B") (Jvm.Term.int (2 : Int32))) (Jvm.Term.int (114 : Int32))),
 (Jvm.Cond.exactly (Jvm.Term.string "BackwardProofsLaw" (90 : Nat)) "java/lang/String"),
 (Jvm.Cond.eq (Jvm.Term.field (Jvm.Term.string "BackwardProofsLaw" (90 : Nat)) "java/lang/String" "coder" "B") (Jvm.Term.int (0 : Int32))),
 (Jvm.Cond.arrayOf (Jvm.Term.field (Jvm.Term.string "BackwardProofsLaw" (90 : Nat)) "java/lang/String" "value" "[B") Jvm.ClassFile.FieldType.byte),
 (Jvm.Cond.eq (Jvm.Term.length (Jvm.Term.field (Jvm.Term.string "BackwardProofsLaw" (90 : Nat)) "java/lang/String" "value" "[B")) (Jvm.Term.int (5 : Int32))),
 (Jvm.Cond.eq (Jvm.Term.elem (Jvm.Term.field (Jvm.Term.string "BackwardProofsLaw" (90 : Nat)) "java/lang/String" "value" "[B") (Jvm.Term.int (0 : Int32))) (Jvm.Term.int (32 : Int32))),
 (Jvm.Cond.eq (Jvm.Term.elem (Jvm.Term.field (Jvm.Term.string "BackwardProofsLaw" (90 : Nat)) "java/lang/String" "value" "[B") (Jvm.Term.int (1 : Int32))) (Jvm.Term.int (116 : Int32))),
 (Jvm.Cond.eq (Jvm.Term.elem (Jvm.Term.field (Jvm.Term.string "BackwardProofsLaw" (90 : Nat)) "java/lang/String" "value" "[B") (Jvm.Term.int (2 : Int32))) (Jvm.Term.int (114 : Int32))),
 (Jvm.Cond.eq (Jvm.Term.elem (Jvm.Term.field (Jvm.Term.string "BackwardProofsLaw" (90 : Nat)) "java/lang/String" "value" "[B") (Jvm.Term.int (3 : Int32))) (Jvm.Term.int (117 : Int32))),
 (Jvm.Cond.eq (Jvm.Term.elem (Jvm.Term.field (Jvm.Term.string "BackwardProofsLaw" (90 : Nat)) "java/lang/String" "value" "[B") (Jvm.Term.int (4 : Int32))) (Jvm.Term.int (101 : Int32))),
 (Jvm.Cond.exactly (Jvm.Term.string "BackwardProofsLaw" (92 : Nat)) "java/lang/String"),
 (Jvm.Cond.eq (Jvm.Term.field (Jvm.Term.string "BackwardProofsLaw" (92 : Nat)) "java/lang/String" "coder" "B") (Jvm.Term.int (0 : Int32))),
 (Jvm.Cond.arrayOf (Jvm.Term.field (Jvm.Term.string "BackwardProofsLaw" (92 : Nat)) "java/lang/String" "value" "[B") Jvm.ClassFile.FieldType.byte),
 (Jvm.Cond.eq (Jvm.Term.length (Jvm.Term.field (Jvm.Term.string "BackwardProofsLaw" (92 : Nat)) "java/lang/String" "value" "[B")) (Jvm.Term.int (6 : Int32))),
 (Jvm.Cond.eq (Jvm.Term.elem (Jvm.Term.field (Jvm.Term.string "BackwardProofsLaw" (92 : Nat)) "java/lang/String" "value" "[B") (Jvm.Term.int (0 : Int32))) (Jvm.Term.int (32 : Int32))),
 (Jvm.Cond.eq (Jvm.Term.elem (Jvm.Term.field (Jvm.Term.string "BackwardProofsLaw" (92 : Nat)) "java/lang/String" "value" "[B") (Jvm.Term.int (1 : Int32))) (Jvm.Term.int (102 : Int32))),
 (Jvm.Cond.eq (Jvm.Term.elem (Jvm.Term.field (Jvm.Term.string "BackwardProofsLaw" (92 : Nat)) "java/lang/String" "value" "[B") (Jvm.Term.int (2 : Int32))) (Jvm.Term.int (97 : Int32))),
 (Jvm.Cond.eq (Jvm.Term.elem (Jvm.Term.field (Jvm.Term.string "BackwardProofsLaw" (92 : Nat)) "java/lang/String" "value" "[B") (Jvm.Term.int (3 : Int32))) (Jvm.Term.int (108 : Int32))),
 (Jvm.Cond.eq (Jvm.Term.elem (Jvm.Term.field (Jvm.Term.string "BackwardProofsLaw" (92 : Nat)) "java/lang/String" "value" "[B") (Jvm.Term.int (4 : Int32))) (Jvm.Term.int (115 : Int32))),
 (Jvm.Cond.eq (Jvm.Term.elem (Jvm.Term.field (Jvm.Term.string "BackwardProofsLaw" (92 : Nat)) "java/lang/String" "value" "[B") (Jvm.Term.int (5 : Int32))) (Jvm.Term.int (101 : Int32))),
 (Jvm.Cond.exactly (Jvm.Term.string "BackwardProofsLaw" (94 : Nat)) "java/lang/String"),
 (Jvm.Cond.eq (Jvm.Term.field (Jvm.Term.string "BackwardProofsLaw" (94 : Nat)) "java/lang/String" "coder" "B") (Jvm.Term.int (0 : Int32))),
 (Jvm.Cond.arrayOf (Jvm.Term.field (Jvm.Term.string "BackwardProofsLaw" (94 : Nat)) "java/lang/String" "value" "[B") Jvm.ClassFile.FieldType.byte),
 (Jvm.Cond.eq (Jvm.Term.length (Jvm.Term.field (Jvm.Term.string "BackwardProofsLaw" (94 : Nat)) "java/lang/String" "value" "[B")) (Jvm.Term.int (3 : Int32))),
 (Jvm.Cond.eq (Jvm.Term.elem (Jvm.Term.field (Jvm.Term.string "BackwardProofsLaw" (94 : Nat)) "java/lang/String" "value" "[B") (Jvm.Term.int (0 : Int32))) (Jvm.Term.int (32 : Int32))),
 (Jvm.Cond.eq (Jvm.Term.elem (Jvm.Term.field (Jvm.Term.string "BackwardProofsLaw" (94 : Nat)) "java/lang/String" "value" "[B") (Jvm.Term.int (1 : Int32))) (Jvm.Term.int (101 : Int32))),
 (Jvm.Cond.eq (Jvm.Term.elem (Jvm.Term.field (Jvm.Term.string "BackwardProofsLaw" (94 : Nat)) "java/lang/String" "value" "[B") (Jvm.Term.int (2 : Int32))) (Jvm.Term.int (113 : Int32))),
 (Jvm.Cond.exactly (Jvm.Term.string "BackwardProofsLaw" (96 : Nat)) "java/lang/String"),
 (Jvm.Cond.eq (Jvm.Term.field (Jvm.Term.string "BackwardProofsLaw" (96 : Nat)) "java/lang/String" "coder" "B") (Jvm.Term.int (0 : Int32))),
 (Jvm.Cond.arrayOf (Jvm.Term.field (Jvm.Term.string "BackwardProofsLaw" (96 : Nat)) "java/lang/String" "value" "[B") Jvm.ClassFile.FieldType.byte),
 (Jvm.Cond.eq (Jvm.Term.length (Jvm.Term.field (Jvm.Term.string "BackwardProofsLaw" (96 : Nat)) "java/lang/String" "value" "[B")) (Jvm.Term.int (3 : Int32))),
 (Jvm.Cond.eq (Jvm.Term.elem (Jvm.Term.field (Jvm.Term.string "BackwardProofsLaw" (96 : Nat)) "java/lang/String" "value" "[B") (Jvm.Term.int (0 : Int32))) (Jvm.Term.int (32 : Int32))),
 (Jvm.Cond.eq (Jvm.Term.elem (Jvm.Term.field (Jvm.Term.string "BackwardProofsLaw" (96 : Nat)) "java/lang/String" "value" "[B") (Jvm.Term.int (1 : Int32))) (Jvm.Term.int (108 : Int32))),
 (Jvm.Cond.eq (Jvm.Term.elem (Jvm.Term.field (Jvm.Term.string "BackwardProofsLaw" (96 : Nat)) "java/lang/String" "value" "[B") (Jvm.Term.int (2 : Int32))) (Jvm.Term.int (116 : Int32))),
 (Jvm.Cond.exactly (Jvm.Term.string "BackwardProofsLaw" (107 : Nat)) "java/lang/String"),
 (Jvm.Cond.eq (Jvm.Term.field (Jvm.Term.string "BackwardProofsLaw" (107 : Nat)) "java/lang/String" "coder" "B") (Jvm.Term.int (0 : Int32))),
 (Jvm.Cond.arrayOf (Jvm.Term.field (Jvm.Term.string "BackwardProofsLaw" (107 : Nat)) "java/lang/String" "value" "[B") Jvm.ClassFile.FieldType.byte),
 (Jvm.Cond.eq (Jvm.Term.length (Jvm.Term.field (Jvm.Term.string "BackwardProofsLaw" (107 : Nat)) "java/lang/String" "value" "[B")) (Jvm.Term.int (3 : Int32))),
 (Jvm.Cond.eq (Jvm.Term.elem (Jvm.Term.field (Jvm.Term.string "BackwardProofsLaw" (107 : Nat)) "java/lang/String" "value" "[B") (Jvm.Term.int (0 : Int32))) (Jvm.Term.int (32 : Int32))),
 (Jvm.Cond.eq (Jvm.Term.elem (Jvm.Term.field (Jvm.Term.string "BackwardProofsLaw" (107 : Nat)) "java/lang/String" "value" "[B") (Jvm.Term.int (1 : Int32))) (Jvm.Term.int (105 : Int32))),
 (Jvm.Cond.eq (Jvm.Term.elem (Jvm.Term.field (Jvm.Term.string "BackwardProofsLaw" (107 : Nat)) "java/lang/String" "value" "[B") (Jvm.Term.int (2 : Int32))) (Jvm.Term.int (102 : Int32))),
 (Jvm.Cond.exactly (Jvm.Term.string "BackwardProofsLaw" (109 : Nat)) "java/lang/String"),
 (Jvm.Cond.eq (Jvm.Term.field (Jvm.Term.string "BackwardProofsLaw" (109 : Nat)) "java/lang/String" "coder" "B") (Jvm.Term.int (0 : Int32))),
 (Jvm.Cond.arrayOf (Jvm.Term.field (Jvm.Term.string "BackwardProofsLaw" (109 : Nat)) "java/lang/String" "value" "[B") Jvm.ClassFile.FieldType.byte),
 (Jvm.Cond.eq (Jvm.Term.length (Jvm.Term.field (Jvm.Term.string "BackwardProofsLaw" (109 : Nat)) "java/lang/String" "value" "[B")) (Jvm.Term.int (12 : Int32))),
 (Jvm.Cond.eq (Jvm.Term.elem (Jvm.Term.field (Jvm.Term.string "BackwardProofsLaw" (109 : Nat)) "java/lang/String" "value" "[B") (Jvm.Term.int (0 : Int32))) (Jvm.Term.int (32 : Int32))),
 (Jvm.Cond.eq (Jvm.Term.elem (Jvm.Term.field (Jvm.Term.string "BackwardProofsLaw" (109 : Nat)) "java/lang/String" "value" "[B") (Jvm.Term.int (1 : Int32))) (Jvm.Term.int (119 : Int32))),
 (Jvm.Cond.eq (Jvm.Term.elem (Jvm.Term.field (Jvm.Term.string "BackwardProofsLaw" (109 : Nat)) "java/lang/String" "value" "[B") (Jvm.Term.int (2 : Int32))) (Jvm.Term.int (104 : Int32))),
 (Jvm.Cond.eq (Jvm.Term.elem (Jvm.Term.field (Jvm.Term.string "BackwardProofsLaw" (109 : Nat)) "java/lang/String" "value" "[B") (Jvm.Term.int (3 : Int32))) (Jvm.Term.int (105 : Int32))),
 (Jvm.Cond.eq (Jvm.Term.elem (Jvm.Term.field (Jvm.Term.string "BackwardProofsLaw" (109 : Nat)) "java/lang/String" "value" "[B") (Jvm.Term.int (4 : Int32))) (Jvm.Term.int (108 : Int32))),
 (Jvm.Cond.eq (Jvm.Term.elem (Jvm.Term.field (Jvm.Term.string "BackwardProofsLaw" (109 : Nat)) "java/lang/String" "value" "[B") (Jvm.Term.int (5 : Int32))) (Jvm.Term.int (101 : Int32))),
 (Jvm.Cond.eq (Jvm.Term.elem (Jvm.Term.field (Jvm.Term.string "BackwardProofsLaw" (109 : Nat)) "java/lang/String" "value" "[B") (Jvm.Term.int (6 : Int32))) (Jvm.Term.int (32 : Int32))),
 (Jvm.Cond.eq (Jvm.Term.elem (Jvm.Term.field (Jvm.Term.string "BackwardProofsLaw" (109 : Nat)) "java/lang/String" "value" "[B") (Jvm.Term.int (7 : Int32))) (Jvm.Term.int (108 : Int32))),
 (Jvm.Cond.eq (Jvm.Term.elem (Jvm.Term.field (Jvm.Term.string "BackwardProofsLaw" (109 : Nat)) "java/lang/String" "value" "[B") (Jvm.Term.int (8 : Int32))) (Jvm.Term.int (116 : Int32))),
 (Jvm.Cond.eq (Jvm.Term.elem (Jvm.Term.field (Jvm.Term.string "BackwardProofsLaw" (109 : Nat)) "java/lang/String" "value" "[B") (Jvm.Term.int (9 : Int32))) (Jvm.Term.int (32 : Int32))),
 (Jvm.Cond.eq (Jvm.Term.elem (Jvm.Term.field (Jvm.Term.string "BackwardProofsLaw" (109 : Nat)) "java/lang/String" "value" "[B") (Jvm.Term.int (10 : Int32))) (Jvm.Term.int (48 : Int32))),
 (Jvm.Cond.eq (Jvm.Term.elem (Jvm.Term.field (Jvm.Term.string "BackwardProofsLaw" (109 : Nat)) "java/lang/String" "value" "[B") (Jvm.Term.int (11 : Int32))) (Jvm.Term.int (32 : Int32))),
 (Jvm.Cond.exactly (Jvm.Term.string "BackwardProofsLaw" (111 : Nat)) "java/lang/String"),
 (Jvm.Cond.eq (Jvm.Term.field (Jvm.Term.string "BackwardProofsLaw" (111 : Nat)) "java/lang/String" "coder" "B") (Jvm.Term.int (0 : Int32))),
 (Jvm.Cond.arrayOf (Jvm.Term.field (Jvm.Term.string "BackwardProofsLaw" (111 : Nat)) "java/lang/String" "value" "[B") Jvm.ClassFile.FieldType.byte),
 (Jvm.Cond.eq (Jvm.Term.length (Jvm.Term.field (Jvm.Term.string "BackwardProofsLaw" (111 : Nat)) "java/lang/String" "value" "[B")) (Jvm.Term.int (5 : Int32))),
 (Jvm.Cond.eq (Jvm.Term.elem (Jvm.Term.field (Jvm.Term.string "BackwardProofsLaw" (111 : Nat)) "java/lang/String" "value" "[B") (Jvm.Term.int (0 : Int32))) (Jvm.Term.int (32 : Int32))),
 (Jvm.Cond.eq (Jvm.Term.elem (Jvm.Term.field (Jvm.Term.string "BackwardProofsLaw" (111 : Nat)) "java/lang/String" "value" "[B") (Jvm.Term.int (1 : Int32))) (Jvm.Term.int (107 : Int32))),
 (Jvm.Cond.eq (Jvm.Term.elem (Jvm.Term.field (Jvm.Term.string "BackwardProofsLaw" (111 : Nat)) "java/lang/String" "value" "[B") (Jvm.Term.int (2 : Int32))) (Jvm.Term.int (101 : Int32))),
 (Jvm.Cond.eq (Jvm.Term.elem (Jvm.Term.field (Jvm.Term.string "BackwardProofsLaw" (111 : Nat)) "java/lang/String" "value" "[B") (Jvm.Term.int (3 : Int32))) (Jvm.Term.int (101 : Int32))),
 (Jvm.Cond.eq (Jvm.Term.elem (Jvm.Term.field (Jvm.Term.string "BackwardProofsLaw" (111 : Nat)) "java/lang/String" "value" "[B") (Jvm.Term.int (4 : Int32))) (Jvm.Term.int (112 : Int32))),
 (Jvm.Cond.exactly (Jvm.Term.string "BackwardProofsLaw" (113 : Nat)) "java/lang/String"),
 (Jvm.Cond.eq (Jvm.Term.field (Jvm.Term.string "BackwardProofsLaw" (113 : Nat)) "java/lang/String" "coder" "B") (Jvm.Term.int (0 : Int32))),
 (Jvm.Cond.arrayOf (Jvm.Term.field (Jvm.Term.string "BackwardProofsLaw" (113 : Nat)) "java/lang/String" "value" "[B") Jvm.ClassFile.FieldType.byte),
 (Jvm.Cond.eq (Jvm.Term.length (Jvm.Term.field (Jvm.Term.string "BackwardProofsLaw" (113 : Nat)) "java/lang/String" "value" "[B")) (Jvm.Term.int (6 : Int32))),
 (Jvm.Cond.eq (Jvm.Term.elem (Jvm.Term.field (Jvm.Term.string "BackwardProofsLaw" (113 : Nat)) "java/lang/String" "value" "[B") (Jvm.Term.int (0 : Int32))) (Jvm.Term.int (32 : Int32))),
 (Jvm.Cond.eq (Jvm.Term.elem (Jvm.Term.field (Jvm.Term.string "BackwardProofsLaw" (113 : Nat)) "java/lang/String" "value" "[B") (Jvm.Term.int (1 : Int32))) (Jvm.Term.int (108 : Int32))),
 (Jvm.Cond.eq (Jvm.Term.elem (Jvm.Term.field (Jvm.Term.string "BackwardProofsLaw" (113 : Nat)) "java/lang/String" "value" "[B") (Jvm.Term.int (2 : Int32))) (Jvm.Term.int (101 : Int32))),
 (Jvm.Cond.eq (Jvm.Term.elem (Jvm.Term.field (Jvm.Term.string "BackwardProofsLaw" (113 : Nat)) "java/lang/String" "value" "[B") (Jvm.Term.int (3 : Int32))) (Jvm.Term.int (115 : Int32))),
 (Jvm.Cond.eq (Jvm.Term.elem (Jvm.Term.field (Jvm.Term.string "BackwardProofsLaw" (113 : Nat)) "java/lang/String" "value" "[B") (Jvm.Term.int (4 : Int32))) (Jvm.Term.int (115 : Int32))),
 (Jvm.Cond.eq (Jvm.Term.elem (Jvm.Term.field (Jvm.Term.string "BackwardProofsLaw" (113 : Nat)) "java/lang/String" "value" "[B") (Jvm.Term.int (5 : Int32))) (Jvm.Term.int (32 : Int32))),
 (Jvm.Cond.exactly (Jvm.Term.string "BackwardProofsLaw" (115 : Nat)) "java/lang/String"),
 (Jvm.Cond.eq (Jvm.Term.field (Jvm.Term.string "BackwardProofsLaw" (115 : Nat)) "java/lang/String" "coder" "B") (Jvm.Term.int (0 : Int32))),
 (Jvm.Cond.arrayOf (Jvm.Term.field (Jvm.Term.string "BackwardProofsLaw" (115 : Nat)) "java/lang/String" "value" "[B") Jvm.ClassFile.FieldType.byte),
 (Jvm.Cond.eq (Jvm.Term.length (Jvm.Term.field (Jvm.Term.string "BackwardProofsLaw" (115 : Nat)) "java/lang/String" "value" "[B")) (Jvm.Term.int (5 : Int32))),
 (Jvm.Cond.eq (Jvm.Term.elem (Jvm.Term.field (Jvm.Term.string "BackwardProofsLaw" (115 : Nat)) "java/lang/String" "value" "[B") (Jvm.Term.int (0 : Int32))) (Jvm.Term.int (32 : Int32))),
 (Jvm.Cond.eq (Jvm.Term.elem (Jvm.Term.field (Jvm.Term.string "BackwardProofsLaw" (115 : Nat)) "java/lang/String" "value" "[B") (Jvm.Term.int (1 : Int32))) (Jvm.Term.int (115 : Int32))),
 (Jvm.Cond.eq (Jvm.Term.elem (Jvm.Term.field (Jvm.Term.string "BackwardProofsLaw" (115 : Nat)) "java/lang/String" "value" "[B") (Jvm.Term.int (2 : Int32))) (Jvm.Term.int (101 : Int32))),
 (Jvm.Cond.eq (Jvm.Term.elem (Jvm.Term.field (Jvm.Term.string "BackwardProofsLaw" (115 : Nat)) "java/lang/String" "value" "[B") (Jvm.Term.int (3 : Int32))) (Jvm.Term.int (116 : Int32))),
 (Jvm.Cond.eq (Jvm.Term.elem (Jvm.Term.field (Jvm.Term.string "BackwardProofsLaw" (115 : Nat)) "java/lang/String" "value" "[B") (Jvm.Term.int (4 : Int32))) (Jvm.Term.int (32 : Int32))),
 (Jvm.Cond.exactly (Jvm.Term.string "BackwardProofsLaw" (117 : Nat)) "java/lang/String"),
 (Jvm.Cond.eq (Jvm.Term.field (Jvm.Term.string "BackwardProofsLaw" (117 : Nat)) "java/lang/String" "coder" "B") (Jvm.Term.int (0 : Int32))),
 (Jvm.Cond.arrayOf (Jvm.Term.field (Jvm.Term.string "BackwardProofsLaw" (117 : Nat)) "java/lang/String" "value" "[B") Jvm.ClassFile.FieldType.byte),
 (Jvm.Cond.eq (Jvm.Term.length (Jvm.Term.field (Jvm.Term.string "BackwardProofsLaw" (117 : Nat)) "java/lang/String" "value" "[B")) (Jvm.Term.int (7 : Int32))),
 (Jvm.Cond.eq (Jvm.Term.elem (Jvm.Term.field (Jvm.Term.string "BackwardProofsLaw" (117 : Nat)) "java/lang/String" "value" "[B") (Jvm.Term.int (0 : Int32))) (Jvm.Term.int (32 : Int32))),
 (Jvm.Cond.eq (Jvm.Term.elem (Jvm.Term.field (Jvm.Term.string "BackwardProofsLaw" (117 : Nat)) "java/lang/String" "value" "[B") (Jvm.Term.int (1 : Int32))) (Jvm.Term.int (109 : Int32))),
 (Jvm.Cond.eq (Jvm.Term.elem (Jvm.Term.field (Jvm.Term.string "BackwardProofsLaw" (117 : Nat)) "java/lang/String" "value" "[B") (Jvm.Term.int (2 : Int32))) (Jvm.Term.int (105 : Int32))),
 (Jvm.Cond.eq (Jvm.Term.elem (Jvm.Term.field (Jvm.Term.string "BackwardProofsLaw" (117 : Nat)) "java/lang/String" "value" "[B") (Jvm.Term.int (3 : Int32))) (Jvm.Term.int (110 : Int32))),
 (Jvm.Cond.eq (Jvm.Term.elem (Jvm.Term.field (Jvm.Term.string "BackwardProofsLaw" (117 : Nat)) "java/lang/String" "value" "[B") (Jvm.Term.int (4 : Int32))) (Jvm.Term.int (117 : Int32))),
 (Jvm.Cond.eq (Jvm.Term.elem (Jvm.Term.field (Jvm.Term.string "BackwardProofsLaw" (117 : Nat)) "java/lang/String" "value" "[B") (Jvm.Term.int (5 : Int32))) (Jvm.Term.int (115 : Int32))),
 (Jvm.Cond.eq (Jvm.Term.elem (Jvm.Term.field (Jvm.Term.string "BackwardProofsLaw" (117 : Nat)) "java/lang/String" "value" "[B") (Jvm.Term.int (6 : Int32))) (Jvm.Term.int (32 : Int32))),
 (Jvm.Cond.exactly (Jvm.Term.string "BackwardProofsLaw" (119 : Nat)) "java/lang/String"),
 (Jvm.Cond.eq (Jvm.Term.field (Jvm.Term.string "BackwardProofsLaw" (119 : Nat)) "java/lang/String" "coder" "B") (Jvm.Term.int (0 : Int32))),
 (Jvm.Cond.arrayOf (Jvm.Term.field (Jvm.Term.string "BackwardProofsLaw" (119 : Nat)) "java/lang/String" "value" "[B") Jvm.ClassFile.FieldType.byte),
 (Jvm.Cond.eq (Jvm.Term.length (Jvm.Term.field (Jvm.Term.string "BackwardProofsLaw" (119 : Nat)) "java/lang/String" "value" "[B")) (Jvm.Term.int (2 : Int32))),
 (Jvm.Cond.eq (Jvm.Term.elem (Jvm.Term.field (Jvm.Term.string "BackwardProofsLaw" (119 : Nat)) "java/lang/String" "value" "[B") (Jvm.Term.int (0 : Int32))) (Jvm.Term.int (32 : Int32))),
 (Jvm.Cond.eq (Jvm.Term.elem (Jvm.Term.field (Jvm.Term.string "BackwardProofsLaw" (119 : Nat)) "java/lang/String" "value" "[B") (Jvm.Term.int (1 : Int32))) (Jvm.Term.int (49 : Int32))),
 (Jvm.Cond.exactly (Jvm.Term.string "BackwardProofsLaw" (121 : Nat)) "java/lang/String"),
 (Jvm.Cond.eq (Jvm.Term.field (Jvm.Term.string "BackwardProofsLaw" (121 : Nat)) "java/lang/String" "coder" "B") (Jvm.Term.int (0 : Int32))),
 (Jvm.Cond.arrayOf (Jvm.Term.field (Jvm.Term.string "BackwardProofsLaw" (121 : Nat)) "java/lang/String" "value" "[B") Jvm.ClassFile.FieldType.byte),
 (Jvm.Cond.eq (Jvm.Term.length (Jvm.Term.field (Jvm.Term.string "BackwardProofsLaw" (121 : Nat)) "java/lang/String" "value" "[B")) (Jvm.Term.int (5 : Int32))),
 (Jvm.Cond.eq (Jvm.Term.elem (Jvm.Term.field (Jvm.Term.string "BackwardProofsLaw" (121 : Nat)) "java/lang/String" "value" "[B") (Jvm.Term.int (0 : Int32))) (Jvm.Term.int (32 : Int32))),
 (Jvm.Cond.eq (Jvm.Term.elem (Jvm.Term.field (Jvm.Term.string "BackwardProofsLaw" (121 : Nat)) "java/lang/String" "value" "[B") (Jvm.Term.int (1 : Int32))) (Jvm.Term.int (104 : Int32))),
 (Jvm.Cond.eq (Jvm.Term.elem (Jvm.Term.field (Jvm.Term.string "BackwardProofsLaw" (121 : Nat)) "java/lang/String" "value" "[B") (Jvm.Term.int (2 : Int32))) (Jvm.Term.int (111 : Int32))),
 (Jvm.Cond.eq (Jvm.Term.elem (Jvm.Term.field (Jvm.Term.string "BackwardProofsLaw" (121 : Nat)) "java/lang/String" "value" "[B") (Jvm.Term.int (3 : Int32))) (Jvm.Term.int (108 : Int32))),
 (Jvm.Cond.eq (Jvm.Term.elem (Jvm.Term.field (Jvm.Term.string "BackwardProofsLaw" (121 : Nat)) "java/lang/String" "value" "[B") (Jvm.Term.int (4 : Int32))) (Jvm.Term.int (101 : Int32))),
 (Jvm.Cond.exactly (Jvm.Term.string "BackwardProofsLaw" (123 : Nat)) "java/lang/String"),
 (Jvm.Cond.eq (Jvm.Term.field (Jvm.Term.string "BackwardProofsLaw" (123 : Nat)) "java/lang/String" "coder" "B") (Jvm.Term.int (0 : Int32))),
 (Jvm.Cond.arrayOf (Jvm.Term.field (Jvm.Term.string "BackwardProofsLaw" (123 : Nat)) "java/lang/String" "value" "[B") Jvm.ClassFile.FieldType.byte),
 (Jvm.Cond.eq (Jvm.Term.length (Jvm.Term.field (Jvm.Term.string "BackwardProofsLaw" (123 : Nat)) "java/lang/String" "value" "[B")) (Jvm.Term.int (5 : Int32))),
 (Jvm.Cond.eq (Jvm.Term.elem (Jvm.Term.field (Jvm.Term.string "BackwardProofsLaw" (123 : Nat)) "java/lang/String" "value" "[B") (Jvm.Term.int (0 : Int32))) (Jvm.Term.int (32 : Int32))),
 (Jvm.Cond.eq (Jvm.Term.elem (Jvm.Term.field (Jvm.Term.string "BackwardProofsLaw" (123 : Nat)) "java/lang/String" "value" "[B") (Jvm.Term.int (1 : Int32))) (Jvm.Term.int (101 : Int32))),
 (Jvm.Cond.eq (Jvm.Term.elem (Jvm.Term.field (Jvm.Term.string "BackwardProofsLaw" (123 : Nat)) "java/lang/String" "value" "[B") (Jvm.Term.int (2 : Int32))) (Jvm.Term.int (108 : Int32))),
 (Jvm.Cond.eq (Jvm.Term.elem (Jvm.Term.field (Jvm.Term.string "BackwardProofsLaw" (123 : Nat)) "java/lang/String" "value" "[B") (Jvm.Term.int (3 : Int32))) (Jvm.Term.int (115 : Int32))),
 (Jvm.Cond.eq (Jvm.Term.elem (Jvm.Term.field (Jvm.Term.string "BackwardProofsLaw" (123 : Nat)) "java/lang/String" "value" "[B") (Jvm.Term.int (4 : Int32))) (Jvm.Term.int (101 : Int32))),
 (Jvm.Cond.exactly (Jvm.Term.string "BackwardProofsLaw" (125 : Nat)) "java/lang/String"),
 (Jvm.Cond.eq (Jvm.Term.field (Jvm.Term.string "BackwardProofsLaw" (125 : Nat)) "java/lang/String" "coder" "B") (Jvm.Term.int (0 : Int32))),
 (Jvm.Cond.arrayOf (Jvm.Term.field (Jvm.Term.string "BackwardProofsLaw" (125 : Nat)) "java/lang/String" "value" "[B") Jvm.ClassFile.FieldType.byte),
 (Jvm.Cond.eq (Jvm.Term.length (Jvm.Term.field (Jvm.Term.string "BackwardProofsLaw" (125 : Nat)) "java/lang/String" "value" "[B")) (Jvm.Term.int (4 : Int32))),
 (Jvm.Cond.eq (Jvm.Term.elem (Jvm.Term.field (Jvm.Term.string "BackwardProofsLaw" (125 : Nat)) "java/lang/String" "value" "[B") (Jvm.Term.int (0 : Int32))) (Jvm.Term.int (32 : Int32))),
 (Jvm.Cond.eq (Jvm.Term.elem (Jvm.Term.field (Jvm.Term.string "BackwardProofsLaw" (125 : Nat)) "java/lang/String" "value" "[B") (Jvm.Term.int (1 : Int32))) (Jvm.Term.int (101 : Int32))),
 (Jvm.Cond.eq (Jvm.Term.elem (Jvm.Term.field (Jvm.Term.string "BackwardProofsLaw" (125 : Nat)) "java/lang/String" "value" "[B") (Jvm.Term.int (2 : Int32))) (Jvm.Term.int (110 : Int32))),
 (Jvm.Cond.eq (Jvm.Term.elem (Jvm.Term.field (Jvm.Term.string "BackwardProofsLaw" (125 : Nat)) "java/lang/String" "value" "[B") (Jvm.Term.int (3 : Int32))) (Jvm.Term.int (100 : Int32))),
 (Jvm.Cond.exactly (Jvm.Term.string "BackwardProofsLaw" (127 : Nat)) "java/lang/String"),
 (Jvm.Cond.eq (Jvm.Term.field (Jvm.Term.string "BackwardProofsLaw" (127 : Nat)) "java/lang/String" "coder" "B") (Jvm.Term.int (0 : Int32))),
 (Jvm.Cond.arrayOf (Jvm.Term.field (Jvm.Term.string "BackwardProofsLaw" (127 : Nat)) "java/lang/String" "value" "[B") Jvm.ClassFile.FieldType.byte),
 (Jvm.Cond.eq (Jvm.Term.length (Jvm.Term.field (Jvm.Term.string "BackwardProofsLaw" (127 : Nat)) "java/lang/String" "value" "[B")) (Jvm.Term.int (9 : Int32))),
 (Jvm.Cond.eq (Jvm.Term.elem (Jvm.Term.field (Jvm.Term.string "BackwardProofsLaw" (127 : Nat)) "java/lang/String" "value" "[B") (Jvm.Term.int (0 : Int32))) (Jvm.Term.int (32 : Int32))),
 (Jvm.Cond.eq (Jvm.Term.elem (Jvm.Term.field (Jvm.Term.string "BackwardProofsLaw" (127 : Nat)) "java/lang/String" "value" "[B") (Jvm.Term.int (1 : Int32))) (Jvm.Term.int (101 : Int32))),
 (Jvm.Cond.eq (Jvm.Term.elem (Jvm.Term.field (Jvm.Term.string "BackwardProofsLaw" (127 : Nat)) "java/lang/String" "value" "[B") (Jvm.Term.int (2 : Int32))) (Jvm.Term.int (108 : Int32))),
 (Jvm.Cond.eq (Jvm.Term.elem (Jvm.Term.field (Jvm.Term.string "BackwardProofsLaw" (127 : Nat)) "java/lang/String" "value" "[B") (Jvm.Term.int (3 : Int32))) (Jvm.Term.int (115 : Int32))),
 (Jvm.Cond.eq (Jvm.Term.elem (Jvm.Term.field (Jvm.Term.string "BackwardProofsLaw" (127 : Nat)) "java/lang/String" "value" "[B") (Jvm.Term.int (4 : Int32))) (Jvm.Term.int (101 : Int32))),
 (Jvm.Cond.eq (Jvm.Term.elem (Jvm.Term.field (Jvm.Term.string "BackwardProofsLaw" (127 : Nat)) "java/lang/String" "value" "[B") (Jvm.Term.int (5 : Int32))) (Jvm.Term.int (32 : Int32))),
 (Jvm.Cond.eq (Jvm.Term.elem (Jvm.Term.field (Jvm.Term.string "BackwardProofsLaw" (127 : Nat)) "java/lang/String" "value" "[B") (Jvm.Term.int (6 : Int32))) (Jvm.Term.int (101 : Int32))),
 (Jvm.Cond.eq (Jvm.Term.elem (Jvm.Term.field (Jvm.Term.string "BackwardProofsLaw" (127 : Nat)) "java/lang/String" "value" "[B") (Jvm.Term.int (7 : Int32))) (Jvm.Term.int (110 : Int32))),
 (Jvm.Cond.eq (Jvm.Term.elem (Jvm.Term.field (Jvm.Term.string "BackwardProofsLaw" (127 : Nat)) "java/lang/String" "value" "[B") (Jvm.Term.int (8 : Int32))) (Jvm.Term.int (100 : Int32))),
 (Jvm.Cond.exactly (Jvm.Term.string "java/util/Arrays" (337 : Nat)) "java/lang/String"),
 (Jvm.Cond.eq (Jvm.Term.field (Jvm.Term.string "java/util/Arrays" (337 : Nat)) "java/lang/String" "coder" "B") (Jvm.Term.int (0 : Int32))),
 (Jvm.Cond.arrayOf (Jvm.Term.field (Jvm.Term.string "java/util/Arrays" (337 : Nat)) "java/lang/String" "value" "[B") Jvm.ClassFile.FieldType.byte),
 (Jvm.Cond.eq (Jvm.Term.length (Jvm.Term.field (Jvm.Term.string "java/util/Arrays" (337 : Nat)) "java/lang/String" "value" "[B")) (Jvm.Term.int (3 : Int32))),
 (Jvm.Cond.eq (Jvm.Term.elem (Jvm.Term.field (Jvm.Term.string "java/util/Arrays" (337 : Nat)) "java/lang/String" "value" "[B") (Jvm.Term.int (0 : Int32))) (Jvm.Term.int (32 : Int32))),
 (Jvm.Cond.eq (Jvm.Term.elem (Jvm.Term.field (Jvm.Term.string "java/util/Arrays" (337 : Nat)) "java/lang/String" "value" "[B") (Jvm.Term.int (1 : Int32))) (Jvm.Term.int (62 : Int32))),
 (Jvm.Cond.eq (Jvm.Term.elem (Jvm.Term.field (Jvm.Term.string "java/util/Arrays" (337 : Nat)) "java/lang/String" "value" "[B") (Jvm.Term.int (2 : Int32))) (Jvm.Term.int (32 : Int32))),
 (Jvm.Cond.exactly (Jvm.Term.string "BackwardProofs" (374 : Nat)) "java/lang/String"),
 (Jvm.Cond.eq (Jvm.Term.field (Jvm.Term.string "BackwardProofs" (374 : Nat)) "java/lang/String" "coder" "B") (Jvm.Term.int (0 : Int32))),
 (Jvm.Cond.arrayOf (Jvm.Term.field (Jvm.Term.string "BackwardProofs" (374 : Nat)) "java/lang/String" "value" "[B") Jvm.ClassFile.FieldType.byte),
 (Jvm.Cond.eq (Jvm.Term.length (Jvm.Term.field (Jvm.Term.string "BackwardProofs" (374 : Nat)) "java/lang/String" "value" "[B")) (Jvm.Term.int (1 : Int32))),
 (Jvm.Cond.eq (Jvm.Term.elem (Jvm.Term.field (Jvm.Term.string "BackwardProofs" (374 : Nat)) "java/lang/String" "value" "[B") (Jvm.Term.int (0 : Int32))) (Jvm.Term.int (32 : Int32))),
 (Jvm.Cond.exactly (Jvm.Term.string "BackwardProofsLaw" (292 : Nat)) "java/lang/String"),
 (Jvm.Cond.eq (Jvm.Term.field (Jvm.Term.string "BackwardProofsLaw" (292 : Nat)) "java/lang/String" "coder" "B") (Jvm.Term.int (0 : Int32))),
 (Jvm.Cond.arrayOf (Jvm.Term.field (Jvm.Term.string "BackwardProofsLaw" (292 : Nat)) "java/lang/String" "value" "[B") Jvm.ClassFile.FieldType.byte),
 (Jvm.Cond.eq (Jvm.Term.length (Jvm.Term.field (Jvm.Term.string "BackwardProofsLaw" (292 : Nat)) "java/lang/String" "value" "[B")) (Jvm.Term.int (4 : Int32))),
 (Jvm.Cond.eq (Jvm.Term.elem (Jvm.Term.field (Jvm.Term.string "BackwardProofsLaw" (292 : Nat)) "java/lang/String" "value" "[B") (Jvm.Term.int (0 : Int32))) (Jvm.Term.int (101 : Int32))),
 (Jvm.Cond.eq (Jvm.Term.elem (Jvm.Term.field (Jvm.Term.string "BackwardProofsLaw" (292 : Nat)) "java/lang/String" "value" "[B") (Jvm.Term.int (1 : Int32))) (Jvm.Term.int (113 : Int32))),
 (Jvm.Cond.eq (Jvm.Term.elem (Jvm.Term.field (Jvm.Term.string "BackwardProofsLaw" (292 : Nat)) "java/lang/String" "value" "[B") (Jvm.Term.int (2 : Int32))) (Jvm.Term.int (32 : Int32))),
 (Jvm.Cond.eq (Jvm.Term.elem (Jvm.Term.field (Jvm.Term.string "BackwardProofsLaw" (292 : Nat)) "java/lang/String" "value" "[B") (Jvm.Term.int (3 : Int32))) (Jvm.Term.int (97 : Int32))),
 (Jvm.Cond.exactly (Jvm.Term.string "BackwardProofsLaw" (294 : Nat)) "java/lang/String"),
 (Jvm.Cond.eq (Jvm.Term.field (Jvm.Term.string "BackwardProofsLaw" (294 : Nat)) "java/lang/String" "coder" "B") (Jvm.Term.int (0 : Int32))),
 (Jvm.Cond.arrayOf (Jvm.Term.field (Jvm.Term.string "BackwardProofsLaw" (294 : Nat)) "java/lang/String" "value" "[B") Jvm.ClassFile.FieldType.byte),
 (Jvm.Cond.eq (Jvm.Term.length (Jvm.Term.field (Jvm.Term.string "BackwardProofsLaw" (294 : Nat)) "java/lang/String" "value" "[B")) (Jvm.Term.int (5 : Int32))),
 (Jvm.Cond.eq (Jvm.Term.elem (Jvm.Term.field (Jvm.Term.string "BackwardProofsLaw" (294 : Nat)) "java/lang/String" "value" "[B") (Jvm.Term.int (0 : Int32))) (Jvm.Term.int (110 : Int32))),
 (Jvm.Cond.eq (Jvm.Term.elem (Jvm.Term.field (Jvm.Term.string "BackwardProofsLaw" (294 : Nat)) "java/lang/String" "value" "[B") (Jvm.Term.int (1 : Int32))) (Jvm.Term.int (111 : Int32))),
 (Jvm.Cond.eq (Jvm.Term.elem (Jvm.Term.field (Jvm.Term.string "BackwardProofsLaw" (294 : Nat)) "java/lang/String" "value" "[B") (Jvm.Term.int (2 : Int32))) (Jvm.Term.int (116 : Int32))),
 (Jvm.Cond.eq (Jvm.Term.elem (Jvm.Term.field (Jvm.Term.string "BackwardProofsLaw" (294 : Nat)) "java/lang/String" "value" "[B") (Jvm.Term.int (3 : Int32))) (Jvm.Term.int (32 : Int32))),
 (Jvm.Cond.eq (Jvm.Term.elem (Jvm.Term.field (Jvm.Term.string "BackwardProofsLaw" (294 : Nat)) "java/lang/String" "value" "[B") (Jvm.Term.int (4 : Int32))) (Jvm.Term.int (97 : Int32))),
 (Jvm.Cond.exactly (Jvm.Term.static "java/lang/Integer" "DigitOnes" "[B") "[B"),
 (Jvm.Cond.exactly (Jvm.Term.static "java/lang/Integer" "DigitTens" "[B") "[B"),
 (Jvm.Cond.exactly (Jvm.Term.field (Jvm.Term.string "BackwardProofs" (89 : Nat)) "java/lang/String" "value" "[B") "[B"),
 (Jvm.Cond.exactly (Jvm.Term.field (Jvm.Term.string "BackwardProofs$Words" (7 : Nat)) "java/lang/String" "value" "[B") "[B"),
 (Jvm.Cond.exactly (Jvm.Term.field (Jvm.Term.string "BackwardProofs$Words" (9 : Nat)) "java/lang/String" "value" "[B") "[B"),
 (Jvm.Cond.exactly (Jvm.Term.field (Jvm.Term.string "BackwardProofs$Words" (11 : Nat)) "java/lang/String" "value" "[B") "[B"),
 (Jvm.Cond.exactly (Jvm.Term.field (Jvm.Term.string "BackwardProofs$Words" (13 : Nat)) "java/lang/String" "value" "[B") "[B"),
 (Jvm.Cond.exactly (Jvm.Term.field (Jvm.Term.string "BackwardProofs$Words" (15 : Nat)) "java/lang/String" "value" "[B") "[B"),
 (Jvm.Cond.exactly (Jvm.Term.field (Jvm.Term.string "BackwardProofs$Words" (17 : Nat)) "java/lang/String" "value" "[B") "[B"),
 (Jvm.Cond.exactly (Jvm.Term.field (Jvm.Term.string "BackwardProofs$Words" (19 : Nat)) "java/lang/String" "value" "[B") "[B"),
 (Jvm.Cond.exactly (Jvm.Term.field (Jvm.Term.string "BackwardProofs$Words" (21 : Nat)) "java/lang/String" "value" "[B") "[B"),
 (Jvm.Cond.exactly (Jvm.Term.field (Jvm.Term.string "BackwardProofs$Words" (23 : Nat)) "java/lang/String" "value" "[B") "[B"),
 (Jvm.Cond.exactly (Jvm.Term.field (Jvm.Term.string "BackwardProofs$Words" (25 : Nat)) "java/lang/String" "value" "[B") "[B"),
 (Jvm.Cond.exactly (Jvm.Term.field (Jvm.Term.string "BackwardProofs$Words" (27 : Nat)) "java/lang/String" "value" "[B") "[B"),
 (Jvm.Cond.exactly (Jvm.Term.field (Jvm.Term.string "BackwardProofs$Words" (29 : Nat)) "java/lang/String" "value" "[B") "[B"),
 (Jvm.Cond.exactly (Jvm.Term.field (Jvm.Term.string "BackwardProofs$Words" (31 : Nat)) "java/lang/String" "value" "[B") "[B"),
 (Jvm.Cond.exactly (Jvm.Term.field (Jvm.Term.string "BackwardProofs$Words" (33 : Nat)) "java/lang/String" "value" "[B") "[B"),
 (Jvm.Cond.exactly (Jvm.Term.field (Jvm.Term.string "BackwardProofs$Words" (35 : Nat)) "java/lang/String" "value" "[B") "[B"),
 (Jvm.Cond.exactly (Jvm.Term.field (Jvm.Term.string "BackwardProofs$Words" (37 : Nat)) "java/lang/String" "value" "[B") "[B"),
 (Jvm.Cond.exactly (Jvm.Term.field (Jvm.Term.string "BackwardProofs$Words" (39 : Nat)) "java/lang/String" "value" "[B") "[B"),
 (Jvm.Cond.exactly (Jvm.Term.field (Jvm.Term.string "BackwardProofs$Words" (41 : Nat)) "java/lang/String" "value" "[B") "[B"),
 (Jvm.Cond.exactly (Jvm.Term.field (Jvm.Term.string "BackwardProofs$Words" (43 : Nat)) "java/lang/String" "value" "[B") "[B"),
 (Jvm.Cond.exactly (Jvm.Term.field (Jvm.Term.string "BackwardProofs$Words" (45 : Nat)) "java/lang/String" "value" "[B") "[B"),
 (Jvm.Cond.exactly (Jvm.Term.field (Jvm.Term.string "BackwardProofs$Words" (47 : Nat)) "java/lang/String" "value" "[B") "[B"),
 (Jvm.Cond.exactly (Jvm.Term.field (Jvm.Term.string "BackwardProofs$Words" (49 : Nat)) "java/lang/String" "value" "[B") "[B"),
 (Jvm.Cond.exactly (Jvm.Term.field (Jvm.Term.string "BackwardProofs$Words" (51 : Nat)) "java/lang/String" "value" "[B") "[B"),
 (Jvm.Cond.exactly (Jvm.Term.field (Jvm.Term.string "BackwardProofs$Words" (53 : Nat)) "java/lang/String" "value" "[B") "[B"),
 (Jvm.Cond.exactly (Jvm.Term.field (Jvm.Term.string "BackwardProofs$Words" (55 : Nat)) "java/lang/String" "value" "[B") "[B"),
 (Jvm.Cond.exactly (Jvm.Term.field (Jvm.Term.string "BackwardProofs$Words" (57 : Nat)) "java/lang/String" "value" "[B") "[B"),
 (Jvm.Cond.exactly (Jvm.Term.field (Jvm.Term.string "BackwardProofs$Words" (59 : Nat)) "java/lang/String" "value" "[B") "[B"),
 (Jvm.Cond.exactly (Jvm.Term.field (Jvm.Term.string "BackwardProofsLaw" (98 : Nat)) "java/lang/String" "value" "[B") "[B"),
 (Jvm.Cond.exactly (Jvm.Term.field (Jvm.Term.string "BackwardProofsLaw" (66 : Nat)) "java/lang/String" "value" "[B") "[B"),
 (Jvm.Cond.exactly (Jvm.Term.field (Jvm.Term.string "BackwardProofsLaw" (68 : Nat)) "java/lang/String" "value" "[B") "[B"),
 (Jvm.Cond.exactly (Jvm.Term.field (Jvm.Term.string "BackwardProofsLaw" (70 : Nat)) "java/lang/String" "value" "[B") "[B"),
 (Jvm.Cond.exactly (Jvm.Term.field (Jvm.Term.string "BackwardProofsLaw" (84 : Nat)) "java/lang/String" "value" "[B") "[B"),
 (Jvm.Cond.exactly (Jvm.Term.field (Jvm.Term.string "BackwardProofsLaw" (86 : Nat)) "java/lang/String" "value" "[B") "[B"),
 (Jvm.Cond.exactly (Jvm.Term.field (Jvm.Term.string "BackwardProofsLaw" (88 : Nat)) "java/lang/String" "value" "[B") "[B"),
 (Jvm.Cond.exactly (Jvm.Term.field (Jvm.Term.string "BackwardProofsLaw" (90 : Nat)) "java/lang/String" "value" "[B") "[B"),
 (Jvm.Cond.exactly (Jvm.Term.field (Jvm.Term.string "BackwardProofsLaw" (92 : Nat)) "java/lang/String" "value" "[B") "[B"),
 (Jvm.Cond.exactly (Jvm.Term.field (Jvm.Term.string "BackwardProofsLaw" (94 : Nat)) "java/lang/String" "value" "[B") "[B"),
 (Jvm.Cond.exactly (Jvm.Term.field (Jvm.Term.string "BackwardProofsLaw" (96 : Nat)) "java/lang/String" "value" "[B") "[B"),
 (Jvm.Cond.exactly (Jvm.Term.field (Jvm.Term.string "BackwardProofsLaw" (107 : Nat)) "java/lang/String" "value" "[B") "[B"),
 (Jvm.Cond.exactly (Jvm.Term.field (Jvm.Term.string "BackwardProofsLaw" (109 : Nat)) "java/lang/String" "value" "[B") "[B"),
 (Jvm.Cond.exactly (Jvm.Term.field (Jvm.Term.string "BackwardProofsLaw" (111 : Nat)) "java/lang/String" "value" "[B") "[B"),
 (Jvm.Cond.exactly (Jvm.Term.field (Jvm.Term.string "BackwardProofsLaw" (113 : Nat)) "java/lang/String" "value" "[B") "[B"),
 (Jvm.Cond.exactly (Jvm.Term.field (Jvm.Term.string "BackwardProofsLaw" (115 : Nat)) "java/lang/String" "value" "[B") "[B"),
 (Jvm.Cond.exactly (Jvm.Term.field (Jvm.Term.string "BackwardProofsLaw" (117 : Nat)) "java/lang/String" "value" "[B") "[B"),
 (Jvm.Cond.exactly (Jvm.Term.field (Jvm.Term.string "BackwardProofsLaw" (119 : Nat)) "java/lang/String" "value" "[B") "[B"),
 (Jvm.Cond.exactly (Jvm.Term.field (Jvm.Term.string "BackwardProofsLaw" (121 : Nat)) "java/lang/String" "value" "[B") "[B"),
 (Jvm.Cond.exactly (Jvm.Term.field (Jvm.Term.string "BackwardProofsLaw" (123 : Nat)) "java/lang/String" "value" "[B") "[B"),
 (Jvm.Cond.exactly (Jvm.Term.field (Jvm.Term.string "BackwardProofsLaw" (125 : Nat)) "java/lang/String" "value" "[B") "[B"),
 (Jvm.Cond.exactly (Jvm.Term.field (Jvm.Term.string "BackwardProofsLaw" (127 : Nat)) "java/lang/String" "value" "[B") "[B"),
 (Jvm.Cond.exactly (Jvm.Term.field (Jvm.Term.string "java/util/Arrays" (337 : Nat)) "java/lang/String" "value" "[B") "[B"),
 (Jvm.Cond.exactly (Jvm.Term.field (Jvm.Term.string "BackwardProofs" (374 : Nat)) "java/lang/String" "value" "[B") "[B"),
 (Jvm.Cond.exactly (Jvm.Term.field (Jvm.Term.string "BackwardProofsLaw" (292 : Nat)) "java/lang/String" "value" "[B") "[B"),
 (Jvm.Cond.exactly (Jvm.Term.field (Jvm.Term.string "BackwardProofsLaw" (294 : Nat)) "java/lang/String" "value" "[B") "[B")]
set_option maxRecDepth 1000000 in
theorem zNar_ok : flatC narrow_1 = zNar := rfl
theorem zin2 {w : Cond} (p : Nat) (h : (zTk (p / 1000))[p % 1000]? = some w) : w ∈ lw_tbl := zTk_in _ w (List.mem_of_getElem? h)
noncomputable def zst (k : Nat) : Term := .string (zstx k).1 (zstx k).2.1
noncomputable abbrev zsv (k : Nat) : Term := .field (zst k) "java/lang/String" "value" "[B"
def zSP (k n p q : Nat) : Prop := zlens.getD k 0 = n ∧ zNar[p]? = some (.exactly (zst k) "java/lang/String") ∧ zNar[p + 1]? = some (.eq (.field (zst k) "java/lang/String" "coder" "B") (.int 0)) ∧ zNar[p + 2]? = some (.arrayOf (zsv k) .byte) ∧ zNar[p + 3]? = some (.eq (.length (zsv k)) (.int (Int32.ofNat n))) ∧
  (∀ j, j < n → zNar[p + 4 + j]? = some (.eq (.elem (zsv k) (.int (Int32.ofNat j))) (.int ((zbyts.getD k []).getD j 0)))) ∧ (zTk (q / 1000))[q % 1000]? = some (.stringRef (zstx k).1 (zstx k).2.1 (zstx k).2.2)
set_option maxRecDepth 1000000 in
theorem zSP_0 : zSP 0 95 304 2177 := ⟨rfl, rfl, rfl, rfl, rfl, lt_s (lt_s (lt_s (lt_s (lt_s (lt_s (lt_s (lt_s (lt_s (lt_s (lt_s (lt_s (lt_s (lt_s (lt_s (lt_s (lt_s (lt_s (lt_s (lt_s (lt_s (lt_s (lt_s (lt_s (lt_s (lt_s (lt_s (lt_s (lt_s (lt_s (lt_s (lt_s (lt_s (lt_s (lt_s (lt_s (lt_s (lt_s (lt_s (lt_s (lt_s (lt_s (lt_s (lt_s (lt_s (lt_s (lt_s (lt_s (lt_s (lt_s (lt_s (lt_s (lt_s (lt_s (lt_s (lt_s (lt_s (lt_s (lt_s (lt_s (lt_s (lt_s (lt_s (lt_s (lt_s (lt_s (lt_s (lt_s (lt_s (lt_s (lt_s (lt_s (lt_s (lt_s (lt_s (lt_s (lt_s (lt_s (lt_s (lt_s (lt_s (lt_s (lt_s (lt_s (lt_s (lt_s (lt_s (lt_s (lt_s (lt_s (lt_s (lt_s (lt_s (lt_s (lt_s (lt_0) rfl) rfl) rfl) rfl) rfl) rfl) rfl) rfl) rfl) rfl) rfl) rfl) rfl) rfl) rfl) rfl) rfl) rfl) rfl) rfl) rfl) rfl) rfl) rfl) rfl) rfl) rfl) rfl) rfl) rfl) rfl) rfl) rfl) rfl) rfl) rfl) rfl) rfl) rfl) rfl) rfl) rfl) rfl) rfl) rfl) rfl) rfl) rfl) rfl) rfl) rfl) rfl) rfl) rfl) rfl) rfl) rfl) rfl) rfl) rfl) rfl) rfl) rfl) rfl) rfl) rfl) rfl) rfl) rfl) rfl) rfl) rfl) rfl) rfl) rfl) rfl) rfl) rfl) rfl) rfl) rfl) rfl) rfl) rfl) rfl) rfl) rfl) rfl) rfl) rfl) rfl) rfl) rfl) rfl) rfl, rfl⟩
set_option maxRecDepth 1000000 in
theorem zSP_1 : zSP 1 1 403 3024 := ⟨rfl, rfl, rfl, rfl, rfl, lt_s (lt_0) rfl, rfl⟩
set_option maxRecDepth 1000000 in
theorem zSP_2 : zSP 2 1 408 3025 := ⟨rfl, rfl, rfl, rfl, rfl, lt_s (lt_0) rfl, rfl⟩
set_option maxRecDepth 1000000 in
theorem zSP_3 : zSP 3 1 413 3026 := ⟨rfl, rfl, rfl, rfl, rfl, lt_s (lt_0) rfl, rfl⟩
set_option maxRecDepth 1000000 in
theorem zSP_4 : zSP 4 1 418 3027 := ⟨rfl, rfl, rfl, rfl, rfl, lt_s (lt_0) rfl, rfl⟩
set_option maxRecDepth 1000000 in
theorem zSP_5 : zSP 5 1 423 3028 := ⟨rfl, rfl, rfl, rfl, rfl, lt_s (lt_0) rfl, rfl⟩
set_option maxRecDepth 1000000 in
theorem zSP_6 : zSP 6 1 428 3029 := ⟨rfl, rfl, rfl, rfl, rfl, lt_s (lt_0) rfl, rfl⟩
set_option maxRecDepth 1000000 in
theorem zSP_7 : zSP 7 1 433 3030 := ⟨rfl, rfl, rfl, rfl, rfl, lt_s (lt_0) rfl, rfl⟩
set_option maxRecDepth 1000000 in
theorem zSP_8 : zSP 8 4 438 3031 := ⟨rfl, rfl, rfl, rfl, rfl, lt_s (lt_s (lt_s (lt_s (lt_0) rfl) rfl) rfl) rfl, rfl⟩
set_option maxRecDepth 1000000 in
theorem zSP_9 : zSP 9 5 446 3032 := ⟨rfl, rfl, rfl, rfl, rfl, lt_s (lt_s (lt_s (lt_s (lt_s (lt_0) rfl) rfl) rfl) rfl) rfl, rfl⟩
set_option maxRecDepth 1000000 in
theorem zSP_10 : zSP 10 5 455 3033 := ⟨rfl, rfl, rfl, rfl, rfl, lt_s (lt_s (lt_s (lt_s (lt_s (lt_0) rfl) rfl) rfl) rfl) rfl, rfl⟩
set_option maxRecDepth 1000000 in
theorem zSP_11 : zSP 11 4 464 3034 := ⟨rfl, rfl, rfl, rfl, rfl, lt_s (lt_s (lt_s (lt_s (lt_0) rfl) rfl) rfl) rfl, rfl⟩
set_option maxRecDepth 1000000 in
theorem zSP_12 : zSP 12 5 472 3035 := ⟨rfl, rfl, rfl, rfl, rfl, lt_s (lt_s (lt_s (lt_s (lt_s (lt_0) rfl) rfl) rfl) rfl) rfl, rfl⟩
set_option maxRecDepth 1000000 in
theorem zSP_13 : zSP 13 2 481 3036 := ⟨rfl, rfl, rfl, rfl, rfl, lt_s (lt_s (lt_0) rfl) rfl, rfl⟩
set_option maxRecDepth 1000000 in
theorem zSP_14 : zSP 14 2 487 3037 := ⟨rfl, rfl, rfl, rfl, rfl, lt_s (lt_s (lt_0) rfl) rfl, rfl⟩
set_option maxRecDepth 1000000 in
theorem zSP_15 : zSP 15 3 493 3038 := ⟨rfl, rfl, rfl, rfl, rfl, lt_s (lt_s (lt_s (lt_0) rfl) rfl) rfl, rfl⟩
set_option maxRecDepth 1000000 in
theorem zSP_16 : zSP 16 3 500 3039 := ⟨rfl, rfl, rfl, rfl, rfl, lt_s (lt_s (lt_s (lt_0) rfl) rfl) rfl, rfl⟩
set_option maxRecDepth 1000000 in
theorem zSP_17 : zSP 17 2 507 3040 := ⟨rfl, rfl, rfl, rfl, rfl, lt_s (lt_s (lt_0) rfl) rfl, rfl⟩
set_option maxRecDepth 1000000 in
theorem zSP_18 : zSP 18 3 513 3041 := ⟨rfl, rfl, rfl, rfl, rfl, lt_s (lt_s (lt_s (lt_0) rfl) rfl) rfl, rfl⟩
set_option maxRecDepth 1000000 in
theorem zSP_19 : zSP 19 2 520 3042 := ⟨rfl, rfl, rfl, rfl, rfl, lt_s (lt_s (lt_0) rfl) rfl, rfl⟩
set_option maxRecDepth 1000000 in
theorem zSP_20 : zSP 20 5 526 3043 := ⟨rfl, rfl, rfl, rfl, rfl, lt_s (lt_s (lt_s (lt_s (lt_s (lt_0) rfl) rfl) rfl) rfl) rfl, rfl⟩
set_option maxRecDepth 1000000 in
theorem zSP_21 : zSP 21 4 535 3044 := ⟨rfl, rfl, rfl, rfl, rfl, lt_s (lt_s (lt_s (lt_s (lt_0) rfl) rfl) rfl) rfl, rfl⟩
set_option maxRecDepth 1000000 in
theorem zSP_22 : zSP 22 4 543 3045 := ⟨rfl, rfl, rfl, rfl, rfl, lt_s (lt_s (lt_s (lt_s (lt_0) rfl) rfl) rfl) rfl, rfl⟩
set_option maxRecDepth 1000000 in
theorem zSP_23 : zSP 23 3 551 3046 := ⟨rfl, rfl, rfl, rfl, rfl, lt_s (lt_s (lt_s (lt_0) rfl) rfl) rfl, rfl⟩
set_option maxRecDepth 1000000 in
theorem zSP_24 : zSP 24 4 558 3047 := ⟨rfl, rfl, rfl, rfl, rfl, lt_s (lt_s (lt_s (lt_s (lt_0) rfl) rfl) rfl) rfl, rfl⟩
set_option maxRecDepth 1000000 in
theorem zSP_25 : zSP 25 4 566 3048 := ⟨rfl, rfl, rfl, rfl, rfl, lt_s (lt_s (lt_s (lt_s (lt_0) rfl) rfl) rfl) rfl, rfl⟩
set_option maxRecDepth 1000000 in
theorem zSP_26 : zSP 26 5 574 3049 := ⟨rfl, rfl, rfl, rfl, rfl, lt_s (lt_s (lt_s (lt_s (lt_s (lt_0) rfl) rfl) rfl) rfl) rfl, rfl⟩
set_option maxRecDepth 1000000 in
theorem zSP_27 : zSP 27 0 583 3050 := ⟨rfl, rfl, rfl, rfl, rfl, lt_0, rfl⟩
set_option maxRecDepth 1000000 in
theorem zSP_28 : zSP 28 1 796 7187 := ⟨rfl, rfl, rfl, rfl, rfl, lt_s (lt_0) rfl, rfl⟩
set_option maxRecDepth 1000000 in
theorem zSP_29 : zSP 29 5 587 5204 := ⟨rfl, rfl, rfl, rfl, rfl, lt_s (lt_s (lt_s (lt_s (lt_s (lt_0) rfl) rfl) rfl) rfl) rfl, rfl⟩
set_option maxRecDepth 1000000 in
theorem zSP_30 : zSP 30 5 597 6086 := ⟨rfl, rfl, rfl, rfl, rfl, lt_s (lt_s (lt_s (lt_s (lt_s (lt_0) rfl) rfl) rfl) rfl) rfl, rfl⟩
set_option maxRecDepth 1000000 in
theorem zSP_31 : zSP 31 6 606 6087 := ⟨rfl, rfl, rfl, rfl, rfl, lt_s (lt_s (lt_s (lt_s (lt_s (lt_s (lt_0) rfl) rfl) rfl) rfl) rfl) rfl, rfl⟩
set_option maxRecDepth 1000000 in
theorem zSP_32 : zSP 32 6 616 6088 := ⟨rfl, rfl, rfl, rfl, rfl, lt_s (lt_s (lt_s (lt_s (lt_s (lt_s (lt_0) rfl) rfl) rfl) rfl) rfl) rfl, rfl⟩
set_option maxRecDepth 1000000 in
theorem zSP_33 : zSP 33 4 626 6128 := ⟨rfl, rfl, rfl, rfl, rfl, lt_s (lt_s (lt_s (lt_s (lt_0) rfl) rfl) rfl) rfl, rfl⟩
set_option maxRecDepth 1000000 in
theorem zSP_34 : zSP 34 4 634 6129 := ⟨rfl, rfl, rfl, rfl, rfl, lt_s (lt_s (lt_s (lt_s (lt_0) rfl) rfl) rfl) rfl, rfl⟩
set_option maxRecDepth 1000000 in
theorem zSP_35 : zSP 35 3 642 6130 := ⟨rfl, rfl, rfl, rfl, rfl, lt_s (lt_s (lt_s (lt_0) rfl) rfl) rfl, rfl⟩
set_option maxRecDepth 1000000 in
theorem zSP_36 : zSP 36 5 649 6131 := ⟨rfl, rfl, rfl, rfl, rfl, lt_s (lt_s (lt_s (lt_s (lt_s (lt_0) rfl) rfl) rfl) rfl) rfl, rfl⟩
set_option maxRecDepth 1000000 in
theorem zSP_37 : zSP 37 6 658 6132 := ⟨rfl, rfl, rfl, rfl, rfl, lt_s (lt_s (lt_s (lt_s (lt_s (lt_s (lt_0) rfl) rfl) rfl) rfl) rfl) rfl, rfl⟩
set_option maxRecDepth 1000000 in
theorem zSP_38 : zSP 38 3 668 6133 := ⟨rfl, rfl, rfl, rfl, rfl, lt_s (lt_s (lt_s (lt_0) rfl) rfl) rfl, rfl⟩
set_option maxRecDepth 1000000 in
theorem zSP_39 : zSP 39 3 675 6134 := ⟨rfl, rfl, rfl, rfl, rfl, lt_s (lt_s (lt_s (lt_0) rfl) rfl) rfl, rfl⟩
set_option maxRecDepth 1000000 in
theorem zSP_40 : zSP 40 3 682 6135 := ⟨rfl, rfl, rfl, rfl, rfl, lt_s (lt_s (lt_s (lt_0) rfl) rfl) rfl, rfl⟩
set_option maxRecDepth 1000000 in
theorem zSP_41 : zSP 41 12 689 6136 := ⟨rfl, rfl, rfl, rfl, rfl, lt_s (lt_s (lt_s (lt_s (lt_s (lt_s (lt_s (lt_s (lt_s (lt_s (lt_s (lt_s (lt_0) rfl) rfl) rfl) rfl) rfl) rfl) rfl) rfl) rfl) rfl) rfl) rfl, rfl⟩
set_option maxRecDepth 1000000 in
theorem zSP_42 : zSP 42 5 705 6137 := ⟨rfl, rfl, rfl, rfl, rfl, lt_s (lt_s (lt_s (lt_s (lt_s (lt_0) rfl) rfl) rfl) rfl) rfl, rfl⟩
set_option maxRecDepth 1000000 in
theorem zSP_43 : zSP 43 6 714 6138 := ⟨rfl, rfl, rfl, rfl, rfl, lt_s (lt_s (lt_s (lt_s (lt_s (lt_s (lt_0) rfl) rfl) rfl) rfl) rfl) rfl, rfl⟩
set_option maxRecDepth 1000000 in
theorem zSP_44 : zSP 44 5 724 6139 := ⟨rfl, rfl, rfl, rfl, rfl, lt_s (lt_s (lt_s (lt_s (lt_s (lt_0) rfl) rfl) rfl) rfl) rfl, rfl⟩
set_option maxRecDepth 1000000 in
theorem zSP_45 : zSP 45 7 733 6140 := ⟨rfl, rfl, rfl, rfl, rfl, lt_s (lt_s (lt_s (lt_s (lt_s (lt_s (lt_s (lt_0) rfl) rfl) rfl) rfl) rfl) rfl) rfl, rfl⟩
set_option maxRecDepth 1000000 in
theorem zSP_46 : zSP 46 2 744 6141 := ⟨rfl, rfl, rfl, rfl, rfl, lt_s (lt_s (lt_0) rfl) rfl, rfl⟩
set_option maxRecDepth 1000000 in
theorem zSP_47 : zSP 47 5 750 6142 := ⟨rfl, rfl, rfl, rfl, rfl, lt_s (lt_s (lt_s (lt_s (lt_s (lt_0) rfl) rfl) rfl) rfl) rfl, rfl⟩
set_option maxRecDepth 1000000 in
theorem zSP_48 : zSP 48 5 759 6143 := ⟨rfl, rfl, rfl, rfl, rfl, lt_s (lt_s (lt_s (lt_s (lt_s (lt_0) rfl) rfl) rfl) rfl) rfl, rfl⟩
set_option maxRecDepth 1000000 in
theorem zSP_49 : zSP 49 4 768 6144 := ⟨rfl, rfl, rfl, rfl, rfl, lt_s (lt_s (lt_s (lt_s (lt_0) rfl) rfl) rfl) rfl, rfl⟩
set_option maxRecDepth 1000000 in
theorem zSP_50 : zSP 50 9 776 6145 := ⟨rfl, rfl, rfl, rfl, rfl, lt_s (lt_s (lt_s (lt_s (lt_s (lt_s (lt_s (lt_s (lt_s (lt_0) rfl) rfl) rfl) rfl) rfl) rfl) rfl) rfl) rfl, rfl⟩
set_option maxRecDepth 1000000 in
theorem zSP_51 : zSP 51 4 801 8130 := ⟨rfl, rfl, rfl, rfl, rfl, lt_s (lt_s (lt_s (lt_s (lt_0) rfl) rfl) rfl) rfl, rfl⟩
set_option maxRecDepth 1000000 in
theorem zSP_52 : zSP 52 5 809 8131 := ⟨rfl, rfl, rfl, rfl, rfl, lt_s (lt_s (lt_s (lt_s (lt_s (lt_0) rfl) rfl) rfl) rfl) rfl, rfl⟩
theorem zSP_all : ∀ k, k < 53 → ∃ n p q, zSP k n p q := lt_s (lt_s (lt_s (lt_s (lt_s (lt_s (lt_s (lt_s (lt_s (lt_s (lt_s (lt_s (lt_s (lt_s (lt_s (lt_s (lt_s (lt_s (lt_s (lt_s (lt_s (lt_s (lt_s (lt_s (lt_s (lt_s (lt_s (lt_s (lt_s (lt_s (lt_s (lt_s (lt_s (lt_s (lt_s (lt_s (lt_s (lt_s (lt_s (lt_s (lt_s (lt_s (lt_s (lt_s (lt_s (lt_s (lt_s (lt_s (lt_s (lt_s (lt_s (lt_s (lt_s (lt_0) ⟨_, _, _, zSP_0⟩) ⟨_, _, _, zSP_1⟩) ⟨_, _, _, zSP_2⟩) ⟨_, _, _, zSP_3⟩) ⟨_, _, _, zSP_4⟩) ⟨_, _, _, zSP_5⟩) ⟨_, _, _, zSP_6⟩) ⟨_, _, _, zSP_7⟩) ⟨_, _, _, zSP_8⟩) ⟨_, _, _, zSP_9⟩) ⟨_, _, _, zSP_10⟩) ⟨_, _, _, zSP_11⟩) ⟨_, _, _, zSP_12⟩) ⟨_, _, _, zSP_13⟩) ⟨_, _, _, zSP_14⟩) ⟨_, _, _, zSP_15⟩) ⟨_, _, _, zSP_16⟩) ⟨_, _, _, zSP_17⟩) ⟨_, _, _, zSP_18⟩) ⟨_, _, _, zSP_19⟩) ⟨_, _, _, zSP_20⟩) ⟨_, _, _, zSP_21⟩) ⟨_, _, _, zSP_22⟩) ⟨_, _, _, zSP_23⟩) ⟨_, _, _, zSP_24⟩) ⟨_, _, _, zSP_25⟩) ⟨_, _, _, zSP_26⟩) ⟨_, _, _, zSP_27⟩) ⟨_, _, _, zSP_28⟩) ⟨_, _, _, zSP_29⟩) ⟨_, _, _, zSP_30⟩) ⟨_, _, _, zSP_31⟩) ⟨_, _, _, zSP_32⟩) ⟨_, _, _, zSP_33⟩) ⟨_, _, _, zSP_34⟩) ⟨_, _, _, zSP_35⟩) ⟨_, _, _, zSP_36⟩) ⟨_, _, _, zSP_37⟩) ⟨_, _, _, zSP_38⟩) ⟨_, _, _, zSP_39⟩) ⟨_, _, _, zSP_40⟩) ⟨_, _, _, zSP_41⟩) ⟨_, _, _, zSP_42⟩) ⟨_, _, _, zSP_43⟩) ⟨_, _, _, zSP_44⟩) ⟨_, _, _, zSP_45⟩) ⟨_, _, _, zSP_46⟩) ⟨_, _, _, zSP_47⟩) ⟨_, _, _, zSP_48⟩) ⟨_, _, _, zSP_49⟩) ⟨_, _, _, zSP_50⟩) ⟨_, _, _, zSP_51⟩) ⟨_, _, _, zSP_52⟩
set_option maxRecDepth 1000000 in
theorem zDG_0 : ∀ j, j < 100 → zNar[24 + j]? = some (.eq (.elem (.static "java/lang/Integer" "DigitOnes" "[B") (.int (Int32.ofNat j))) (.int (Int32.ofInt (zdg 0 j)))) := lt_s (lt_s (lt_s (lt_s (lt_s (lt_s (lt_s (lt_s (lt_s (lt_s (lt_s (lt_s (lt_s (lt_s (lt_s (lt_s (lt_s (lt_s (lt_s (lt_s (lt_s (lt_s (lt_s (lt_s (lt_s (lt_s (lt_s (lt_s (lt_s (lt_s (lt_s (lt_s (lt_s (lt_s (lt_s (lt_s (lt_s (lt_s (lt_s (lt_s (lt_s (lt_s (lt_s (lt_s (lt_s (lt_s (lt_s (lt_s (lt_s (lt_s (lt_s (lt_s (lt_s (lt_s (lt_s (lt_s (lt_s (lt_s (lt_s (lt_s (lt_s (lt_s (lt_s (lt_s (lt_s (lt_s (lt_s (lt_s (lt_s (lt_s (lt_s (lt_s (lt_s (lt_s (lt_s (lt_s (lt_s (lt_s (lt_s (lt_s (lt_s (lt_s (lt_s (lt_s (lt_s (lt_s (lt_s (lt_s (lt_s (lt_s (lt_s (lt_s (lt_s (lt_s (lt_s (lt_s (lt_s (lt_s (lt_s (lt_s (lt_0) rfl) rfl) rfl) rfl) rfl) rfl) rfl) rfl) rfl) rfl) rfl) rfl) rfl) rfl) rfl) rfl) rfl) rfl) rfl) rfl) rfl) rfl) rfl) rfl) rfl) rfl) rfl) rfl) rfl) rfl) rfl) rfl) rfl) rfl) rfl) rfl) rfl) rfl) rfl) rfl) rfl) rfl) rfl) rfl) rfl) rfl) rfl) rfl) rfl) rfl) rfl) rfl) rfl) rfl) rfl) rfl) rfl) rfl) rfl) rfl) rfl) rfl) rfl) rfl) rfl) rfl) rfl) rfl) rfl) rfl) rfl) rfl) rfl) rfl) rfl) rfl) rfl) rfl) rfl) rfl) rfl) rfl) rfl) rfl) rfl) rfl) rfl) rfl) rfl) rfl) rfl) rfl) rfl) rfl) rfl) rfl) rfl) rfl) rfl) rfl
set_option maxRecDepth 1000000 in
theorem zDG_1 : ∀ j, j < 100 → zNar[127 + j]? = some (.eq (.elem (.static "java/lang/Integer" "DigitTens" "[B") (.int (Int32.ofNat j))) (.int (Int32.ofInt (zdg 1 j)))) := lt_s (lt_s (lt_s (lt_s (lt_s (lt_s (lt_s (lt_s (lt_s (lt_s (lt_s (lt_s (lt_s (lt_s (lt_s (lt_s (lt_s (lt_s (lt_s (lt_s (lt_s (lt_s (lt_s (lt_s (lt_s (lt_s (lt_s (lt_s (lt_s (lt_s (lt_s (lt_s (lt_s (lt_s (lt_s (lt_s (lt_s (lt_s (lt_s (lt_s (lt_s (lt_s (lt_s (lt_s (lt_s (lt_s (lt_s (lt_s (lt_s (lt_s (lt_s (lt_s (lt_s (lt_s (lt_s (lt_s (lt_s (lt_s (lt_s (lt_s (lt_s (lt_s (lt_s (lt_s (lt_s (lt_s (lt_s (lt_s (lt_s (lt_s (lt_s (lt_s (lt_s (lt_s (lt_s (lt_s (lt_s (lt_s (lt_s (lt_s (lt_s (lt_s (lt_s (lt_s (lt_s (lt_s (lt_s (lt_s (lt_s (lt_s (lt_s (lt_s (lt_s (lt_s (lt_s (lt_s (lt_s (lt_s (lt_s (lt_s (lt_0) rfl) rfl) rfl) rfl) rfl) rfl) rfl) rfl) rfl) rfl) rfl) rfl) rfl) rfl) rfl) rfl) rfl) rfl) rfl) rfl) rfl) rfl) rfl) rfl) rfl) rfl) rfl) rfl) rfl) rfl) rfl) rfl) rfl) rfl) rfl) rfl) rfl) rfl) rfl) rfl) rfl) rfl) rfl) rfl) rfl) rfl) rfl) rfl) rfl) rfl) rfl) rfl) rfl) rfl) rfl) rfl) rfl) rfl) rfl) rfl) rfl) rfl) rfl) rfl) rfl) rfl) rfl) rfl) rfl) rfl) rfl) rfl) rfl) rfl) rfl) rfl) rfl) rfl) rfl) rfl) rfl) rfl) rfl) rfl) rfl) rfl) rfl) rfl) rfl) rfl) rfl) rfl) rfl) rfl) rfl) rfl) rfl) rfl) rfl) rfl
/-- a private method is its own choice, whatever class the object has -/
theorem zsel_p {C : String} {y : MethodName} {s : State} {args : Array Value} {n : Nat} (hy : y.cls ≠ "java/lang/invoke/MethodHandle" ∧ y.cls ≠ "java/lang/invoke/VarHandle")
    (hins : (Cond.instantiable C n).before args s = true) (hpriv : (Cond.privateMethod y).before args s = true) (hinst : (Cond.instanceMethod y).before args s = true) {y0 : MethodName} (hs0 : (Cond.selects C y0 y0).before args s = true) (hy0 : y0.cls = y.cls) : va_Nw (.selects C y y) s := by
  obtain ⟨c, k, hc, hk, -, hniab, -, -⟩ := Cond.instantiable_spec hins
  have hni : k.isInterface = false := (Bool.or_eq_false_iff.mp hniab).1
  obtain ⟨mk, methM, hnamed, hmethM, -, -⟩ := Cond.instanceMethod_spec hinst
  have hfound : s.methodFound? y.cls y.name y.desc = some mk := State.methodFound?_of_named hnamed hy
  have hsel : selectMethod {} s.vm c mk = .method mk := selectMethod_private hmethM (Cond.privateMethod_at hpriv mk methM hnamed hmethM)
  unfold va_Nw
  simp only [Cond.before, Cond.holds, Cond.value, hc, hfound, hnamed, hsel, hk]
  obtain ⟨c2, r2, m2, q1, q2, q3, q4, kP, hkP, hkPi⟩ := Cond.selects_spec hs0
  have hcc : m2.cls = mk.cls := by
    have h1 := findClass_of_methodNamed q3
    have h2 := findClass_of_methodNamed hnamed
    rw [hy0] at h1
    exact Option.some.inj (h1.symm.trans h2)
  rw [hcc] at hkP
  simp [hkP, hkPi]
theorem zlen_lt (k : Nat) : zlens.getD k 0 < 2 ^ 31 := by
  by_cases h : k < 53
  · obtain ⟨n, p, q, e0, -⟩ := zSP_all k h
    exact (show ∀ k, k < 53 → zlens.getD k 0 < 2 ^ 31 by decide) k h
  · rw [List.getD_eq_getElem?_getD, List.getElem?_eq_none (by show 53 ≤ k; omega)]
    decide
theorem zeql {args : Array Value} {s : State} {t : Term} {z w : Int64} (h : (Cond.eq t (.long z)).before args s = true) (e : z = w) : t.eval args s none [] s = some (.long w) := by
  rw [← e]
  exact va_eqtl h
set_option maxRecDepth 1000000
section ZSt
variable {s : State} {b L : Nat} {xs : Nat → Int32}
theorem zst_of (hts : ∀ w ∈ lw_tbl, w.before #[Value.ref b] s = true) (hn : ∀ w ∈ zNar, w.before #[Value.ref b] s = true) (hX : va_X b L xs s s.heap) (hb : b < s.heap.size) (hL : L ≤ 260) : ∃ adr adV : Nat → Nat, adr 0 = b ∧ zSt s.heap.size adr adV L xs s s.heap := by
  have hA : ∀ a : Nat, a < s.heap.size → ¬ zA s.heap.size a := fun a h1 h2 => by
    have h3 : s.heap.size ≤ a := h2
    omega
  have hg : ∀ {w : Cond} (i : Nat), zNar[i]? = some w → w.before #[Value.ref b] s = true := fun i h => hn _ (List.mem_of_getElem? h)
  have ht : ∀ {w : Cond} (p : Nat), (zTk (p / 1000))[p % 1000]? = some w → w.before #[Value.ref b] s = true := fun p h => hts _ (zin2 p h)
  obtain ⟨tl, el, Tl⟩ := va_Tof (tm := .static "BackwardProofs$Sets" "VARIABLE_LOW" "[J") (ty := .long) (N := 3) (f := fun j => .long (Int64.ofBitVec (zlow j))) (A := zA s.heap.size) (by decide) (hg 8 rfl) (va_eqt (hg 9 rfl)) (lt_s (lt_s (lt_s lt_0 (zeql (hg 10 rfl) (by decide))) (zeql (hg 11 rfl) (by decide))) (zeql (hg 12 rfl) (by decide))) hA
  obtain ⟨th, eh, Th⟩ := va_Tof (tm := .static "BackwardProofs$Sets" "VARIABLE_HIGH" "[J") (ty := .long) (N := 3) (f := fun j => .long (Int64.ofBitVec (zhigh j))) (A := zA s.heap.size) (by decide) (hg 14 rfl) (va_eqt (hg 15 rfl)) (lt_s (lt_s (lt_s lt_0 (zeql (hg 16 rfl) (by decide))) (zeql (hg 17 rfl) (by decide))) (zeql (hg 18 rfl) (by decide))) hA
  obtain ⟨t0, e0, T0⟩ := va_Tof (tm := .static "java/lang/Integer" "DigitOnes" "[B") (ty := .byte) (N := 100) (f := fun j => .int (Int32.ofInt (zdg 0 j))) (A := zA s.heap.size) (by decide) (hg 22 rfl) (va_eqt (hg 23 rfl)) (fun j hj => va_eqt (hg (24 + j) (zDG_0 j hj))) hA
  obtain ⟨t1, e1, T1⟩ := va_Tof (tm := .static "java/lang/Integer" "DigitTens" "[B") (ty := .byte) (N := 100) (f := fun j => .int (Int32.ofInt (zdg 1 j))) (A := zA s.heap.size) (by decide) (hg 125 rfl) (va_eqt (hg 126 rfl)) (fun j hj => va_eqt (hg (127 + j) (zDG_1 j hj))) hA
  have hs : ∀ k, ∃ q : Nat × Nat, k < 53 → vk_S 1 [zlens.getD k 0] [zbyts.getD k []] (fun _ => q.1) (fun _ => q.2) (zA s.heap.size) s s.heap ∧ vk_R (zstx k).1 (zstx k).2.1 (zstx k).2.2 q.1 s := fun k => by
    by_cases hk : k < 53
    · obtain ⟨n, p, q, e0, e1, e2, e3, e4, e5, e6⟩ := zSP_all k hk
      obtain ⟨aK, aV, h1, h2⟩ := vk_Sof (N := 1) (tm := fun _ => zst k) (len := [zlens.getD k 0]) (byt := [zbyts.getD k []]) (A := zA s.heap.size) (args := #[Value.ref b]) (s := s)
        (fun i hi => by obtain rfl : i = 0 := by omega
                        show zlens.getD k 0 < 2 ^ 31
                        exact zlen_lt k)
        (fun i hi => hg p e1) (fun i hi => hg (p + 1) e2) (fun i hi => hg (p + 2) e3)
        (fun i hi => by obtain rfl : i = 0 := by omega
                        show (Cond.eq (.length (zsv k)) (.int (Int32.ofNat (zlens.getD k 0)))).before _ s = true
                        rw [e0]
                        exact hg (p + 3) e4)
        (fun i hi j hj => by obtain rfl : i = 0 := by omega
                             have hj' : j < zlens.getD k 0 := hj
                             rw [e0] at hj'
                             exact hg (p + 4 + j) (e5 j hj'))
        (fun i j hi hj hij => absurd (by omega) hij) hA
      refine ⟨(aK 0, aV 0), fun _ => ⟨⟨fun i hi => ?_, fun i j hi hj _ => by omega⟩, vk_R.of (ht q e6) (h2 0 (by omega))⟩⟩
      obtain rfl : i = 0 := by omega
      exact h1.1 0 (by omega)
    · exact ⟨(0, 0), fun h => absurd h hk⟩
  obtain ⟨f, hf⟩ := Classical.skolem.mp hs
  refine ⟨fun a => if a = 0 then b else if a = 1 then tl else if a = 2 then th else if a = 56 then t0 else if a = 57 then t1 else (f (a - 3)).1, fun k => (f k).2, rfl, ⟨hX, hb, Nat.le_refl _, by omega⟩, ⟨va_Zref (ht 3222 rfl) (ht 1011 rfl) el hA, Tl⟩, ⟨va_Zref (ht 3224 rfl) (ht 1011 rfl) eh hA, Th⟩, ⟨fun k hk => ?_, fun k hk => ?_⟩, ⟨va_Zof (ht 2191 rfl) (ht 1016 rfl) (va_eqt (hg 2 rfl)) hA, va_Zqof (ht 2207 rfl) (ht 1018 rfl) (hg 3 rfl) hA⟩, fun t ht2 => ?_, ⟨vx_Zqof (ht 4219 rfl) (ht 1025 rfl) (hg 19 rfl) hA, vx_Zqof (ht 4221 rfl) (ht 1025 rfl) (hg 20 rfl) hA⟩, ?_, va_AO.of (ht 1158 rfl), va_AO.of (ht 1151 rfl), ht 2163 rfl, ?_⟩
  · have h9 := (hf k hk).1
    rw [show (fun _ : Nat => if 3 + k = 0 then b else if 3 + k = 1 then tl else if 3 + k = 2 then th else if 3 + k = 56 then t0 else if 3 + k = 57 then t1 else (f (3 + k - 3)).1) = (fun _ : Nat => (f k).1) from funext fun _ => by rw [if_neg (by omega), if_neg (by omega), if_neg (by omega), if_neg (by omega), if_neg (by omega), Nat.add_sub_cancel_left]]
    exact h9
  · rw [show (fun a => if a = 0 then b else if a = 1 then tl else if a = 2 then th else if a = 56 then t0 else if a = 57 then t1 else (f (a - 3)).1) (3 + k) = (f k).1 from by show (if 3 + k = 0 then b else if 3 + k = 1 then tl else if 3 + k = 2 then th else if 3 + k = 56 then t0 else if 3 + k = 57 then t1 else (f (3 + k - 3)).1) = (f k).1; rw [if_neg (by omega), if_neg (by omega), if_neg (by omega), if_neg (by omega), if_neg (by omega), Nat.add_sub_cancel_left]]
    exact (hf k hk).2
  · have h3 : t = 0 ∨ t = 1 := by omega
    rcases h3 with rfl | rfl
    · exact ⟨va_Zref (ht 6117 rfl) (ht 1024 rfl) e0 hA, T0⟩
    · exact ⟨va_Zref (ht 6119 rfl) (ht 1024 rfl) e1 hA, T1⟩
  · intro w hw
    rcases List.mem_append.mp hw with hw | hw
    · unfold zNw1 at hw
      simp only [List.mem_cons, List.not_mem_nil, or_false] at hw
      rcases hw with rfl | rfl | rfl | rfl | rfl | rfl | rfl | rfl | rfl | rfl | rfl
      · exact va_Nw.of rfl (ht 4194 rfl)
      · exact va_Nw.of rfl (ht 5030 rfl)
      · exact va_Nw.of rfl (ht 5135 rfl)
      · exact va_Nw.of rfl (ht 1059 rfl)
      · exact va_Nw.of rfl (ht 4195 rfl)
      · exact va_Nw.of rfl (ht 4196 rfl)
      · exact va_Nw.of rfl (ht 4197 rfl)
      · exact va_Nw.of rfl (ht 4198 rfl)
      · exact va_Nw.of rfl (ht 4199 rfl)
      · exact va_Nw.of rfl (ht 4200 rfl)
      · exact va_Nw.of rfl (ht 1232 rfl)
    · unfold zPrW at hw
      simp only [List.mem_cons, List.not_mem_nil, or_false] at hw
      rcases hw with rfl | rfl | rfl | rfl
      · exact zsel_p (by decide) (ht 5203 rfl) (ht 6001 rfl) (ht 6002 rfl) (ht 6020 rfl) rfl
      · exact zsel_p (by decide) (ht 5203 rfl) (ht 6005 rfl) (ht 6006 rfl) (ht 6020 rfl) rfl
      · exact zsel_p (by decide) (ht 5203 rfl) (ht 6039 rfl) (ht 6040 rfl) (ht 6020 rfl) rfl
      · exact zsel_p (by decide) (ht 5203 rfl) (ht 6043 rfl) (ht 6044 rfl) (ht 6020 rfl) rfl
  · intro i hi i2 j hj j2 hij
    match i, hi, i2, j, hj, j2, hij with
    | 2, _, h, _, _, _, _ => exact absurd rfl h
    | 0, _, _, 0, _, _, h => exact absurd rfl h
    | 0, _, _, 1, _, _, _ => exact va_Nc.of (hg 255 rfl)
    | 0, _, _, 2, _, h, _ => exact absurd rfl h
    | 0, _, _, 3, _, _, _ => exact va_Nc.of (hg 270 rfl)
    | 1, _, _, 0, _, _, _ => exact va_Nc.of (hg 240 rfl)
    | 1, _, _, 1, _, _, h => exact absurd rfl h
    | 1, _, _, 2, _, h, _ => exact absurd rfl h
    | 1, _, _, 3, _, _, _ => exact va_Nc.of (hg 271 rfl)
    | 3, _, _, 0, _, _, _ => exact va_Nc.of (hg 241 rfl)
    | 3, _, _, 1, _, _, _ => exact va_Nc.of (hg 256 rfl)
    | 3, _, _, 2, _, h, _ => exact absurd rfl h
    | 3, _, _, 3, _, _, h => exact absurd rfl h
end ZSt
