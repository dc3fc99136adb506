noncomputable def zilen (i : Instr) : Nat := match i with
  | .aload _ | .iload _ | .lload _ | .fload _ | .dload _ | .astore _ | .istore _ | .lstore _ | .fstore _ | .dstore _ | .bipush _ | .ldc _ | .newarray _ => 2
  | .ifnonnull _ | .checkcast _ | .sipush _ | .ldc_w _ | .ldc2_w _ | .iinc _ _ | .ifCond _ _ | .if_icmp _ _ | .goto _ | .getfield _ | .putfield _ | .getstatic _ | .invokevirtual _ | .invokespecial _ | .invokestatic _ | .new _ | .anewarray _ => 3
  | .multianewarray _ _ => 4
  | .tableswitch _ _ _ _ => 0
  | .lookupswitch _ _ => 0
  | _ => 1
noncomputable def zjok (pc : Nat) (i : Instr) : Bool := match i with
  | .goto off => decide (0 ≤ (pc : Int) + off)
  | .ifnonnull off => decide (0 ≤ (pc : Int) + off)
  | .ifCond _ off => decide (0 ≤ (pc : Int) + off)
  | .if_icmp _ off => decide (0 ≤ (pc : Int) + off)
  | .tableswitch d lo hi offs => decide (0 ≤ (pc : Int) + d) && offs.toList.all (fun o => decide (0 ≤ (pc : Int) + o)) && decide ((offs.toList.length : Int) = hi - lo + 1)
  | .lookupswitch d ps => decide (0 ≤ (pc : Int) + d) && ps.toList.all (fun o => decide (0 ≤ (pc : Int) + o.2)) && (ps.toList.zip (ps.toList.drop 1)).all (fun (a, next) => a.1 < next.1)
  | _ => true
noncomputable def zchkD (m pc : Nat) : Bool := match zcode m pc with
  | none => true
  | some (i, len) => decide (decode (zbytes m) pc = .ok (i, len)) && (Nat.beq (zilen i) 0 || Nat.beq len (zilen i)) && zjok pc i
theorem zchkD_ok {m N : Nat} (h : ∀ pc, pc < N → zchkD m pc = true) {pc : Nat} (hp : pc < N) {r : Instr × Nat} (hz : zcode m pc = some r) : decode (zbytes m) pc = .ok r ∧ (zilen r.1 = 0 ∨ r.2 = zilen r.1) ∧ zjok pc r.1 = true := by
  have h1 := h pc hp
  unfold zchkD at h1
  rw [hz] at h1
  rw [Bool.and_eq_true, Bool.and_eq_true] at h1
  refine ⟨of_decide_eq_true h1.1.1, ?_, h1.2⟩
  rcases Bool.or_eq_true _ _ ▸ h1.1.2 with h2 | h2
  · exact Or.inl (Nat.eq_of_beq_eq_true h2)
  · exact Or.inr (Nat.eq_of_beq_eq_true h2)
theorem zd_join {m a n : Nat} (h1 : ∀ pc, pc < a → zchkD m pc = true) (h2 : ∀ j, j < n → zchkD m (a + j) = true) : ∀ pc, pc < a + n → zchkD m pc = true := by
  intro pc h
  by_cases hp : pc < a
  · exact h1 pc hp
  · have h3 := h2 (pc - a) (by omega)
    rwa [show a + (pc - a) = pc by omega] at h3
set_option maxRecDepth 1000000 in
theorem zd_0 : ∀ pc, pc < 31 → zchkD 0 pc = true := by decide +kernel
set_option maxRecDepth 1000000 in
theorem zd_1 : ∀ pc, pc < 103 → zchkD 1 pc = true := by decide +kernel
set_option maxRecDepth 1000000 in
theorem zd_2 : ∀ pc, pc < 151 → zchkD 2 pc = true := by decide +kernel
set_option maxRecDepth 1000000 in
theorem zd_3 : ∀ pc, pc < 18 → zchkD 3 pc = true := by decide +kernel
set_option maxRecDepth 1000000 in
theorem zd_4 : ∀ pc, pc < 27 → zchkD 4 pc = true := by decide +kernel
set_option maxRecDepth 1000000 in
theorem zd_5 : ∀ pc, pc < 13 → zchkD 5 pc = true := by decide +kernel
set_option maxRecDepth 1000000 in
theorem zd_6 : ∀ pc, pc < 58 → zchkD 6 pc = true := by decide +kernel
set_option maxRecDepth 1000000 in
theorem zd_7 : ∀ pc, pc < 130 → zchkD 7 pc = true := by decide +kernel
set_option maxRecDepth 1000000 in
theorem zd_8 : ∀ pc, pc < 68 → zchkD 8 pc = true := by decide +kernel
set_option maxRecDepth 1000000 in
theorem zd_9 : ∀ pc, pc < 21 → zchkD 9 pc = true := by decide +kernel
set_option maxRecDepth 1000000 in
theorem zd_10 : ∀ pc, pc < 12 → zchkD 10 pc = true := by decide +kernel
set_option maxRecDepth 1000000 in
theorem zd_11 : ∀ pc, pc < 32 → zchkD 11 pc = true := by decide +kernel
set_option maxRecDepth 1000000 in
theorem zd_12 : ∀ pc, pc < 20 → zchkD 12 pc = true := by decide +kernel
set_option maxRecDepth 1000000 in
theorem zd_13 : ∀ pc, pc < 18 → zchkD 13 pc = true := by decide +kernel
set_option maxRecDepth 1000000 in
theorem zd_14 : ∀ pc, pc < 6 → zchkD 14 pc = true := by decide +kernel
set_option maxRecDepth 1000000 in
theorem zd_15 : ∀ pc, pc < 84 → zchkD 15 pc = true := by decide +kernel
set_option maxRecDepth 1000000 in
theorem zd_16 : ∀ pc, pc < 26 → zchkD 16 pc = true := by decide +kernel
set_option maxRecDepth 1000000 in
theorem zd_17 : ∀ pc, pc < 44 → zchkD 17 pc = true := by decide +kernel
set_option maxRecDepth 1000000 in
theorem zd_18 : ∀ pc, pc < 24 → zchkD 18 pc = true := by decide +kernel
set_option maxRecDepth 1000000 in
theorem zd_19 : ∀ pc, pc < 19 → zchkD 19 pc = true := by decide +kernel
set_option maxRecDepth 1000000 in
theorem zd_20 : ∀ pc, pc < 44 → zchkD 20 pc = true := by decide +kernel
set_option maxRecDepth 1000000 in
theorem zd_21 : ∀ pc, pc < 27 → zchkD 21 pc = true := by decide +kernel
set_option maxRecDepth 1000000 in
theorem zd_22 : ∀ pc, pc < 29 → zchkD 22 pc = true := by decide +kernel
set_option maxRecDepth 1000000 in
theorem zd_23 : ∀ pc, pc < 25 → zchkD 23 pc = true := by decide +kernel
set_option maxRecDepth 1000000 in
theorem zd_24 : ∀ pc, pc < 19 → zchkD 24 pc = true := by decide +kernel
set_option maxRecDepth 1000000 in
theorem zd_25 : ∀ pc, pc < 109 → zchkD 25 pc = true := by decide +kernel
set_option maxRecDepth 1000000 in
theorem zd_26 : ∀ pc, pc < 35 → zchkD 26 pc = true := by decide +kernel
set_option maxRecDepth 1000000 in
theorem zd_27 : ∀ pc, pc < 24 → zchkD 27 pc = true := by decide +kernel
set_option maxRecDepth 1000000 in
theorem zd_28 : ∀ pc, pc < 162 → zchkD 28 pc = true := by decide +kernel
set_option maxRecDepth 1000000 in
theorem zd_29 : ∀ pc, pc < 79 → zchkD 29 pc = true := by decide +kernel
set_option maxRecDepth 1000000 in
theorem zd_30 : ∀ pc, pc < 124 → zchkD 30 pc = true := by decide +kernel
set_option maxRecDepth 1000000 in
theorem zd_31 : ∀ pc, pc < 152 → zchkD 31 pc = true := by decide +kernel
set_option maxRecDepth 1000000 in
theorem zd_32 : ∀ pc, pc < 46 → zchkD 32 pc = true := by decide +kernel
set_option maxRecDepth 1000000 in
theorem zd_33 : ∀ pc, pc < 80 → zchkD 33 pc = true := by decide +kernel
set_option maxRecDepth 1000000 in
theorem zd_34 : ∀ pc, pc < 25 → zchkD 34 pc = true := by decide +kernel
set_option maxRecDepth 1000000 in
theorem zd_35 : ∀ pc, pc < 112 → zchkD 35 pc = true := by decide +kernel
set_option maxRecDepth 1000000 in
theorem zd_36 : ∀ pc, pc < 19 → zchkD 36 pc = true := by decide +kernel
set_option maxRecDepth 1000000 in
theorem zd_37 : ∀ pc, pc < 24 → zchkD 37 pc = true := by decide +kernel
set_option maxRecDepth 1000000 in
theorem zd_38 : ∀ pc, pc < 202 → zchkD 38 pc = true := by decide +kernel
set_option maxRecDepth 1000000 in
theorem zd_39 : ∀ pc, pc < 13 → zchkD 39 pc = true := by decide +kernel
set_option maxRecDepth 1000000 in
theorem zd_40 : ∀ pc, pc < 19 → zchkD 40 pc = true := by decide +kernel
set_option maxRecDepth 1000000 in
theorem zd_41 : ∀ pc, pc < 19 → zchkD 41 pc = true := by decide +kernel
set_option maxRecDepth 1000000 in
theorem zd_42 : ∀ pc, pc < 41 → zchkD 42 pc = true := by decide +kernel
set_option maxRecDepth 1000000 in
theorem zd_43 : ∀ pc, pc < 72 → zchkD 43 pc = true := by decide +kernel
set_option maxRecDepth 1000000 in
theorem zd_44 : ∀ pc, pc < 16 → zchkD 44 pc = true := by decide +kernel
set_option maxRecDepth 1000000 in
theorem zd_45 : ∀ pc, pc < 16 → zchkD 45 pc = true := by decide +kernel
set_option maxRecDepth 1000000 in
theorem zd_46 : ∀ pc, pc < 19 → zchkD 46 pc = true := by decide +kernel
set_option maxRecDepth 1000000 in
theorem zd_47 : ∀ pc, pc < 19 → zchkD 47 pc = true := by decide +kernel
set_option maxRecDepth 1000000 in
theorem zd_48 : ∀ pc, pc < 19 → zchkD 48 pc = true := by decide +kernel
set_option maxRecDepth 1000000 in
theorem zd_49 : ∀ pc, pc < 84 → zchkD 49 pc = true := by decide +kernel
set_option maxRecDepth 1000000 in
theorem zd_50 : ∀ pc, pc < 19 → zchkD 50 pc = true := by decide +kernel
set_option maxRecDepth 1000000 in
theorem zd_51 : ∀ pc, pc < 19 → zchkD 51 pc = true := by decide +kernel
set_option maxRecDepth 1000000 in
theorem zd_52 : ∀ pc, pc < 22 → zchkD 52 pc = true := by decide +kernel
set_option maxRecDepth 1000000 in
theorem zd_53 : ∀ pc, pc < 29 → zchkD 53 pc = true := by decide +kernel
set_option maxRecDepth 1000000 in
theorem zd_54 : ∀ pc, pc < 71 → zchkD 54 pc = true := by decide +kernel
set_option maxRecDepth 1000000 in
theorem zd_55 : ∀ pc, pc < 40 → zchkD 55 pc = true := by decide +kernel
set_option maxRecDepth 1000000 in
theorem zd_56 : ∀ pc, pc < 36 → zchkD 56 pc = true := by decide +kernel
set_option maxRecDepth 1000000 in
theorem zd_57 : ∀ pc, pc < 35 → zchkD 57 pc = true := by decide +kernel
set_option maxRecDepth 1000000 in
theorem zd_58 : ∀ pc, pc < 61 → zchkD 58 pc = true := by decide +kernel
set_option maxRecDepth 1000000 in
theorem zd_59 : ∀ pc, pc < 167 → zchkD 59 pc = true := by decide +kernel
set_option maxRecDepth 1000000 in
theorem zd_60 : ∀ pc, pc < 70 → zchkD 60 pc = true := by decide +kernel
set_option maxRecDepth 1000000 in
theorem zd_61 : ∀ pc, pc < 32 → zchkD 61 pc = true := by decide +kernel
set_option maxRecDepth 1000000 in
theorem zd_62 : ∀ pc, pc < 108 → zchkD 62 pc = true := by decide +kernel
set_option maxRecDepth 1000000 in
theorem zd_63 : ∀ pc, pc < 35 → zchkD 63 pc = true := by decide +kernel
set_option maxRecDepth 1000000 in
theorem zd_64 : ∀ pc, pc < 60 → zchkD 64 pc = true := by decide +kernel
set_option maxRecDepth 1000000 in
theorem zd_65 : ∀ pc, pc < 13 → zchkD 65 pc = true := by decide +kernel
set_option maxRecDepth 1000000 in
theorem zd_66 : ∀ pc, pc < 51 → zchkD 66 pc = true := by decide +kernel
set_option maxRecDepth 1000000 in
theorem zd_67 : ∀ pc, pc < 29 → zchkD 67 pc = true := by decide +kernel
set_option maxRecDepth 1000000 in
theorem zd_68 : ∀ pc, pc < 128 → zchkD 68 pc = true := by decide +kernel
set_option maxRecDepth 1000000 in
theorem zd_69 : ∀ pc, pc < 34 → zchkD 69 pc = true := by decide +kernel
set_option maxRecDepth 1000000 in
theorem zd_70 : ∀ pc, pc < 37 → zchkD 70 pc = true := by decide +kernel
set_option maxRecDepth 1000000 in
theorem zd_71 : ∀ pc, pc < 25 → zchkD 71 pc = true := by decide +kernel
set_option maxRecDepth 1000000 in
theorem zd_72 : ∀ pc, pc < 19 → zchkD 72 pc = true := by decide +kernel
set_option maxRecDepth 1000000 in
theorem zd_73 : ∀ pc, pc < 60 → zchkD 73 pc = true := by decide +kernel
set_option maxRecDepth 1000000 in
theorem zd_74 : ∀ pc, pc < 106 → zchkD 74 pc = true := by decide +kernel
set_option maxRecDepth 1000000 in
theorem zd_75 : ∀ pc, pc < 22 → zchkD 75 pc = true := by decide +kernel
set_option maxRecDepth 1000000 in
theorem zd_76 : ∀ pc, pc < 23 → zchkD 76 pc = true := by decide +kernel
set_option maxRecDepth 1000000 in
theorem zd_77 : ∀ pc, pc < 108 → zchkD 77 pc = true := by decide +kernel
set_option maxRecDepth 1000000 in
theorem zd_78 : ∀ pc, pc < 120 → zchkD 78 pc = true := by decide +kernel
set_option maxRecDepth 1000000 in
theorem zd_79 : ∀ pc, pc < 39 → zchkD 79 pc = true := by decide +kernel
set_option maxRecDepth 1000000 in
theorem zd_80 : ∀ pc, pc < 6 → zchkD 80 pc = true := by decide +kernel
set_option maxRecDepth 1000000 in
theorem zd_81 : ∀ pc, pc < 28 → zchkD 81 pc = true := by decide +kernel
set_option maxRecDepth 1000000 in
theorem zd_82 : ∀ pc, pc < 105 → zchkD 82 pc = true := by decide +kernel
set_option maxRecDepth 1000000 in
theorem zd_83 : ∀ pc, pc < 150 → zchkD 83 pc = true := by decide +kernel
set_option maxRecDepth 1000000 in
theorem zd_84 : ∀ pc, pc < 42 → zchkD 84 pc = true := by decide +kernel
set_option maxRecDepth 1000000 in
theorem zd_85 : ∀ pc, pc < 32 → zchkD 85 pc = true := by decide +kernel
set_option maxRecDepth 1000000 in
theorem zd_86 : ∀ pc, pc < 18 → zchkD 86 pc = true := by decide +kernel
set_option maxRecDepth 1000000 in
theorem zd_87 : ∀ pc, pc < 33 → zchkD 87 pc = true := by decide +kernel
set_option maxRecDepth 1000000 in
theorem zd_88 : ∀ pc, pc < 18 → zchkD 88 pc = true := by decide +kernel
set_option maxRecDepth 1000000 in
theorem zd_89 : ∀ pc, pc < 33 → zchkD 89 pc = true := by decide +kernel
set_option maxRecDepth 1000000 in
theorem zd_90 : ∀ pc, pc < 63 → zchkD 90 pc = true := by decide +kernel
set_option maxRecDepth 1000000 in
theorem zd_91 : ∀ pc, pc < 65 → zchkD 91 pc = true := by decide +kernel
set_option maxRecDepth 1000000 in
theorem zd_92 : ∀ pc, pc < 152 → zchkD 92 pc = true := by decide +kernel
set_option maxRecDepth 1000000 in
theorem zd_93 : ∀ pc, pc < 73 → zchkD 93 pc = true := by decide +kernel
set_option maxRecDepth 1000000 in
theorem zd_94 : ∀ pc, pc < 123 → zchkD 94 pc = true := by decide +kernel
set_option maxRecDepth 1000000 in
theorem zd_95 : ∀ pc, pc < 157 → zchkD 95 pc = true := by decide +kernel
set_option maxRecDepth 1000000 in
theorem zd_96 : ∀ pc, pc < 62 → zchkD 96 pc = true := by decide +kernel
set_option maxRecDepth 1000000 in
theorem zd_97 : ∀ pc, pc < 47 → zchkD 97 pc = true := by decide +kernel
set_option maxRecDepth 1000000 in
theorem zd_98 : ∀ pc, pc < 299 → zchkD 98 pc = true := by decide +kernel
set_option maxRecDepth 1000000 in
theorem zd_99 : ∀ pc, pc < 7 → zchkD 99 pc = true := by decide +kernel
set_option maxRecDepth 1000000 in
theorem zd_100 : ∀ pc, pc < 155 → zchkD 100 pc = true := by decide +kernel
set_option maxRecDepth 1000000 in
theorem zd_101 : ∀ pc, pc < 88 → zchkD 101 pc = true := by decide +kernel
set_option maxRecDepth 1000000 in
theorem zd_102 : ∀ pc, pc < 10 → zchkD 102 pc = true := by decide +kernel
set_option maxRecDepth 1000000 in
theorem zd_103 : ∀ pc, pc < 21 → zchkD 103 pc = true := by decide +kernel
set_option maxRecDepth 1000000 in
theorem zd_104 : ∀ pc, pc < 16 → zchkD 104 pc = true := by decide +kernel
set_option maxRecDepth 1000000 in
theorem zd_105 : ∀ pc, pc < 58 → zchkD 105 pc = true := by decide +kernel
set_option maxRecDepth 1000000 in
theorem zd_106 : ∀ pc, pc < 18 → zchkD 106 pc = true := by decide +kernel
set_option maxRecDepth 1000000 in
theorem zd_107 : ∀ pc, pc < 21 → zchkD 107 pc = true := by decide +kernel
set_option maxRecDepth 1000000 in
theorem zd_108 : ∀ pc, pc < 31 → zchkD 108 pc = true := by decide +kernel
set_option maxRecDepth 1000000 in
theorem zd_109 : ∀ pc, pc < 21 → zchkD 109 pc = true := by decide +kernel
set_option maxRecDepth 1000000 in
theorem zd_110 : ∀ pc, pc < 20 → zchkD 110 pc = true := by decide +kernel
set_option maxRecDepth 1000000 in
theorem zd_111 : ∀ pc, pc < 24 → zchkD 111 pc = true := by decide +kernel
set_option maxRecDepth 1000000 in
theorem zd_112 : ∀ pc, pc < 41 → zchkD 112 pc = true := by decide +kernel
set_option maxRecDepth 1000000 in
theorem zd_113 : ∀ pc, pc < 31 → zchkD 113 pc = true := by decide +kernel
set_option maxRecDepth 1000000 in
theorem zd_114 : ∀ pc, pc < 128 → zchkD 114 pc = true := by decide +kernel
set_option maxRecDepth 1000000 in
theorem zd_115 : ∀ pc, pc < 29 → zchkD 115 pc = true := by decide +kernel
set_option maxRecDepth 1000000 in
theorem zd_116 : ∀ pc, pc < 55 → zchkD 116 pc = true := by decide +kernel
set_option maxRecDepth 1000000 in
theorem zd_117 : ∀ pc, pc < 21 → zchkD 117 pc = true := by decide +kernel
set_option maxRecDepth 1000000 in
theorem zd_118 : ∀ pc, pc < 18 → zchkD 118 pc = true := by decide +kernel
set_option maxRecDepth 1000000 in
theorem zd_119 : ∀ pc, pc < 84 → zchkD 119 pc = true := by decide +kernel
set_option maxRecDepth 1000000 in
theorem zd_120 : ∀ pc, pc < 12 → zchkD 120 pc = true := by decide +kernel
set_option maxRecDepth 1000000 in
theorem zd_121 : ∀ pc, pc < 57 → zchkD 121 pc = true := by decide +kernel
set_option maxRecDepth 1000000 in
theorem zd_122 : ∀ pc, pc < 22 → zchkD 122 pc = true := by decide +kernel
set_option maxRecDepth 1000000 in
theorem zd_123 : ∀ pc, pc < 102 → zchkD 123 pc = true := by decide +kernel
set_option maxRecDepth 1000000 in
theorem zd_124 : ∀ pc, pc < 97 → zchkD 124 pc = true := by decide +kernel
set_option maxRecDepth 1000000 in
theorem zd_125 : ∀ pc, pc < 15 → zchkD 125 pc = true := by decide +kernel
set_option maxRecDepth 1000000 in
theorem zd_126 : ∀ pc, pc < 16 → zchkD 126 pc = true := by decide +kernel
set_option maxRecDepth 1000000 in
theorem zd_127 : ∀ pc, pc < 15 → zchkD 127 pc = true := by decide +kernel
set_option maxRecDepth 1000000 in
theorem zd_128 : ∀ pc, pc < 18 → zchkD 128 pc = true := by decide +kernel
set_option maxRecDepth 1000000 in
theorem zd_129 : ∀ pc, pc < 21 → zchkD 129 pc = true := by decide +kernel
set_option maxRecDepth 1000000 in
theorem zd_130 : ∀ pc, pc < 21 → zchkD 130 pc = true := by decide +kernel
set_option maxRecDepth 1000000 in
theorem zd_131 : ∀ pc, pc < 18 → zchkD 131 pc = true := by decide +kernel
set_option maxRecDepth 1000000 in
theorem zd_132 : ∀ pc, pc < 36 → zchkD 132 pc = true := by decide +kernel
set_option maxRecDepth 1000000 in
theorem zd_133 : ∀ pc, pc < 15 → zchkD 133 pc = true := by decide +kernel
set_option maxRecDepth 1000000 in
theorem zd_134 : ∀ pc, pc < 79 → zchkD 134 pc = true := by decide +kernel
set_option maxRecDepth 1000000 in
theorem zd_135 : ∀ pc, pc < 15 → zchkD 135 pc = true := by decide +kernel
set_option maxRecDepth 1000000 in
theorem zd_136 : ∀ pc, pc < 45 → zchkD 136 pc = true := by decide +kernel
set_option maxRecDepth 1000000 in
theorem zd_137 : ∀ pc, pc < 32 → zchkD 137 pc = true := by decide +kernel
set_option maxRecDepth 1000000 in
theorem zd_138 : ∀ pc, pc < 201 → zchkD 138 pc = true := by decide +kernel
set_option maxRecDepth 1000000 in
theorem zd_139 : ∀ pc, pc < 59 → zchkD 139 pc = true := by decide +kernel
set_option maxRecDepth 1000000 in
theorem zd_140 : ∀ pc, pc < 16 → zchkD 140 pc = true := by decide +kernel
set_option maxRecDepth 1000000 in
theorem zd_141 : ∀ pc, pc < 18 → zchkD 141 pc = true := by decide +kernel
set_option maxRecDepth 1000000 in
theorem zd_142 : ∀ pc, pc < 30 → zchkD 142 pc = true := by decide +kernel
set_option maxRecDepth 1000000 in
theorem zd_143 : ∀ pc, pc < 28 → zchkD 143 pc = true := by decide +kernel
set_option maxRecDepth 1000000 in
theorem zd_144 : ∀ pc, pc < 18 → zchkD 144 pc = true := by decide +kernel
set_option maxRecDepth 1000000 in
theorem zd_145 : ∀ pc, pc < 17 → zchkD 145 pc = true := by decide +kernel
set_option maxRecDepth 1000000 in
theorem zd_146 : ∀ pc, pc < 228 → zchkD 146 pc = true := by decide +kernel
set_option maxRecDepth 1000000 in
theorem zd_147 : ∀ pc, pc < 5 → zchkD 147 pc = true := by decide +kernel
set_option maxRecDepth 1000000 in
theorem zd_148 : ∀ pc, pc < 6 → zchkD 148 pc = true := by decide +kernel
set_option maxRecDepth 1000000 in
theorem zd_149 : ∀ pc, pc < 8 → zchkD 149 pc = true := by decide +kernel
set_option maxRecDepth 1000000 in
theorem zd_150 : ∀ pc, pc < 8 → zchkD 150 pc = true := by decide +kernel
set_option maxRecDepth 1000000 in
theorem zd_151 : ∀ pc, pc < 15 → zchkD 151 pc = true := by decide +kernel
set_option maxRecDepth 1000000 in
theorem zd_152 : ∀ pc, pc < 31 → zchkD 152 pc = true := by decide +kernel
set_option maxRecDepth 1000000 in
theorem zd_153 : ∀ pc, pc < 8 → zchkD 153 pc = true := by decide +kernel
set_option maxRecDepth 1000000 in
theorem zd_154 : ∀ pc, pc < 8 → zchkD 154 pc = true := by decide +kernel
set_option maxRecDepth 1000000 in
theorem zd_155 : ∀ pc, pc < 8 → zchkD 155 pc = true := by decide +kernel
set_option maxRecDepth 1000000 in
theorem zd_156 : ∀ pc, pc < 11 → zchkD 156 pc = true := by decide +kernel
set_option maxRecDepth 1000000 in
theorem zd_157 : ∀ pc, pc < 23 → zchkD 157 pc = true := by decide +kernel
set_option maxRecDepth 1000000 in
theorem zd_158 : ∀ pc, pc < 53 → zchkD 158 pc = true := by decide +kernel
set_option maxRecDepth 1000000 in
theorem zd_159 : ∀ pc, pc < 54 → zchkD 159 pc = true := by decide +kernel
set_option maxRecDepth 1000000 in
theorem zd_160 : ∀ pc, pc < 90 → zchkD 160 pc = true := by decide +kernel
set_option maxRecDepth 1000000 in
theorem zd_161 : ∀ pc, pc < 21 → zchkD 161 pc = true := by decide +kernel
set_option maxRecDepth 1000000 in
theorem zd_162 : ∀ pc, pc < 43 → zchkD 162 pc = true := by decide +kernel
set_option maxRecDepth 1000000 in
theorem zd_163 : ∀ pc, pc < 135 → zchkD 163 pc = true := by decide +kernel
set_option maxRecDepth 1000000 in
theorem zd_164 : ∀ pc, pc < 143 → zchkD 164 pc = true := by decide +kernel
set_option maxRecDepth 1000000 in
theorem zd_165 : ∀ pc, pc < 24 → zchkD 165 pc = true := by decide +kernel
set_option maxRecDepth 1000000 in
theorem zd_166 : ∀ pc, pc < 61 → zchkD 166 pc = true := by decide +kernel
set_option maxRecDepth 1000000 in
theorem zd_167 : ∀ pc, pc < 47 → zchkD 167 pc = true := by decide +kernel
set_option maxRecDepth 1000000 in
theorem zd_168 : ∀ pc, pc < 24 → zchkD 168 pc = true := by decide +kernel
set_option maxRecDepth 1000000 in
theorem zd_169 : ∀ pc, pc < 20 → zchkD 169 pc = true := by decide +kernel
set_option maxRecDepth 1000000 in
theorem zd_170 : ∀ pc, pc < 19 → zchkD 170 pc = true := by decide +kernel
set_option maxRecDepth 1000000 in
theorem zd_171 : ∀ pc, pc < 14 → zchkD 171 pc = true := by decide +kernel
set_option maxRecDepth 1000000 in
theorem zd_172 : ∀ pc, pc < 105 → zchkD 172 pc = true := by decide +kernel
set_option maxRecDepth 1000000 in
theorem zd_173 : ∀ pc, pc < 24 → zchkD 173 pc = true := by decide +kernel
set_option maxRecDepth 1000000 in
theorem zd_174 : ∀ pc, pc < 14 → zchkD 174 pc = true := by decide +kernel
set_option maxRecDepth 1000000 in
theorem zd_175 : ∀ pc, pc < 21 → zchkD 175 pc = true := by decide +kernel
set_option maxRecDepth 1000000 in
theorem zd_176 : ∀ pc, pc < 14 → zchkD 176 pc = true := by decide +kernel
set_option maxRecDepth 1000000 in
theorem zd_177 : ∀ pc, pc < 14 → zchkD 177 pc = true := by decide +kernel
set_option maxRecDepth 1000000 in
theorem zd_178 : ∀ pc, pc < 17 → zchkD 178 pc = true := by decide +kernel
set_option maxRecDepth 1000000 in
theorem zd_179 : ∀ pc, pc < 14 → zchkD 179 pc = true := by decide +kernel
set_option maxRecDepth 1000000 in
theorem zd_180 : ∀ pc, pc < 8 → zchkD 180 pc = true := by decide +kernel
set_option maxRecDepth 1000000 in
theorem zd_181 : ∀ pc, pc < 12 → zchkD 181 pc = true := by decide +kernel
set_option maxRecDepth 1000000 in
theorem zd_182 : ∀ pc, pc < 24 → zchkD 182 pc = true := by decide +kernel
set_option maxRecDepth 1000000 in
theorem zd_183 : ∀ pc, pc < 119 → zchkD 183 pc = true := by decide +kernel
set_option maxRecDepth 1000000 in
theorem zd_184 : ∀ pc, pc < 12 → zchkD 184 pc = true := by decide +kernel
set_option maxRecDepth 1000000 in
theorem zd_185 : ∀ pc, pc < 14 → zchkD 185 pc = true := by decide +kernel
set_option maxRecDepth 1000000 in
theorem zd_186 : ∀ pc, pc < 27 → zchkD 186 pc = true := by decide +kernel
set_option maxRecDepth 1000000 in
theorem zd_187 : ∀ pc, pc < 54 → zchkD 187 pc = true := by decide +kernel
set_option maxRecDepth 1000000 in
theorem zd_188 : ∀ pc, pc < 68 → zchkD 188 pc = true := by decide +kernel
set_option maxRecDepth 1000000 in
theorem zd_189 : ∀ pc, pc < 8 → zchkD 189 pc = true := by decide +kernel
set_option maxRecDepth 1000000 in
theorem zd_190 : ∀ pc, pc < 29 → zchkD 190 pc = true := by decide +kernel
set_option maxRecDepth 1000000 in
theorem zd_191 : ∀ pc, pc < 72 → zchkD 191 pc = true := by decide +kernel
set_option maxRecDepth 1000000 in
theorem zd_192 : ∀ pc, pc < 57 → zchkD 192 pc = true := by decide +kernel
set_option maxRecDepth 1000000 in
theorem zd_193 : ∀ pc, pc < 23 → zchkD 193 pc = true := by decide +kernel
set_option maxRecDepth 1000000 in
theorem zd_194 : ∀ pc, pc < 57 → zchkD 194 pc = true := by decide +kernel
set_option maxRecDepth 1000000 in
theorem zd_195 : ∀ pc, pc < 64 → zchkD 195 pc = true := by decide +kernel
set_option maxRecDepth 1000000 in
theorem zd_196 : ∀ pc, pc < 61 → zchkD 196 pc = true := by decide +kernel
set_option maxRecDepth 1000000 in
theorem zd_197 : ∀ pc, pc < 67 → zchkD 197 pc = true := by decide +kernel
set_option maxRecDepth 1000000 in
theorem zd_198 : ∀ pc, pc < 54 → zchkD 198 pc = true := by decide +kernel
set_option maxRecDepth 1000000 in
theorem zd_199 : ∀ pc, pc < 70 → zchkD 199 pc = true := by decide +kernel
set_option maxRecDepth 1000000 in
theorem zd_200 : ∀ pc, pc < 18 → zchkD 200 pc = true := by decide +kernel
set_option maxRecDepth 1000000 in
theorem zd_201 : ∀ pc, pc < 52 → zchkD 201 pc = true := by decide +kernel
set_option maxRecDepth 1000000 in
theorem zd_202 : ∀ pc, pc < 25 → zchkD 202 pc = true := by decide +kernel
set_option maxRecDepth 1000000 in
theorem zd_203 : ∀ pc, pc < 8 → zchkD 203 pc = true := by decide +kernel
set_option maxRecDepth 1000000 in
theorem zd_204 : ∀ pc, pc < 9 → zchkD 204 pc = true := by decide +kernel
set_option maxRecDepth 1000000 in
theorem zd_205 : ∀ pc, pc < 5 → zchkD 205 pc = true := by decide +kernel
set_option maxRecDepth 1000000 in
theorem zd_206 : ∀ pc, pc < 7 → zchkD 206 pc = true := by decide +kernel
set_option maxRecDepth 1000000 in
theorem zd_207 : ∀ pc, pc < 32 → zchkD 207 pc = true := by decide +kernel
set_option maxRecDepth 1000000 in
theorem zd_208 : ∀ pc, pc < 19 → zchkD 208 pc = true := by decide +kernel
set_option maxRecDepth 1000000 in
theorem zd_209 : ∀ pc, pc < 107 → zchkD 209 pc = true := by decide +kernel
set_option maxRecDepth 1000000 in
theorem zd_210 : ∀ pc, pc < 8 → zchkD 210 pc = true := by decide +kernel
set_option maxRecDepth 1000000 in
theorem zd_211 : ∀ pc, pc < 15 → zchkD 211 pc = true := by decide +kernel
set_option maxRecDepth 1000000 in
theorem zd_212 : ∀ pc, pc < 15 → zchkD 212 pc = true := by decide +kernel
set_option maxRecDepth 1000000 in
theorem zd_213 : ∀ pc, pc < 20 → zchkD 213 pc = true := by decide +kernel
set_option maxRecDepth 1000000 in
theorem zd_214 : ∀ pc, pc < 20 → zchkD 214 pc = true := by decide +kernel
set_option maxRecDepth 1000000 in
theorem zd_215 : ∀ pc, pc < 312 → zchkD 215 pc = true := by decide +kernel
set_option maxRecDepth 1000000 in
theorem zd_216 : ∀ pc, pc < 336 → zchkD 216 pc = true := by decide +kernel
set_option maxRecDepth 1000000 in
theorem zd_217 : ∀ pc, pc < 123 → zchkD 217 pc = true := by decide +kernel
set_option maxRecDepth 1000000 in
theorem zd_218_0 : ∀ pc, pc < 246 → zchkD 218 pc = true := by decide +kernel
set_option maxRecDepth 1000000 in
theorem zc_218_1 : ∀ j, j < 123 → zchkD 218 (246 + j) = true := by decide +kernel
theorem zd_218_1 : ∀ pc, pc < 369 → zchkD 218 pc = true := zd_join (a := 246) (n := 123) zd_218_0 zc_218_1
set_option maxRecDepth 1000000 in
theorem zc_218_2 : ∀ j, j < 95 → zchkD 218 (369 + j) = true := by decide +kernel
theorem zd_218_2 : ∀ pc, pc < 464 → zchkD 218 pc = true := zd_join (a := 369) (n := 95) zd_218_1 zc_218_2
set_option maxRecDepth 1000000 in
theorem zc_218_3 : ∀ j, j < 80 → zchkD 218 (464 + j) = true := by decide +kernel
theorem zd_218_3 : ∀ pc, pc < 544 → zchkD 218 pc = true := zd_join (a := 464) (n := 80) zd_218_2 zc_218_3
set_option maxRecDepth 1000000 in
theorem zc_218_4 : ∀ j, j < 71 → zchkD 218 (544 + j) = true := by decide +kernel
theorem zd_218_4 : ∀ pc, pc < 615 → zchkD 218 pc = true := zd_join (a := 544) (n := 71) zd_218_3 zc_218_4
set_option maxRecDepth 1000000 in
theorem zc_218_5 : ∀ j, j < 64 → zchkD 218 (615 + j) = true := by decide +kernel
theorem zd_218_5 : ∀ pc, pc < 679 → zchkD 218 pc = true := zd_join (a := 615) (n := 64) zd_218_4 zc_218_5
set_option maxRecDepth 1000000 in
theorem zc_218_6 : ∀ j, j < 59 → zchkD 218 (679 + j) = true := by decide +kernel
theorem zd_218_6 : ∀ pc, pc < 738 → zchkD 218 pc = true := zd_join (a := 679) (n := 59) zd_218_5 zc_218_6
set_option maxRecDepth 1000000 in
theorem zc_218_7 : ∀ j, j < 50 → zchkD 218 (738 + j) = true := by decide +kernel
theorem zd_218_7 : ∀ pc, pc < 788 → zchkD 218 pc = true := zd_join (a := 738) (n := 50) zd_218_6 zc_218_7
theorem zd_218 : ∀ pc, pc < 788 → zchkD 218 pc = true := zd_218_7
set_option maxRecDepth 1000000 in
theorem zd_219 : ∀ pc, pc < 16 → zchkD 219 pc = true := by decide +kernel
set_option maxRecDepth 1000000 in
theorem zd_220_0 : ∀ pc, pc < 246 → zchkD 220 pc = true := by decide +kernel
set_option maxRecDepth 1000000 in
theorem zc_220_1 : ∀ j, j < 123 → zchkD 220 (246 + j) = true := by decide +kernel
theorem zd_220_1 : ∀ pc, pc < 369 → zchkD 220 pc = true := zd_join (a := 246) (n := 123) zd_220_0 zc_220_1
set_option maxRecDepth 1000000 in
theorem zc_220_2 : ∀ j, j < 95 → zchkD 220 (369 + j) = true := by decide +kernel
theorem zd_220_2 : ∀ pc, pc < 464 → zchkD 220 pc = true := zd_join (a := 369) (n := 95) zd_220_1 zc_220_2
set_option maxRecDepth 1000000 in
theorem zc_220_3 : ∀ j, j < 58 → zchkD 220 (464 + j) = true := by decide +kernel
theorem zd_220_3 : ∀ pc, pc < 522 → zchkD 220 pc = true := zd_join (a := 464) (n := 58) zd_220_2 zc_220_3
theorem zd_220 : ∀ pc, pc < 522 → zchkD 220 pc = true := zd_220_3
set_option maxRecDepth 1000000 in
theorem zd_221 : ∀ pc, pc < 28 → zchkD 221 pc = true := by decide +kernel
set_option maxRecDepth 1000000 in
theorem zd_222 : ∀ pc, pc < 28 → zchkD 222 pc = true := by decide +kernel
set_option maxRecDepth 1000000 in
theorem zd_223 : ∀ pc, pc < 11 → zchkD 223 pc = true := by decide +kernel
set_option maxRecDepth 1000000 in
theorem zd_224 : ∀ pc, pc < 11 → zchkD 224 pc = true := by decide +kernel
set_option maxRecDepth 1000000 in
theorem zd_225 : ∀ pc, pc < 20 → zchkD 225 pc = true := by decide +kernel
set_option maxRecDepth 1000000 in
theorem zd_226 : ∀ pc, pc < 61 → zchkD 226 pc = true := by decide +kernel
set_option maxRecDepth 1000000 in
theorem zd_227 : ∀ pc, pc < 26 → zchkD 227 pc = true := by decide +kernel
set_option maxRecDepth 1000000 in
theorem zd_228 : ∀ pc, pc < 23 → zchkD 228 pc = true := by decide +kernel
set_option maxRecDepth 1000000 in
theorem zd_229 : ∀ pc, pc < 25 → zchkD 229 pc = true := by decide +kernel
set_option maxRecDepth 1000000 in
theorem zd_230 : ∀ pc, pc < 33 → zchkD 230 pc = true := by decide +kernel
set_option maxRecDepth 1000000 in
theorem zd_231 : ∀ pc, pc < 38 → zchkD 231 pc = true := by decide +kernel
set_option maxRecDepth 1000000 in
theorem zd_232 : ∀ pc, pc < 21 → zchkD 232 pc = true := by decide +kernel
set_option maxRecDepth 1000000 in
theorem zd_233 : ∀ pc, pc < 15 → zchkD 233 pc = true := by decide +kernel
set_option maxRecDepth 1000000 in
theorem zd_234 : ∀ pc, pc < 12 → zchkD 234 pc = true := by decide +kernel
set_option maxRecDepth 1000000 in
theorem zd_235 : ∀ pc, pc < 16 → zchkD 235 pc = true := by decide +kernel
set_option maxRecDepth 1000000 in
theorem zd_236 : ∀ pc, pc < 12 → zchkD 236 pc = true := by decide +kernel
set_option maxRecDepth 1000000 in
theorem zd_237 : ∀ pc, pc < 63 → zchkD 237 pc = true := by decide +kernel
set_option maxRecDepth 1000000 in
theorem zd_238 : ∀ pc, pc < 45 → zchkD 238 pc = true := by decide +kernel
set_option maxRecDepth 1000000 in
theorem zd_239 : ∀ pc, pc < 39 → zchkD 239 pc = true := by decide +kernel
set_option maxRecDepth 1000000 in
theorem zd_240 : ∀ pc, pc < 59 → zchkD 240 pc = true := by decide +kernel
set_option maxRecDepth 1000000 in
theorem zd_241 : ∀ pc, pc < 19 → zchkD 241 pc = true := by decide +kernel
set_option maxRecDepth 1000000 in
theorem zd_242 : ∀ pc, pc < 19 → zchkD 242 pc = true := by decide +kernel
set_option maxRecDepth 1000000 in
theorem zd_243 : ∀ pc, pc < 22 → zchkD 243 pc = true := by decide +kernel
set_option maxRecDepth 1000000 in
theorem zd_244 : ∀ pc, pc < 77 → zchkD 244 pc = true := by decide +kernel
set_option maxRecDepth 1000000 in
theorem zd_245 : ∀ pc, pc < 55 → zchkD 245 pc = true := by decide +kernel
set_option maxRecDepth 1000000 in
theorem zd_246 : ∀ pc, pc < 5 → zchkD 246 pc = true := by decide +kernel
set_option maxRecDepth 1000000 in
theorem zd_247 : ∀ pc, pc < 5 → zchkD 247 pc = true := by decide +kernel
set_option maxRecDepth 1000000 in
theorem zd_248 : ∀ pc, pc < 39 → zchkD 248 pc = true := by decide +kernel
set_option maxRecDepth 1000000 in
theorem zd_249 : ∀ pc, pc < 11 → zchkD 249 pc = true := by decide +kernel
set_option maxRecDepth 1000000 in
theorem zd_250 : ∀ pc, pc < 15 → zchkD 250 pc = true := by decide +kernel
set_option maxRecDepth 1000000 in
theorem zd_251 : ∀ pc, pc < 25 → zchkD 251 pc = true := by decide +kernel
set_option maxRecDepth 1000000 in
theorem zd_252 : ∀ pc, pc < 19 → zchkD 252 pc = true := by decide +kernel
set_option maxRecDepth 1000000 in
theorem zd_253 : ∀ pc, pc < 7 → zchkD 253 pc = true := by decide +kernel
set_option maxRecDepth 1000000 in
theorem zd_254 : ∀ pc, pc < 98 → zchkD 254 pc = true := by decide +kernel
set_option maxRecDepth 1000000 in
theorem zd_255 : ∀ pc, pc < 47 → zchkD 255 pc = true := by decide +kernel
set_option maxRecDepth 1000000 in
theorem zd_256 : ∀ pc, pc < 121 → zchkD 256 pc = true := by decide +kernel
set_option maxRecDepth 1000000 in
theorem zd_257 : ∀ pc, pc < 80 → zchkD 257 pc = true := by decide +kernel
set_option maxRecDepth 1000000 in
theorem zd_258 : ∀ pc, pc < 27 → zchkD 258 pc = true := by decide +kernel
set_option maxRecDepth 1000000 in
theorem zd_259 : ∀ pc, pc < 15 → zchkD 259 pc = true := by decide +kernel
set_option maxRecDepth 1000000 in
theorem zd_260 : ∀ pc, pc < 13 → zchkD 260 pc = true := by decide +kernel
set_option maxRecDepth 1000000 in
theorem zd_261 : ∀ pc, pc < 318 → zchkD 261 pc = true := by decide +kernel
theorem ze_0 (pc : Nat) (r : Instr × Nat) (h : zc_0 pc = some r) : decode (zbytes 0) pc = .ok r ∧ (zilen r.1 = 0 ∨ r.2 = zilen r.1) ∧ zjok pc r.1 = true := by
  have h2 : zcode 0 pc = some r := h
  revert h
  exact tr_g fun hp _ => zchkD_ok zd_0 hp h2
theorem ze_1 (pc : Nat) (r : Instr × Nat) (h : zc_1 pc = some r) : decode (zbytes 1) pc = .ok r ∧ (zilen r.1 = 0 ∨ r.2 = zilen r.1) ∧ zjok pc r.1 = true := by
  have h2 : zcode 1 pc = some r := h
  revert h
  exact tr_g fun hp _ => zchkD_ok zd_1 hp h2
theorem ze_2 (pc : Nat) (r : Instr × Nat) (h : zc_2 pc = some r) : decode (zbytes 2) pc = .ok r ∧ (zilen r.1 = 0 ∨ r.2 = zilen r.1) ∧ zjok pc r.1 = true := by
  have h2 : zcode 2 pc = some r := h
  revert h
  exact tr_g fun hp _ => zchkD_ok zd_2 hp h2
theorem ze_3 (pc : Nat) (r : Instr × Nat) (h : zc_3 pc = some r) : decode (zbytes 3) pc = .ok r ∧ (zilen r.1 = 0 ∨ r.2 = zilen r.1) ∧ zjok pc r.1 = true := by
  have h2 : zcode 3 pc = some r := h
  revert h
  exact tr_g fun hp _ => zchkD_ok zd_3 hp h2
theorem ze_4 (pc : Nat) (r : Instr × Nat) (h : zc_4 pc = some r) : decode (zbytes 4) pc = .ok r ∧ (zilen r.1 = 0 ∨ r.2 = zilen r.1) ∧ zjok pc r.1 = true := by
  have h2 : zcode 4 pc = some r := h
  revert h
  exact tr_g fun hp _ => zchkD_ok zd_4 hp h2
theorem ze_5 (pc : Nat) (r : Instr × Nat) (h : zc_5 pc = some r) : decode (zbytes 5) pc = .ok r ∧ (zilen r.1 = 0 ∨ r.2 = zilen r.1) ∧ zjok pc r.1 = true := by
  have h2 : zcode 5 pc = some r := h
  revert h
  exact tr_g fun hp _ => zchkD_ok zd_5 hp h2
theorem ze_6 (pc : Nat) (r : Instr × Nat) (h : zc_6 pc = some r) : decode (zbytes 6) pc = .ok r ∧ (zilen r.1 = 0 ∨ r.2 = zilen r.1) ∧ zjok pc r.1 = true := by
  have h2 : zcode 6 pc = some r := h
  revert h
  exact tr_g fun hp _ => zchkD_ok zd_6 hp h2
theorem ze_7 (pc : Nat) (r : Instr × Nat) (h : zc_7 pc = some r) : decode (zbytes 7) pc = .ok r ∧ (zilen r.1 = 0 ∨ r.2 = zilen r.1) ∧ zjok pc r.1 = true := by
  have h2 : zcode 7 pc = some r := h
  revert h
  exact tr_g fun hp _ => zchkD_ok zd_7 hp h2
theorem ze_8 (pc : Nat) (r : Instr × Nat) (h : zc_8 pc = some r) : decode (zbytes 8) pc = .ok r ∧ (zilen r.1 = 0 ∨ r.2 = zilen r.1) ∧ zjok pc r.1 = true := by
  have h2 : zcode 8 pc = some r := h
  revert h
  exact tr_g fun hp _ => zchkD_ok zd_8 hp h2
theorem ze_9 (pc : Nat) (r : Instr × Nat) (h : zc_9 pc = some r) : decode (zbytes 9) pc = .ok r ∧ (zilen r.1 = 0 ∨ r.2 = zilen r.1) ∧ zjok pc r.1 = true := by
  have h2 : zcode 9 pc = some r := h
  revert h
  exact tr_g fun hp _ => zchkD_ok zd_9 hp h2
theorem ze_10 (pc : Nat) (r : Instr × Nat) (h : zc_10 pc = some r) : decode (zbytes 10) pc = .ok r ∧ (zilen r.1 = 0 ∨ r.2 = zilen r.1) ∧ zjok pc r.1 = true := by
  have h2 : zcode 10 pc = some r := h
  revert h
  exact tr_g fun hp _ => zchkD_ok zd_10 hp h2
theorem ze_11 (pc : Nat) (r : Instr × Nat) (h : zc_11 pc = some r) : decode (zbytes 11) pc = .ok r ∧ (zilen r.1 = 0 ∨ r.2 = zilen r.1) ∧ zjok pc r.1 = true := by
  have h2 : zcode 11 pc = some r := h
  revert h
  exact tr_g fun hp _ => zchkD_ok zd_11 hp h2
theorem ze_12 (pc : Nat) (r : Instr × Nat) (h : zc_12 pc = some r) : decode (zbytes 12) pc = .ok r ∧ (zilen r.1 = 0 ∨ r.2 = zilen r.1) ∧ zjok pc r.1 = true := by
  have h2 : zcode 12 pc = some r := h
  revert h
  exact tr_g fun hp _ => zchkD_ok zd_12 hp h2
theorem ze_13 (pc : Nat) (r : Instr × Nat) (h : zc_13 pc = some r) : decode (zbytes 13) pc = .ok r ∧ (zilen r.1 = 0 ∨ r.2 = zilen r.1) ∧ zjok pc r.1 = true := by
  have h2 : zcode 13 pc = some r := h
  revert h
  exact tr_g fun hp _ => zchkD_ok zd_13 hp h2
theorem ze_14 (pc : Nat) (r : Instr × Nat) (h : zc_14 pc = some r) : decode (zbytes 14) pc = .ok r ∧ (zilen r.1 = 0 ∨ r.2 = zilen r.1) ∧ zjok pc r.1 = true := by
  have h2 : zcode 14 pc = some r := h
  revert h
  exact tr_g fun hp _ => zchkD_ok zd_14 hp h2
theorem ze_15 (pc : Nat) (r : Instr × Nat) (h : zc_15 pc = some r) : decode (zbytes 15) pc = .ok r ∧ (zilen r.1 = 0 ∨ r.2 = zilen r.1) ∧ zjok pc r.1 = true := by
  have h2 : zcode 15 pc = some r := h
  revert h
  exact tr_g fun hp _ => zchkD_ok zd_15 hp h2
theorem ze_16 (pc : Nat) (r : Instr × Nat) (h : zc_16 pc = some r) : decode (zbytes 16) pc = .ok r ∧ (zilen r.1 = 0 ∨ r.2 = zilen r.1) ∧ zjok pc r.1 = true := by
  have h2 : zcode 16 pc = some r := h
  revert h
  exact tr_g fun hp _ => zchkD_ok zd_16 hp h2
theorem ze_17 (pc : Nat) (r : Instr × Nat) (h : zc_17 pc = some r) : decode (zbytes 17) pc = .ok r ∧ (zilen r.1 = 0 ∨ r.2 = zilen r.1) ∧ zjok pc r.1 = true := by
  have h2 : zcode 17 pc = some r := h
  revert h
  exact tr_g fun hp _ => zchkD_ok zd_17 hp h2
theorem ze_18 (pc : Nat) (r : Instr × Nat) (h : zc_18 pc = some r) : decode (zbytes 18) pc = .ok r ∧ (zilen r.1 = 0 ∨ r.2 = zilen r.1) ∧ zjok pc r.1 = true := by
  have h2 : zcode 18 pc = some r := h
  revert h
  exact tr_g fun hp _ => zchkD_ok zd_18 hp h2
theorem ze_19 (pc : Nat) (r : Instr × Nat) (h : zc_19 pc = some r) : decode (zbytes 19) pc = .ok r ∧ (zilen r.1 = 0 ∨ r.2 = zilen r.1) ∧ zjok pc r.1 = true := by
  have h2 : zcode 19 pc = some r := h
  revert h
  exact tr_g fun hp _ => zchkD_ok zd_19 hp h2
theorem ze_20 (pc : Nat) (r : Instr × Nat) (h : zc_20 pc = some r) : decode (zbytes 20) pc = .ok r ∧ (zilen r.1 = 0 ∨ r.2 = zilen r.1) ∧ zjok pc r.1 = true := by
  have h2 : zcode 20 pc = some r := h
  revert h
  exact tr_g fun hp _ => zchkD_ok zd_20 hp h2
theorem ze_21 (pc : Nat) (r : Instr × Nat) (h : zc_21 pc = some r) : decode (zbytes 21) pc = .ok r ∧ (zilen r.1 = 0 ∨ r.2 = zilen r.1) ∧ zjok pc r.1 = true := by
  have h2 : zcode 21 pc = some r := h
  revert h
  exact tr_g fun hp _ => zchkD_ok zd_21 hp h2
theorem ze_22 (pc : Nat) (r : Instr × Nat) (h : zc_22 pc = some r) : decode (zbytes 22) pc = .ok r ∧ (zilen r.1 = 0 ∨ r.2 = zilen r.1) ∧ zjok pc r.1 = true := by
  have h2 : zcode 22 pc = some r := h
  revert h
  exact tr_g fun hp _ => zchkD_ok zd_22 hp h2
theorem ze_23 (pc : Nat) (r : Instr × Nat) (h : zc_23 pc = some r) : decode (zbytes 23) pc = .ok r ∧ (zilen r.1 = 0 ∨ r.2 = zilen r.1) ∧ zjok pc r.1 = true := by
  have h2 : zcode 23 pc = some r := h
  revert h
  exact tr_g fun hp _ => zchkD_ok zd_23 hp h2
theorem ze_24 (pc : Nat) (r : Instr × Nat) (h : zc_24 pc = some r) : decode (zbytes 24) pc = .ok r ∧ (zilen r.1 = 0 ∨ r.2 = zilen r.1) ∧ zjok pc r.1 = true := by
  have h2 : zcode 24 pc = some r := h
  revert h
  exact tr_g fun hp _ => zchkD_ok zd_24 hp h2
theorem ze_25 (pc : Nat) (r : Instr × Nat) (h : zc_25 pc = some r) : decode (zbytes 25) pc = .ok r ∧ (zilen r.1 = 0 ∨ r.2 = zilen r.1) ∧ zjok pc r.1 = true := by
  have h2 : zcode 25 pc = some r := h
  revert h
  exact tr_g fun hp _ => zchkD_ok zd_25 hp h2
theorem ze_26 (pc : Nat) (r : Instr × Nat) (h : zc_26 pc = some r) : decode (zbytes 26) pc = .ok r ∧ (zilen r.1 = 0 ∨ r.2 = zilen r.1) ∧ zjok pc r.1 = true := by
  have h2 : zcode 26 pc = some r := h
  revert h
  exact tr_g fun hp _ => zchkD_ok zd_26 hp h2
theorem ze_27 (pc : Nat) (r : Instr × Nat) (h : zc_27 pc = some r) : decode (zbytes 27) pc = .ok r ∧ (zilen r.1 = 0 ∨ r.2 = zilen r.1) ∧ zjok pc r.1 = true := by
  have h2 : zcode 27 pc = some r := h
  revert h
  exact tr_g fun hp _ => zchkD_ok zd_27 hp h2
theorem ze_28 (pc : Nat) (r : Instr × Nat) (h : zc_28 pc = some r) : decode (zbytes 28) pc = .ok r ∧ (zilen r.1 = 0 ∨ r.2 = zilen r.1) ∧ zjok pc r.1 = true := by
  have h2 : zcode 28 pc = some r := h
  revert h
  exact tr_g fun hp _ => zchkD_ok zd_28 hp h2
theorem ze_29 (pc : Nat) (r : Instr × Nat) (h : zc_29 pc = some r) : decode (zbytes 29) pc = .ok r ∧ (zilen r.1 = 0 ∨ r.2 = zilen r.1) ∧ zjok pc r.1 = true := by
  have h2 : zcode 29 pc = some r := h
  revert h
  exact tr_g fun hp _ => zchkD_ok zd_29 hp h2
theorem ze_30 (pc : Nat) (r : Instr × Nat) (h : zc_30 pc = some r) : decode (zbytes 30) pc = .ok r ∧ (zilen r.1 = 0 ∨ r.2 = zilen r.1) ∧ zjok pc r.1 = true := by
  have h2 : zcode 30 pc = some r := h
  revert h
  exact tr_g fun hp _ => zchkD_ok zd_30 hp h2
theorem ze_31 (pc : Nat) (r : Instr × Nat) (h : zc_31 pc = some r) : decode (zbytes 31) pc = .ok r ∧ (zilen r.1 = 0 ∨ r.2 = zilen r.1) ∧ zjok pc r.1 = true := by
  have h2 : zcode 31 pc = some r := h
  revert h
  exact tr_g fun hp _ => zchkD_ok zd_31 hp h2
theorem ze_32 (pc : Nat) (r : Instr × Nat) (h : zc_32 pc = some r) : decode (zbytes 32) pc = .ok r ∧ (zilen r.1 = 0 ∨ r.2 = zilen r.1) ∧ zjok pc r.1 = true := by
  have h2 : zcode 32 pc = some r := h
  revert h
  exact tr_g fun hp _ => zchkD_ok zd_32 hp h2
theorem ze_33 (pc : Nat) (r : Instr × Nat) (h : zc_33 pc = some r) : decode (zbytes 33) pc = .ok r ∧ (zilen r.1 = 0 ∨ r.2 = zilen r.1) ∧ zjok pc r.1 = true := by
  have h2 : zcode 33 pc = some r := h
  revert h
  exact tr_g fun hp _ => zchkD_ok zd_33 hp h2
theorem ze_34 (pc : Nat) (r : Instr × Nat) (h : zc_34 pc = some r) : decode (zbytes 34) pc = .ok r ∧ (zilen r.1 = 0 ∨ r.2 = zilen r.1) ∧ zjok pc r.1 = true := by
  have h2 : zcode 34 pc = some r := h
  revert h
  exact tr_g fun hp _ => zchkD_ok zd_34 hp h2
theorem ze_35 (pc : Nat) (r : Instr × Nat) (h : zc_35 pc = some r) : decode (zbytes 35) pc = .ok r ∧ (zilen r.1 = 0 ∨ r.2 = zilen r.1) ∧ zjok pc r.1 = true := by
  have h2 : zcode 35 pc = some r := h
  revert h
  exact tr_g fun hp _ => zchkD_ok zd_35 hp h2
theorem ze_36 (pc : Nat) (r : Instr × Nat) (h : zc_36 pc = some r) : decode (zbytes 36) pc = .ok r ∧ (zilen r.1 = 0 ∨ r.2 = zilen r.1) ∧ zjok pc r.1 = true := by
  have h2 : zcode 36 pc = some r := h
  revert h
  exact tr_g fun hp _ => zchkD_ok zd_36 hp h2
theorem ze_37 (pc : Nat) (r : Instr × Nat) (h : zc_37 pc = some r) : decode (zbytes 37) pc = .ok r ∧ (zilen r.1 = 0 ∨ r.2 = zilen r.1) ∧ zjok pc r.1 = true := by
  have h2 : zcode 37 pc = some r := h
  revert h
  exact tr_g fun hp _ => zchkD_ok zd_37 hp h2
theorem ze_38 (pc : Nat) (r : Instr × Nat) (h : zc_38 pc = some r) : decode (zbytes 38) pc = .ok r ∧ (zilen r.1 = 0 ∨ r.2 = zilen r.1) ∧ zjok pc r.1 = true := by
  have h2 : zcode 38 pc = some r := h
  revert h
  exact tr_g fun hp _ => zchkD_ok zd_38 hp h2
theorem ze_39 (pc : Nat) (r : Instr × Nat) (h : zc_39 pc = some r) : decode (zbytes 39) pc = .ok r ∧ (zilen r.1 = 0 ∨ r.2 = zilen r.1) ∧ zjok pc r.1 = true := by
  have h2 : zcode 39 pc = some r := h
  revert h
  exact tr_g fun hp _ => zchkD_ok zd_39 hp h2
theorem ze_40 (pc : Nat) (r : Instr × Nat) (h : zc_40 pc = some r) : decode (zbytes 40) pc = .ok r ∧ (zilen r.1 = 0 ∨ r.2 = zilen r.1) ∧ zjok pc r.1 = true := by
  have h2 : zcode 40 pc = some r := h
  revert h
  exact tr_g fun hp _ => zchkD_ok zd_40 hp h2
theorem ze_41 (pc : Nat) (r : Instr × Nat) (h : zc_41 pc = some r) : decode (zbytes 41) pc = .ok r ∧ (zilen r.1 = 0 ∨ r.2 = zilen r.1) ∧ zjok pc r.1 = true := by
  have h2 : zcode 41 pc = some r := h
  revert h
  exact tr_g fun hp _ => zchkD_ok zd_41 hp h2
theorem ze_42 (pc : Nat) (r : Instr × Nat) (h : zc_42 pc = some r) : decode (zbytes 42) pc = .ok r ∧ (zilen r.1 = 0 ∨ r.2 = zilen r.1) ∧ zjok pc r.1 = true := by
  have h2 : zcode 42 pc = some r := h
  revert h
  exact tr_g fun hp _ => zchkD_ok zd_42 hp h2
theorem ze_43 (pc : Nat) (r : Instr × Nat) (h : zc_43 pc = some r) : decode (zbytes 43) pc = .ok r ∧ (zilen r.1 = 0 ∨ r.2 = zilen r.1) ∧ zjok pc r.1 = true := by
  have h2 : zcode 43 pc = some r := h
  revert h
  exact tr_g fun hp _ => zchkD_ok zd_43 hp h2
theorem ze_44 (pc : Nat) (r : Instr × Nat) (h : zc_44 pc = some r) : decode (zbytes 44) pc = .ok r ∧ (zilen r.1 = 0 ∨ r.2 = zilen r.1) ∧ zjok pc r.1 = true := by
  have h2 : zcode 44 pc = some r := h
  revert h
  exact tr_g fun hp _ => zchkD_ok zd_44 hp h2
theorem ze_45 (pc : Nat) (r : Instr × Nat) (h : zc_45 pc = some r) : decode (zbytes 45) pc = .ok r ∧ (zilen r.1 = 0 ∨ r.2 = zilen r.1) ∧ zjok pc r.1 = true := by
  have h2 : zcode 45 pc = some r := h
  revert h
  exact tr_g fun hp _ => zchkD_ok zd_45 hp h2
theorem ze_46 (pc : Nat) (r : Instr × Nat) (h : zc_46 pc = some r) : decode (zbytes 46) pc = .ok r ∧ (zilen r.1 = 0 ∨ r.2 = zilen r.1) ∧ zjok pc r.1 = true := by
  have h2 : zcode 46 pc = some r := h
  revert h
  exact tr_g fun hp _ => zchkD_ok zd_46 hp h2
theorem ze_47 (pc : Nat) (r : Instr × Nat) (h : zc_47 pc = some r) : decode (zbytes 47) pc = .ok r ∧ (zilen r.1 = 0 ∨ r.2 = zilen r.1) ∧ zjok pc r.1 = true := by
  have h2 : zcode 47 pc = some r := h
  revert h
  exact tr_g fun hp _ => zchkD_ok zd_47 hp h2
theorem ze_48 (pc : Nat) (r : Instr × Nat) (h : zc_48 pc = some r) : decode (zbytes 48) pc = .ok r ∧ (zilen r.1 = 0 ∨ r.2 = zilen r.1) ∧ zjok pc r.1 = true := by
  have h2 : zcode 48 pc = some r := h
  revert h
  exact tr_g fun hp _ => zchkD_ok zd_48 hp h2
theorem ze_49 (pc : Nat) (r : Instr × Nat) (h : zc_49 pc = some r) : decode (zbytes 49) pc = .ok r ∧ (zilen r.1 = 0 ∨ r.2 = zilen r.1) ∧ zjok pc r.1 = true := by
  have h2 : zcode 49 pc = some r := h
  revert h
  exact tr_g fun hp _ => zchkD_ok zd_49 hp h2
theorem ze_50 (pc : Nat) (r : Instr × Nat) (h : zc_50 pc = some r) : decode (zbytes 50) pc = .ok r ∧ (zilen r.1 = 0 ∨ r.2 = zilen r.1) ∧ zjok pc r.1 = true := by
  have h2 : zcode 50 pc = some r := h
  revert h
  exact tr_g fun hp _ => zchkD_ok zd_50 hp h2
theorem ze_51 (pc : Nat) (r : Instr × Nat) (h : zc_51 pc = some r) : decode (zbytes 51) pc = .ok r ∧ (zilen r.1 = 0 ∨ r.2 = zilen r.1) ∧ zjok pc r.1 = true := by
  have h2 : zcode 51 pc = some r := h
  revert h
  exact tr_g fun hp _ => zchkD_ok zd_51 hp h2
theorem ze_52 (pc : Nat) (r : Instr × Nat) (h : zc_52 pc = some r) : decode (zbytes 52) pc = .ok r ∧ (zilen r.1 = 0 ∨ r.2 = zilen r.1) ∧ zjok pc r.1 = true := by
  have h2 : zcode 52 pc = some r := h
  revert h
  exact tr_g fun hp _ => zchkD_ok zd_52 hp h2
theorem ze_53 (pc : Nat) (r : Instr × Nat) (h : zc_53 pc = some r) : decode (zbytes 53) pc = .ok r ∧ (zilen r.1 = 0 ∨ r.2 = zilen r.1) ∧ zjok pc r.1 = true := by
  have h2 : zcode 53 pc = some r := h
  revert h
  exact tr_g fun hp _ => zchkD_ok zd_53 hp h2
theorem ze_54 (pc : Nat) (r : Instr × Nat) (h : zc_54 pc = some r) : decode (zbytes 54) pc = .ok r ∧ (zilen r.1 = 0 ∨ r.2 = zilen r.1) ∧ zjok pc r.1 = true := by
  have h2 : zcode 54 pc = some r := h
  revert h
  exact tr_g fun hp _ => zchkD_ok zd_54 hp h2
theorem ze_55 (pc : Nat) (r : Instr × Nat) (h : zc_55 pc = some r) : decode (zbytes 55) pc = .ok r ∧ (zilen r.1 = 0 ∨ r.2 = zilen r.1) ∧ zjok pc r.1 = true := by
  have h2 : zcode 55 pc = some r := h
  revert h
  exact tr_g fun hp _ => zchkD_ok zd_55 hp h2
theorem ze_56 (pc : Nat) (r : Instr × Nat) (h : zc_56 pc = some r) : decode (zbytes 56) pc = .ok r ∧ (zilen r.1 = 0 ∨ r.2 = zilen r.1) ∧ zjok pc r.1 = true := by
  have h2 : zcode 56 pc = some r := h
  revert h
  exact tr_g fun hp _ => zchkD_ok zd_56 hp h2
theorem ze_57 (pc : Nat) (r : Instr × Nat) (h : zc_57 pc = some r) : decode (zbytes 57) pc = .ok r ∧ (zilen r.1 = 0 ∨ r.2 = zilen r.1) ∧ zjok pc r.1 = true := by
  have h2 : zcode 57 pc = some r := h
  revert h
  exact tr_g fun hp _ => zchkD_ok zd_57 hp h2
theorem ze_58 (pc : Nat) (r : Instr × Nat) (h : zc_58 pc = some r) : decode (zbytes 58) pc = .ok r ∧ (zilen r.1 = 0 ∨ r.2 = zilen r.1) ∧ zjok pc r.1 = true := by
  have h2 : zcode 58 pc = some r := h
  revert h
  exact tr_g fun hp _ => zchkD_ok zd_58 hp h2
theorem ze_59 (pc : Nat) (r : Instr × Nat) (h : zc_59 pc = some r) : decode (zbytes 59) pc = .ok r ∧ (zilen r.1 = 0 ∨ r.2 = zilen r.1) ∧ zjok pc r.1 = true := by
  have h2 : zcode 59 pc = some r := h
  revert h
  exact tr_g fun hp _ => zchkD_ok zd_59 hp h2
theorem ze_60 (pc : Nat) (r : Instr × Nat) (h : zc_60 pc = some r) : decode (zbytes 60) pc = .ok r ∧ (zilen r.1 = 0 ∨ r.2 = zilen r.1) ∧ zjok pc r.1 = true := by
  have h2 : zcode 60 pc = some r := h
  revert h
  exact tr_g fun hp _ => zchkD_ok zd_60 hp h2
theorem ze_61 (pc : Nat) (r : Instr × Nat) (h : zc_61 pc = some r) : decode (zbytes 61) pc = .ok r ∧ (zilen r.1 = 0 ∨ r.2 = zilen r.1) ∧ zjok pc r.1 = true := by
  have h2 : zcode 61 pc = some r := h
  revert h
  exact tr_g fun hp _ => zchkD_ok zd_61 hp h2
theorem ze_62 (pc : Nat) (r : Instr × Nat) (h : zc_62 pc = some r) : decode (zbytes 62) pc = .ok r ∧ (zilen r.1 = 0 ∨ r.2 = zilen r.1) ∧ zjok pc r.1 = true := by
  have h2 : zcode 62 pc = some r := h
  revert h
  exact tr_g fun hp _ => zchkD_ok zd_62 hp h2
theorem ze_63 (pc : Nat) (r : Instr × Nat) (h : zc_63 pc = some r) : decode (zbytes 63) pc = .ok r ∧ (zilen r.1 = 0 ∨ r.2 = zilen r.1) ∧ zjok pc r.1 = true := by
  have h2 : zcode 63 pc = some r := h
  revert h
  exact tr_g fun hp _ => zchkD_ok zd_63 hp h2
theorem ze_64 (pc : Nat) (r : Instr × Nat) (h : zc_64 pc = some r) : decode (zbytes 64) pc = .ok r ∧ (zilen r.1 = 0 ∨ r.2 = zilen r.1) ∧ zjok pc r.1 = true := by
  have h2 : zcode 64 pc = some r := h
  revert h
  exact tr_g fun hp _ => zchkD_ok zd_64 hp h2
theorem ze_65 (pc : Nat) (r : Instr × Nat) (h : zc_65 pc = some r) : decode (zbytes 65) pc = .ok r ∧ (zilen r.1 = 0 ∨ r.2 = zilen r.1) ∧ zjok pc r.1 = true := by
  have h2 : zcode 65 pc = some r := h
  revert h
  exact tr_g fun hp _ => zchkD_ok zd_65 hp h2
theorem ze_66 (pc : Nat) (r : Instr × Nat) (h : zc_66 pc = some r) : decode (zbytes 66) pc = .ok r ∧ (zilen r.1 = 0 ∨ r.2 = zilen r.1) ∧ zjok pc r.1 = true := by
  have h2 : zcode 66 pc = some r := h
  revert h
  exact tr_g fun hp _ => zchkD_ok zd_66 hp h2
theorem ze_67 (pc : Nat) (r : Instr × Nat) (h : zc_67 pc = some r) : decode (zbytes 67) pc = .ok r ∧ (zilen r.1 = 0 ∨ r.2 = zilen r.1) ∧ zjok pc r.1 = true := by
  have h2 : zcode 67 pc = some r := h
  revert h
  exact tr_g fun hp _ => zchkD_ok zd_67 hp h2
theorem ze_68 (pc : Nat) (r : Instr × Nat) (h : zc_68 pc = some r) : decode (zbytes 68) pc = .ok r ∧ (zilen r.1 = 0 ∨ r.2 = zilen r.1) ∧ zjok pc r.1 = true := by
  have h2 : zcode 68 pc = some r := h
  revert h
  exact tr_g fun hp _ => zchkD_ok zd_68 hp h2
theorem ze_69 (pc : Nat) (r : Instr × Nat) (h : zc_69 pc = some r) : decode (zbytes 69) pc = .ok r ∧ (zilen r.1 = 0 ∨ r.2 = zilen r.1) ∧ zjok pc r.1 = true := by
  have h2 : zcode 69 pc = some r := h
  revert h
  exact tr_g fun hp _ => zchkD_ok zd_69 hp h2
theorem ze_70 (pc : Nat) (r : Instr × Nat) (h : zc_70 pc = some r) : decode (zbytes 70) pc = .ok r ∧ (zilen r.1 = 0 ∨ r.2 = zilen r.1) ∧ zjok pc r.1 = true := by
  have h2 : zcode 70 pc = some r := h
  revert h
  exact tr_g fun hp _ => zchkD_ok zd_70 hp h2
theorem ze_71 (pc : Nat) (r : Instr × Nat) (h : zc_71 pc = some r) : decode (zbytes 71) pc = .ok r ∧ (zilen r.1 = 0 ∨ r.2 = zilen r.1) ∧ zjok pc r.1 = true := by
  have h2 : zcode 71 pc = some r := h
  revert h
  exact tr_g fun hp _ => zchkD_ok zd_71 hp h2
theorem ze_72 (pc : Nat) (r : Instr × Nat) (h : zc_72 pc = some r) : decode (zbytes 72) pc = .ok r ∧ (zilen r.1 = 0 ∨ r.2 = zilen r.1) ∧ zjok pc r.1 = true := by
  have h2 : zcode 72 pc = some r := h
  revert h
  exact tr_g fun hp _ => zchkD_ok zd_72 hp h2
theorem ze_73 (pc : Nat) (r : Instr × Nat) (h : zc_73 pc = some r) : decode (zbytes 73) pc = .ok r ∧ (zilen r.1 = 0 ∨ r.2 = zilen r.1) ∧ zjok pc r.1 = true := by
  have h2 : zcode 73 pc = some r := h
  revert h
  exact tr_g fun hp _ => zchkD_ok zd_73 hp h2
theorem ze_74 (pc : Nat) (r : Instr × Nat) (h : zc_74 pc = some r) : decode (zbytes 74) pc = .ok r ∧ (zilen r.1 = 0 ∨ r.2 = zilen r.1) ∧ zjok pc r.1 = true := by
  have h2 : zcode 74 pc = some r := h
  revert h
  exact tr_g fun hp _ => zchkD_ok zd_74 hp h2
theorem ze_75 (pc : Nat) (r : Instr × Nat) (h : zc_75 pc = some r) : decode (zbytes 75) pc = .ok r ∧ (zilen r.1 = 0 ∨ r.2 = zilen r.1) ∧ zjok pc r.1 = true := by
  have h2 : zcode 75 pc = some r := h
  revert h
  exact tr_g fun hp _ => zchkD_ok zd_75 hp h2
theorem ze_76 (pc : Nat) (r : Instr × Nat) (h : zc_76 pc = some r) : decode (zbytes 76) pc = .ok r ∧ (zilen r.1 = 0 ∨ r.2 = zilen r.1) ∧ zjok pc r.1 = true := by
  have h2 : zcode 76 pc = some r := h
  revert h
  exact tr_g fun hp _ => zchkD_ok zd_76 hp h2
theorem ze_77 (pc : Nat) (r : Instr × Nat) (h : zc_77 pc = some r) : decode (zbytes 77) pc = .ok r ∧ (zilen r.1 = 0 ∨ r.2 = zilen r.1) ∧ zjok pc r.1 = true := by
  have h2 : zcode 77 pc = some r := h
  revert h
  exact tr_g fun hp _ => zchkD_ok zd_77 hp h2
theorem ze_78 (pc : Nat) (r : Instr × Nat) (h : zc_78 pc = some r) : decode (zbytes 78) pc = .ok r ∧ (zilen r.1 = 0 ∨ r.2 = zilen r.1) ∧ zjok pc r.1 = true := by
  have h2 : zcode 78 pc = some r := h
  revert h
  exact tr_g fun hp _ => zchkD_ok zd_78 hp h2
theorem ze_79 (pc : Nat) (r : Instr × Nat) (h : zc_79 pc = some r) : decode (zbytes 79) pc = .ok r ∧ (zilen r.1 = 0 ∨ r.2 = zilen r.1) ∧ zjok pc r.1 = true := by
  have h2 : zcode 79 pc = some r := h
  revert h
  exact tr_g fun hp _ => zchkD_ok zd_79 hp h2
theorem ze_80 (pc : Nat) (r : Instr × Nat) (h : zc_80 pc = some r) : decode (zbytes 80) pc = .ok r ∧ (zilen r.1 = 0 ∨ r.2 = zilen r.1) ∧ zjok pc r.1 = true := by
  have h2 : zcode 80 pc = some r := h
  revert h
  exact tr_g fun hp _ => zchkD_ok zd_80 hp h2
theorem ze_81 (pc : Nat) (r : Instr × Nat) (h : zc_81 pc = some r) : decode (zbytes 81) pc = .ok r ∧ (zilen r.1 = 0 ∨ r.2 = zilen r.1) ∧ zjok pc r.1 = true := by
  have h2 : zcode 81 pc = some r := h
  revert h
  exact tr_g fun hp _ => zchkD_ok zd_81 hp h2
theorem ze_82 (pc : Nat) (r : Instr × Nat) (h : zc_82 pc = some r) : decode (zbytes 82) pc = .ok r ∧ (zilen r.1 = 0 ∨ r.2 = zilen r.1) ∧ zjok pc r.1 = true := by
  have h2 : zcode 82 pc = some r := h
  revert h
  exact tr_g fun hp _ => zchkD_ok zd_82 hp h2
theorem ze_83 (pc : Nat) (r : Instr × Nat) (h : zc_83 pc = some r) : decode (zbytes 83) pc = .ok r ∧ (zilen r.1 = 0 ∨ r.2 = zilen r.1) ∧ zjok pc r.1 = true := by
  have h2 : zcode 83 pc = some r := h
  revert h
  exact tr_g fun hp _ => zchkD_ok zd_83 hp h2
theorem ze_84 (pc : Nat) (r : Instr × Nat) (h : zc_84 pc = some r) : decode (zbytes 84) pc = .ok r ∧ (zilen r.1 = 0 ∨ r.2 = zilen r.1) ∧ zjok pc r.1 = true := by
  have h2 : zcode 84 pc = some r := h
  revert h
  exact tr_g fun hp _ => zchkD_ok zd_84 hp h2
theorem ze_85 (pc : Nat) (r : Instr × Nat) (h : zc_85 pc = some r) : decode (zbytes 85) pc = .ok r ∧ (zilen r.1 = 0 ∨ r.2 = zilen r.1) ∧ zjok pc r.1 = true := by
  have h2 : zcode 85 pc = some r := h
  revert h
  exact tr_g fun hp _ => zchkD_ok zd_85 hp h2
theorem ze_86 (pc : Nat) (r : Instr × Nat) (h : zc_86 pc = some r) : decode (zbytes 86) pc = .ok r ∧ (zilen r.1 = 0 ∨ r.2 = zilen r.1) ∧ zjok pc r.1 = true := by
  have h2 : zcode 86 pc = some r := h
  revert h
  exact tr_g fun hp _ => zchkD_ok zd_86 hp h2
theorem ze_87 (pc : Nat) (r : Instr × Nat) (h : zc_87 pc = some r) : decode (zbytes 87) pc = .ok r ∧ (zilen r.1 = 0 ∨ r.2 = zilen r.1) ∧ zjok pc r.1 = true := by
  have h2 : zcode 87 pc = some r := h
  revert h
  exact tr_g fun hp _ => zchkD_ok zd_87 hp h2
theorem ze_88 (pc : Nat) (r : Instr × Nat) (h : zc_88 pc = some r) : decode (zbytes 88) pc = .ok r ∧ (zilen r.1 = 0 ∨ r.2 = zilen r.1) ∧ zjok pc r.1 = true := by
  have h2 : zcode 88 pc = some r := h
  revert h
  exact tr_g fun hp _ => zchkD_ok zd_88 hp h2
theorem ze_89 (pc : Nat) (r : Instr × Nat) (h : zc_89 pc = some r) : decode (zbytes 89) pc = .ok r ∧ (zilen r.1 = 0 ∨ r.2 = zilen r.1) ∧ zjok pc r.1 = true := by
  have h2 : zcode 89 pc = some r := h
  revert h
  exact tr_g fun hp _ => zchkD_ok zd_89 hp h2
theorem ze_90 (pc : Nat) (r : Instr × Nat) (h : zc_90 pc = some r) : decode (zbytes 90) pc = .ok r ∧ (zilen r.1 = 0 ∨ r.2 = zilen r.1) ∧ zjok pc r.1 = true := by
  have h2 : zcode 90 pc = some r := h
  revert h
  exact tr_g fun hp _ => zchkD_ok zd_90 hp h2
theorem ze_91 (pc : Nat) (r : Instr × Nat) (h : zc_91 pc = some r) : decode (zbytes 91) pc = .ok r ∧ (zilen r.1 = 0 ∨ r.2 = zilen r.1) ∧ zjok pc r.1 = true := by
  have h2 : zcode 91 pc = some r := h
  revert h
  exact tr_g fun hp _ => zchkD_ok zd_91 hp h2
theorem ze_92 (pc : Nat) (r : Instr × Nat) (h : zc_92 pc = some r) : decode (zbytes 92) pc = .ok r ∧ (zilen r.1 = 0 ∨ r.2 = zilen r.1) ∧ zjok pc r.1 = true := by
  have h2 : zcode 92 pc = some r := h
  revert h
  exact tr_g fun hp _ => zchkD_ok zd_92 hp h2
theorem ze_93 (pc : Nat) (r : Instr × Nat) (h : zc_93 pc = some r) : decode (zbytes 93) pc = .ok r ∧ (zilen r.1 = 0 ∨ r.2 = zilen r.1) ∧ zjok pc r.1 = true := by
  have h2 : zcode 93 pc = some r := h
  revert h
  exact tr_g fun hp _ => zchkD_ok zd_93 hp h2
theorem ze_94 (pc : Nat) (r : Instr × Nat) (h : zc_94 pc = some r) : decode (zbytes 94) pc = .ok r ∧ (zilen r.1 = 0 ∨ r.2 = zilen r.1) ∧ zjok pc r.1 = true := by
  have h2 : zcode 94 pc = some r := h
  revert h
  exact tr_g fun hp _ => zchkD_ok zd_94 hp h2
theorem ze_95 (pc : Nat) (r : Instr × Nat) (h : zc_95 pc = some r) : decode (zbytes 95) pc = .ok r ∧ (zilen r.1 = 0 ∨ r.2 = zilen r.1) ∧ zjok pc r.1 = true := by
  have h2 : zcode 95 pc = some r := h
  revert h
  exact tr_g fun hp _ => zchkD_ok zd_95 hp h2
theorem ze_96 (pc : Nat) (r : Instr × Nat) (h : zc_96 pc = some r) : decode (zbytes 96) pc = .ok r ∧ (zilen r.1 = 0 ∨ r.2 = zilen r.1) ∧ zjok pc r.1 = true := by
  have h2 : zcode 96 pc = some r := h
  revert h
  exact tr_g fun hp _ => zchkD_ok zd_96 hp h2
theorem ze_97 (pc : Nat) (r : Instr × Nat) (h : zc_97 pc = some r) : decode (zbytes 97) pc = .ok r ∧ (zilen r.1 = 0 ∨ r.2 = zilen r.1) ∧ zjok pc r.1 = true := by
  have h2 : zcode 97 pc = some r := h
  revert h
  exact tr_g fun hp _ => zchkD_ok zd_97 hp h2
theorem ze_98 (pc : Nat) (r : Instr × Nat) (h : zc_98 pc = some r) : decode (zbytes 98) pc = .ok r ∧ (zilen r.1 = 0 ∨ r.2 = zilen r.1) ∧ zjok pc r.1 = true := by
  have h2 : zcode 98 pc = some r := h
  revert h
  exact tr_g fun hp _ => zchkD_ok zd_98 hp h2
theorem ze_99 (pc : Nat) (r : Instr × Nat) (h : zc_99 pc = some r) : decode (zbytes 99) pc = .ok r ∧ (zilen r.1 = 0 ∨ r.2 = zilen r.1) ∧ zjok pc r.1 = true := by
  have h2 : zcode 99 pc = some r := h
  revert h
  exact tr_g fun hp _ => zchkD_ok zd_99 hp h2
theorem ze_100 (pc : Nat) (r : Instr × Nat) (h : zc_100 pc = some r) : decode (zbytes 100) pc = .ok r ∧ (zilen r.1 = 0 ∨ r.2 = zilen r.1) ∧ zjok pc r.1 = true := by
  have h2 : zcode 100 pc = some r := h
  revert h
  exact tr_g fun hp _ => zchkD_ok zd_100 hp h2
theorem ze_101 (pc : Nat) (r : Instr × Nat) (h : zc_101 pc = some r) : decode (zbytes 101) pc = .ok r ∧ (zilen r.1 = 0 ∨ r.2 = zilen r.1) ∧ zjok pc r.1 = true := by
  have h2 : zcode 101 pc = some r := h
  revert h
  exact tr_g fun hp _ => zchkD_ok zd_101 hp h2
theorem ze_102 (pc : Nat) (r : Instr × Nat) (h : zc_102 pc = some r) : decode (zbytes 102) pc = .ok r ∧ (zilen r.1 = 0 ∨ r.2 = zilen r.1) ∧ zjok pc r.1 = true := by
  have h2 : zcode 102 pc = some r := h
  revert h
  exact tr_g fun hp _ => zchkD_ok zd_102 hp h2
theorem ze_103 (pc : Nat) (r : Instr × Nat) (h : zc_103 pc = some r) : decode (zbytes 103) pc = .ok r ∧ (zilen r.1 = 0 ∨ r.2 = zilen r.1) ∧ zjok pc r.1 = true := by
  have h2 : zcode 103 pc = some r := h
  revert h
  exact tr_g fun hp _ => zchkD_ok zd_103 hp h2
theorem ze_104 (pc : Nat) (r : Instr × Nat) (h : zc_104 pc = some r) : decode (zbytes 104) pc = .ok r ∧ (zilen r.1 = 0 ∨ r.2 = zilen r.1) ∧ zjok pc r.1 = true := by
  have h2 : zcode 104 pc = some r := h
  revert h
  exact tr_g fun hp _ => zchkD_ok zd_104 hp h2
theorem ze_105 (pc : Nat) (r : Instr × Nat) (h : zc_105 pc = some r) : decode (zbytes 105) pc = .ok r ∧ (zilen r.1 = 0 ∨ r.2 = zilen r.1) ∧ zjok pc r.1 = true := by
  have h2 : zcode 105 pc = some r := h
  revert h
  exact tr_g fun hp _ => zchkD_ok zd_105 hp h2
theorem ze_106 (pc : Nat) (r : Instr × Nat) (h : zc_106 pc = some r) : decode (zbytes 106) pc = .ok r ∧ (zilen r.1 = 0 ∨ r.2 = zilen r.1) ∧ zjok pc r.1 = true := by
  have h2 : zcode 106 pc = some r := h
  revert h
  exact tr_g fun hp _ => zchkD_ok zd_106 hp h2
theorem ze_107 (pc : Nat) (r : Instr × Nat) (h : zc_107 pc = some r) : decode (zbytes 107) pc = .ok r ∧ (zilen r.1 = 0 ∨ r.2 = zilen r.1) ∧ zjok pc r.1 = true := by
  have h2 : zcode 107 pc = some r := h
  revert h
  exact tr_g fun hp _ => zchkD_ok zd_107 hp h2
theorem ze_108 (pc : Nat) (r : Instr × Nat) (h : zc_108 pc = some r) : decode (zbytes 108) pc = .ok r ∧ (zilen r.1 = 0 ∨ r.2 = zilen r.1) ∧ zjok pc r.1 = true := by
  have h2 : zcode 108 pc = some r := h
  revert h
  exact tr_g fun hp _ => zchkD_ok zd_108 hp h2
theorem ze_109 (pc : Nat) (r : Instr × Nat) (h : zc_109 pc = some r) : decode (zbytes 109) pc = .ok r ∧ (zilen r.1 = 0 ∨ r.2 = zilen r.1) ∧ zjok pc r.1 = true := by
  have h2 : zcode 109 pc = some r := h
  revert h
  exact tr_g fun hp _ => zchkD_ok zd_109 hp h2
theorem ze_110 (pc : Nat) (r : Instr × Nat) (h : zc_110 pc = some r) : decode (zbytes 110) pc = .ok r ∧ (zilen r.1 = 0 ∨ r.2 = zilen r.1) ∧ zjok pc r.1 = true := by
  have h2 : zcode 110 pc = some r := h
  revert h
  exact tr_g fun hp _ => zchkD_ok zd_110 hp h2
theorem ze_111 (pc : Nat) (r : Instr × Nat) (h : zc_111 pc = some r) : decode (zbytes 111) pc = .ok r ∧ (zilen r.1 = 0 ∨ r.2 = zilen r.1) ∧ zjok pc r.1 = true := by
  have h2 : zcode 111 pc = some r := h
  revert h
  exact tr_g fun hp _ => zchkD_ok zd_111 hp h2
theorem ze_112 (pc : Nat) (r : Instr × Nat) (h : zc_112 pc = some r) : decode (zbytes 112) pc = .ok r ∧ (zilen r.1 = 0 ∨ r.2 = zilen r.1) ∧ zjok pc r.1 = true := by
  have h2 : zcode 112 pc = some r := h
  revert h
  exact tr_g fun hp _ => zchkD_ok zd_112 hp h2
theorem ze_113 (pc : Nat) (r : Instr × Nat) (h : zc_113 pc = some r) : decode (zbytes 113) pc = .ok r ∧ (zilen r.1 = 0 ∨ r.2 = zilen r.1) ∧ zjok pc r.1 = true := by
  have h2 : zcode 113 pc = some r := h
  revert h
  exact tr_g fun hp _ => zchkD_ok zd_113 hp h2
theorem ze_114 (pc : Nat) (r : Instr × Nat) (h : zc_114 pc = some r) : decode (zbytes 114) pc = .ok r ∧ (zilen r.1 = 0 ∨ r.2 = zilen r.1) ∧ zjok pc r.1 = true := by
  have h2 : zcode 114 pc = some r := h
  revert h
  exact tr_g fun hp _ => zchkD_ok zd_114 hp h2
theorem ze_115 (pc : Nat) (r : Instr × Nat) (h : zc_115 pc = some r) : decode (zbytes 115) pc = .ok r ∧ (zilen r.1 = 0 ∨ r.2 = zilen r.1) ∧ zjok pc r.1 = true := by
  have h2 : zcode 115 pc = some r := h
  revert h
  exact tr_g fun hp _ => zchkD_ok zd_115 hp h2
theorem ze_116 (pc : Nat) (r : Instr × Nat) (h : zc_116 pc = some r) : decode (zbytes 116) pc = .ok r ∧ (zilen r.1 = 0 ∨ r.2 = zilen r.1) ∧ zjok pc r.1 = true := by
  have h2 : zcode 116 pc = some r := h
  revert h
  exact tr_g fun hp _ => zchkD_ok zd_116 hp h2
theorem ze_117 (pc : Nat) (r : Instr × Nat) (h : zc_117 pc = some r) : decode (zbytes 117) pc = .ok r ∧ (zilen r.1 = 0 ∨ r.2 = zilen r.1) ∧ zjok pc r.1 = true := by
  have h2 : zcode 117 pc = some r := h
  revert h
  exact tr_g fun hp _ => zchkD_ok zd_117 hp h2
theorem ze_118 (pc : Nat) (r : Instr × Nat) (h : zc_118 pc = some r) : decode (zbytes 118) pc = .ok r ∧ (zilen r.1 = 0 ∨ r.2 = zilen r.1) ∧ zjok pc r.1 = true := by
  have h2 : zcode 118 pc = some r := h
  revert h
  exact tr_g fun hp _ => zchkD_ok zd_118 hp h2
theorem ze_119 (pc : Nat) (r : Instr × Nat) (h : zc_119 pc = some r) : decode (zbytes 119) pc = .ok r ∧ (zilen r.1 = 0 ∨ r.2 = zilen r.1) ∧ zjok pc r.1 = true := by
  have h2 : zcode 119 pc = some r := h
  revert h
  exact tr_g fun hp _ => zchkD_ok zd_119 hp h2
theorem ze_120 (pc : Nat) (r : Instr × Nat) (h : zc_120 pc = some r) : decode (zbytes 120) pc = .ok r ∧ (zilen r.1 = 0 ∨ r.2 = zilen r.1) ∧ zjok pc r.1 = true := by
  have h2 : zcode 120 pc = some r := h
  revert h
  exact tr_g fun hp _ => zchkD_ok zd_120 hp h2
theorem ze_121 (pc : Nat) (r : Instr × Nat) (h : zc_121 pc = some r) : decode (zbytes 121) pc = .ok r ∧ (zilen r.1 = 0 ∨ r.2 = zilen r.1) ∧ zjok pc r.1 = true := by
  have h2 : zcode 121 pc = some r := h
  revert h
  exact tr_g fun hp _ => zchkD_ok zd_121 hp h2
theorem ze_122 (pc : Nat) (r : Instr × Nat) (h : zc_122 pc = some r) : decode (zbytes 122) pc = .ok r ∧ (zilen r.1 = 0 ∨ r.2 = zilen r.1) ∧ zjok pc r.1 = true := by
  have h2 : zcode 122 pc = some r := h
  revert h
  exact tr_g fun hp _ => zchkD_ok zd_122 hp h2
theorem ze_123 (pc : Nat) (r : Instr × Nat) (h : zc_123 pc = some r) : decode (zbytes 123) pc = .ok r ∧ (zilen r.1 = 0 ∨ r.2 = zilen r.1) ∧ zjok pc r.1 = true := by
  have h2 : zcode 123 pc = some r := h
  revert h
  exact tr_g fun hp _ => zchkD_ok zd_123 hp h2
theorem ze_124 (pc : Nat) (r : Instr × Nat) (h : zc_124 pc = some r) : decode (zbytes 124) pc = .ok r ∧ (zilen r.1 = 0 ∨ r.2 = zilen r.1) ∧ zjok pc r.1 = true := by
  have h2 : zcode 124 pc = some r := h
  revert h
  exact tr_g fun hp _ => zchkD_ok zd_124 hp h2
theorem ze_125 (pc : Nat) (r : Instr × Nat) (h : zc_125 pc = some r) : decode (zbytes 125) pc = .ok r ∧ (zilen r.1 = 0 ∨ r.2 = zilen r.1) ∧ zjok pc r.1 = true := by
  have h2 : zcode 125 pc = some r := h
  revert h
  exact tr_g fun hp _ => zchkD_ok zd_125 hp h2
theorem ze_126 (pc : Nat) (r : Instr × Nat) (h : zc_126 pc = some r) : decode (zbytes 126) pc = .ok r ∧ (zilen r.1 = 0 ∨ r.2 = zilen r.1) ∧ zjok pc r.1 = true := by
  have h2 : zcode 126 pc = some r := h
  revert h
  exact tr_g fun hp _ => zchkD_ok zd_126 hp h2
theorem ze_127 (pc : Nat) (r : Instr × Nat) (h : zc_127 pc = some r) : decode (zbytes 127) pc = .ok r ∧ (zilen r.1 = 0 ∨ r.2 = zilen r.1) ∧ zjok pc r.1 = true := by
  have h2 : zcode 127 pc = some r := h
  revert h
  exact tr_g fun hp _ => zchkD_ok zd_127 hp h2
theorem ze_128 (pc : Nat) (r : Instr × Nat) (h : zc_128 pc = some r) : decode (zbytes 128) pc = .ok r ∧ (zilen r.1 = 0 ∨ r.2 = zilen r.1) ∧ zjok pc r.1 = true := by
  have h2 : zcode 128 pc = some r := h
  revert h
  exact tr_g fun hp _ => zchkD_ok zd_128 hp h2
theorem ze_129 (pc : Nat) (r : Instr × Nat) (h : zc_129 pc = some r) : decode (zbytes 129) pc = .ok r ∧ (zilen r.1 = 0 ∨ r.2 = zilen r.1) ∧ zjok pc r.1 = true := by
  have h2 : zcode 129 pc = some r := h
  revert h
  exact tr_g fun hp _ => zchkD_ok zd_129 hp h2
theorem ze_130 (pc : Nat) (r : Instr × Nat) (h : zc_130 pc = some r) : decode (zbytes 130) pc = .ok r ∧ (zilen r.1 = 0 ∨ r.2 = zilen r.1) ∧ zjok pc r.1 = true := by
  have h2 : zcode 130 pc = some r := h
  revert h
  exact tr_g fun hp _ => zchkD_ok zd_130 hp h2
theorem ze_131 (pc : Nat) (r : Instr × Nat) (h : zc_131 pc = some r) : decode (zbytes 131) pc = .ok r ∧ (zilen r.1 = 0 ∨ r.2 = zilen r.1) ∧ zjok pc r.1 = true := by
  have h2 : zcode 131 pc = some r := h
  revert h
  exact tr_g fun hp _ => zchkD_ok zd_131 hp h2
theorem ze_132 (pc : Nat) (r : Instr × Nat) (h : zc_132 pc = some r) : decode (zbytes 132) pc = .ok r ∧ (zilen r.1 = 0 ∨ r.2 = zilen r.1) ∧ zjok pc r.1 = true := by
  have h2 : zcode 132 pc = some r := h
  revert h
  exact tr_g fun hp _ => zchkD_ok zd_132 hp h2
theorem ze_133 (pc : Nat) (r : Instr × Nat) (h : zc_133 pc = some r) : decode (zbytes 133) pc = .ok r ∧ (zilen r.1 = 0 ∨ r.2 = zilen r.1) ∧ zjok pc r.1 = true := by
  have h2 : zcode 133 pc = some r := h
  revert h
  exact tr_g fun hp _ => zchkD_ok zd_133 hp h2
theorem ze_134 (pc : Nat) (r : Instr × Nat) (h : zc_134 pc = some r) : decode (zbytes 134) pc = .ok r ∧ (zilen r.1 = 0 ∨ r.2 = zilen r.1) ∧ zjok pc r.1 = true := by
  have h2 : zcode 134 pc = some r := h
  revert h
  exact tr_g fun hp _ => zchkD_ok zd_134 hp h2
theorem ze_135 (pc : Nat) (r : Instr × Nat) (h : zc_135 pc = some r) : decode (zbytes 135) pc = .ok r ∧ (zilen r.1 = 0 ∨ r.2 = zilen r.1) ∧ zjok pc r.1 = true := by
  have h2 : zcode 135 pc = some r := h
  revert h
  exact tr_g fun hp _ => zchkD_ok zd_135 hp h2
theorem ze_136 (pc : Nat) (r : Instr × Nat) (h : zc_136 pc = some r) : decode (zbytes 136) pc = .ok r ∧ (zilen r.1 = 0 ∨ r.2 = zilen r.1) ∧ zjok pc r.1 = true := by
  have h2 : zcode 136 pc = some r := h
  revert h
  exact tr_g fun hp _ => zchkD_ok zd_136 hp h2
theorem ze_137 (pc : Nat) (r : Instr × Nat) (h : zc_137 pc = some r) : decode (zbytes 137) pc = .ok r ∧ (zilen r.1 = 0 ∨ r.2 = zilen r.1) ∧ zjok pc r.1 = true := by
  have h2 : zcode 137 pc = some r := h
  revert h
  exact tr_g fun hp _ => zchkD_ok zd_137 hp h2
theorem ze_138 (pc : Nat) (r : Instr × Nat) (h : zc_138 pc = some r) : decode (zbytes 138) pc = .ok r ∧ (zilen r.1 = 0 ∨ r.2 = zilen r.1) ∧ zjok pc r.1 = true := by
  have h2 : zcode 138 pc = some r := h
  revert h
  exact tr_g fun hp _ => zchkD_ok zd_138 hp h2
theorem ze_139 (pc : Nat) (r : Instr × Nat) (h : zc_139 pc = some r) : decode (zbytes 139) pc = .ok r ∧ (zilen r.1 = 0 ∨ r.2 = zilen r.1) ∧ zjok pc r.1 = true := by
  have h2 : zcode 139 pc = some r := h
  revert h
  exact tr_g fun hp _ => zchkD_ok zd_139 hp h2
theorem ze_140 (pc : Nat) (r : Instr × Nat) (h : zc_140 pc = some r) : decode (zbytes 140) pc = .ok r ∧ (zilen r.1 = 0 ∨ r.2 = zilen r.1) ∧ zjok pc r.1 = true := by
  have h2 : zcode 140 pc = some r := h
  revert h
  exact tr_g fun hp _ => zchkD_ok zd_140 hp h2
theorem ze_141 (pc : Nat) (r : Instr × Nat) (h : zc_141 pc = some r) : decode (zbytes 141) pc = .ok r ∧ (zilen r.1 = 0 ∨ r.2 = zilen r.1) ∧ zjok pc r.1 = true := by
  have h2 : zcode 141 pc = some r := h
  revert h
  exact tr_g fun hp _ => zchkD_ok zd_141 hp h2
theorem ze_142 (pc : Nat) (r : Instr × Nat) (h : zc_142 pc = some r) : decode (zbytes 142) pc = .ok r ∧ (zilen r.1 = 0 ∨ r.2 = zilen r.1) ∧ zjok pc r.1 = true := by
  have h2 : zcode 142 pc = some r := h
  revert h
  exact tr_g fun hp _ => zchkD_ok zd_142 hp h2
theorem ze_143 (pc : Nat) (r : Instr × Nat) (h : zc_143 pc = some r) : decode (zbytes 143) pc = .ok r ∧ (zilen r.1 = 0 ∨ r.2 = zilen r.1) ∧ zjok pc r.1 = true := by
  have h2 : zcode 143 pc = some r := h
  revert h
  exact tr_g fun hp _ => zchkD_ok zd_143 hp h2
theorem ze_144 (pc : Nat) (r : Instr × Nat) (h : zc_144 pc = some r) : decode (zbytes 144) pc = .ok r ∧ (zilen r.1 = 0 ∨ r.2 = zilen r.1) ∧ zjok pc r.1 = true := by
  have h2 : zcode 144 pc = some r := h
  revert h
  exact tr_g fun hp _ => zchkD_ok zd_144 hp h2
theorem ze_145 (pc : Nat) (r : Instr × Nat) (h : zc_145 pc = some r) : decode (zbytes 145) pc = .ok r ∧ (zilen r.1 = 0 ∨ r.2 = zilen r.1) ∧ zjok pc r.1 = true := by
  have h2 : zcode 145 pc = some r := h
  revert h
  exact tr_g fun hp _ => zchkD_ok zd_145 hp h2
theorem ze_146 (pc : Nat) (r : Instr × Nat) (h : zc_146 pc = some r) : decode (zbytes 146) pc = .ok r ∧ (zilen r.1 = 0 ∨ r.2 = zilen r.1) ∧ zjok pc r.1 = true := by
  have h2 : zcode 146 pc = some r := h
  revert h
  exact tr_g fun hp _ => zchkD_ok zd_146 hp h2
theorem ze_147 (pc : Nat) (r : Instr × Nat) (h : zc_147 pc = some r) : decode (zbytes 147) pc = .ok r ∧ (zilen r.1 = 0 ∨ r.2 = zilen r.1) ∧ zjok pc r.1 = true := by
  have h2 : zcode 147 pc = some r := h
  revert h
  exact tr_g fun hp _ => zchkD_ok zd_147 hp h2
theorem ze_148 (pc : Nat) (r : Instr × Nat) (h : zc_148 pc = some r) : decode (zbytes 148) pc = .ok r ∧ (zilen r.1 = 0 ∨ r.2 = zilen r.1) ∧ zjok pc r.1 = true := by
  have h2 : zcode 148 pc = some r := h
  revert h
  exact tr_g fun hp _ => zchkD_ok zd_148 hp h2
theorem ze_149 (pc : Nat) (r : Instr × Nat) (h : zc_149 pc = some r) : decode (zbytes 149) pc = .ok r ∧ (zilen r.1 = 0 ∨ r.2 = zilen r.1) ∧ zjok pc r.1 = true := by
  have h2 : zcode 149 pc = some r := h
  revert h
  exact tr_g fun hp _ => zchkD_ok zd_149 hp h2
theorem ze_150 (pc : Nat) (r : Instr × Nat) (h : zc_150 pc = some r) : decode (zbytes 150) pc = .ok r ∧ (zilen r.1 = 0 ∨ r.2 = zilen r.1) ∧ zjok pc r.1 = true := by
  have h2 : zcode 150 pc = some r := h
  revert h
  exact tr_g fun hp _ => zchkD_ok zd_150 hp h2
theorem ze_151 (pc : Nat) (r : Instr × Nat) (h : zc_151 pc = some r) : decode (zbytes 151) pc = .ok r ∧ (zilen r.1 = 0 ∨ r.2 = zilen r.1) ∧ zjok pc r.1 = true := by
  have h2 : zcode 151 pc = some r := h
  revert h
  exact tr_g fun hp _ => zchkD_ok zd_151 hp h2
theorem ze_152 (pc : Nat) (r : Instr × Nat) (h : zc_152 pc = some r) : decode (zbytes 152) pc = .ok r ∧ (zilen r.1 = 0 ∨ r.2 = zilen r.1) ∧ zjok pc r.1 = true := by
  have h2 : zcode 152 pc = some r := h
  revert h
  exact tr_g fun hp _ => zchkD_ok zd_152 hp h2
theorem ze_153 (pc : Nat) (r : Instr × Nat) (h : zc_153 pc = some r) : decode (zbytes 153) pc = .ok r ∧ (zilen r.1 = 0 ∨ r.2 = zilen r.1) ∧ zjok pc r.1 = true := by
  have h2 : zcode 153 pc = some r := h
  revert h
  exact tr_g fun hp _ => zchkD_ok zd_153 hp h2
theorem ze_154 (pc : Nat) (r : Instr × Nat) (h : zc_154 pc = some r) : decode (zbytes 154) pc = .ok r ∧ (zilen r.1 = 0 ∨ r.2 = zilen r.1) ∧ zjok pc r.1 = true := by
  have h2 : zcode 154 pc = some r := h
  revert h
  exact tr_g fun hp _ => zchkD_ok zd_154 hp h2
theorem ze_155 (pc : Nat) (r : Instr × Nat) (h : zc_155 pc = some r) : decode (zbytes 155) pc = .ok r ∧ (zilen r.1 = 0 ∨ r.2 = zilen r.1) ∧ zjok pc r.1 = true := by
  have h2 : zcode 155 pc = some r := h
  revert h
  exact tr_g fun hp _ => zchkD_ok zd_155 hp h2
theorem ze_156 (pc : Nat) (r : Instr × Nat) (h : zc_156 pc = some r) : decode (zbytes 156) pc = .ok r ∧ (zilen r.1 = 0 ∨ r.2 = zilen r.1) ∧ zjok pc r.1 = true := by
  have h2 : zcode 156 pc = some r := h
  revert h
  exact tr_g fun hp _ => zchkD_ok zd_156 hp h2
theorem ze_157 (pc : Nat) (r : Instr × Nat) (h : zc_157 pc = some r) : decode (zbytes 157) pc = .ok r ∧ (zilen r.1 = 0 ∨ r.2 = zilen r.1) ∧ zjok pc r.1 = true := by
  have h2 : zcode 157 pc = some r := h
  revert h
  exact tr_g fun hp _ => zchkD_ok zd_157 hp h2
theorem ze_158 (pc : Nat) (r : Instr × Nat) (h : zc_158 pc = some r) : decode (zbytes 158) pc = .ok r ∧ (zilen r.1 = 0 ∨ r.2 = zilen r.1) ∧ zjok pc r.1 = true := by
  have h2 : zcode 158 pc = some r := h
  revert h
  exact tr_g fun hp _ => zchkD_ok zd_158 hp h2
theorem ze_159 (pc : Nat) (r : Instr × Nat) (h : zc_159 pc = some r) : decode (zbytes 159) pc = .ok r ∧ (zilen r.1 = 0 ∨ r.2 = zilen r.1) ∧ zjok pc r.1 = true := by
  have h2 : zcode 159 pc = some r := h
  revert h
  exact tr_g fun hp _ => zchkD_ok zd_159 hp h2
theorem ze_160 (pc : Nat) (r : Instr × Nat) (h : zc_160 pc = some r) : decode (zbytes 160) pc = .ok r ∧ (zilen r.1 = 0 ∨ r.2 = zilen r.1) ∧ zjok pc r.1 = true := by
  have h2 : zcode 160 pc = some r := h
  revert h
  exact tr_g fun hp _ => zchkD_ok zd_160 hp h2
theorem ze_161 (pc : Nat) (r : Instr × Nat) (h : zc_161 pc = some r) : decode (zbytes 161) pc = .ok r ∧ (zilen r.1 = 0 ∨ r.2 = zilen r.1) ∧ zjok pc r.1 = true := by
  have h2 : zcode 161 pc = some r := h
  revert h
  exact tr_g fun hp _ => zchkD_ok zd_161 hp h2
theorem ze_162 (pc : Nat) (r : Instr × Nat) (h : zc_162 pc = some r) : decode (zbytes 162) pc = .ok r ∧ (zilen r.1 = 0 ∨ r.2 = zilen r.1) ∧ zjok pc r.1 = true := by
  have h2 : zcode 162 pc = some r := h
  revert h
  exact tr_g fun hp _ => zchkD_ok zd_162 hp h2
theorem ze_163 (pc : Nat) (r : Instr × Nat) (h : zc_163 pc = some r) : decode (zbytes 163) pc = .ok r ∧ (zilen r.1 = 0 ∨ r.2 = zilen r.1) ∧ zjok pc r.1 = true := by
  have h2 : zcode 163 pc = some r := h
  revert h
  exact tr_g fun hp _ => zchkD_ok zd_163 hp h2
theorem ze_164 (pc : Nat) (r : Instr × Nat) (h : zc_164 pc = some r) : decode (zbytes 164) pc = .ok r ∧ (zilen r.1 = 0 ∨ r.2 = zilen r.1) ∧ zjok pc r.1 = true := by
  have h2 : zcode 164 pc = some r := h
  revert h
  exact tr_g fun hp _ => zchkD_ok zd_164 hp h2
theorem ze_165 (pc : Nat) (r : Instr × Nat) (h : zc_165 pc = some r) : decode (zbytes 165) pc = .ok r ∧ (zilen r.1 = 0 ∨ r.2 = zilen r.1) ∧ zjok pc r.1 = true := by
  have h2 : zcode 165 pc = some r := h
  revert h
  exact tr_g fun hp _ => zchkD_ok zd_165 hp h2
theorem ze_166 (pc : Nat) (r : Instr × Nat) (h : zc_166 pc = some r) : decode (zbytes 166) pc = .ok r ∧ (zilen r.1 = 0 ∨ r.2 = zilen r.1) ∧ zjok pc r.1 = true := by
  have h2 : zcode 166 pc = some r := h
  revert h
  exact tr_g fun hp _ => zchkD_ok zd_166 hp h2
theorem ze_167 (pc : Nat) (r : Instr × Nat) (h : zc_167 pc = some r) : decode (zbytes 167) pc = .ok r ∧ (zilen r.1 = 0 ∨ r.2 = zilen r.1) ∧ zjok pc r.1 = true := by
  have h2 : zcode 167 pc = some r := h
  revert h
  exact tr_g fun hp _ => zchkD_ok zd_167 hp h2
theorem ze_168 (pc : Nat) (r : Instr × Nat) (h : zc_168 pc = some r) : decode (zbytes 168) pc = .ok r ∧ (zilen r.1 = 0 ∨ r.2 = zilen r.1) ∧ zjok pc r.1 = true := by
  have h2 : zcode 168 pc = some r := h
  revert h
  exact tr_g fun hp _ => zchkD_ok zd_168 hp h2
theorem ze_169 (pc : Nat) (r : Instr × Nat) (h : zc_169 pc = some r) : decode (zbytes 169) pc = .ok r ∧ (zilen r.1 = 0 ∨ r.2 = zilen r.1) ∧ zjok pc r.1 = true := by
  have h2 : zcode 169 pc = some r := h
  revert h
  exact tr_g fun hp _ => zchkD_ok zd_169 hp h2
theorem ze_170 (pc : Nat) (r : Instr × Nat) (h : zc_170 pc = some r) : decode (zbytes 170) pc = .ok r ∧ (zilen r.1 = 0 ∨ r.2 = zilen r.1) ∧ zjok pc r.1 = true := by
  have h2 : zcode 170 pc = some r := h
  revert h
  exact tr_g fun hp _ => zchkD_ok zd_170 hp h2
theorem ze_171 (pc : Nat) (r : Instr × Nat) (h : zc_171 pc = some r) : decode (zbytes 171) pc = .ok r ∧ (zilen r.1 = 0 ∨ r.2 = zilen r.1) ∧ zjok pc r.1 = true := by
  have h2 : zcode 171 pc = some r := h
  revert h
  exact tr_g fun hp _ => zchkD_ok zd_171 hp h2
theorem ze_172 (pc : Nat) (r : Instr × Nat) (h : zc_172 pc = some r) : decode (zbytes 172) pc = .ok r ∧ (zilen r.1 = 0 ∨ r.2 = zilen r.1) ∧ zjok pc r.1 = true := by
  have h2 : zcode 172 pc = some r := h
  revert h
  exact tr_g fun hp _ => zchkD_ok zd_172 hp h2
theorem ze_173 (pc : Nat) (r : Instr × Nat) (h : zc_173 pc = some r) : decode (zbytes 173) pc = .ok r ∧ (zilen r.1 = 0 ∨ r.2 = zilen r.1) ∧ zjok pc r.1 = true := by
  have h2 : zcode 173 pc = some r := h
  revert h
  exact tr_g fun hp _ => zchkD_ok zd_173 hp h2
theorem ze_174 (pc : Nat) (r : Instr × Nat) (h : zc_174 pc = some r) : decode (zbytes 174) pc = .ok r ∧ (zilen r.1 = 0 ∨ r.2 = zilen r.1) ∧ zjok pc r.1 = true := by
  have h2 : zcode 174 pc = some r := h
  revert h
  exact tr_g fun hp _ => zchkD_ok zd_174 hp h2
theorem ze_175 (pc : Nat) (r : Instr × Nat) (h : zc_175 pc = some r) : decode (zbytes 175) pc = .ok r ∧ (zilen r.1 = 0 ∨ r.2 = zilen r.1) ∧ zjok pc r.1 = true := by
  have h2 : zcode 175 pc = some r := h
  revert h
  exact tr_g fun hp _ => zchkD_ok zd_175 hp h2
theorem ze_176 (pc : Nat) (r : Instr × Nat) (h : zc_176 pc = some r) : decode (zbytes 176) pc = .ok r ∧ (zilen r.1 = 0 ∨ r.2 = zilen r.1) ∧ zjok pc r.1 = true := by
  have h2 : zcode 176 pc = some r := h
  revert h
  exact tr_g fun hp _ => zchkD_ok zd_176 hp h2
theorem ze_177 (pc : Nat) (r : Instr × Nat) (h : zc_177 pc = some r) : decode (zbytes 177) pc = .ok r ∧ (zilen r.1 = 0 ∨ r.2 = zilen r.1) ∧ zjok pc r.1 = true := by
  have h2 : zcode 177 pc = some r := h
  revert h
  exact tr_g fun hp _ => zchkD_ok zd_177 hp h2
theorem ze_178 (pc : Nat) (r : Instr × Nat) (h : zc_178 pc = some r) : decode (zbytes 178) pc = .ok r ∧ (zilen r.1 = 0 ∨ r.2 = zilen r.1) ∧ zjok pc r.1 = true := by
  have h2 : zcode 178 pc = some r := h
  revert h
  exact tr_g fun hp _ => zchkD_ok zd_178 hp h2
theorem ze_179 (pc : Nat) (r : Instr × Nat) (h : zc_179 pc = some r) : decode (zbytes 179) pc = .ok r ∧ (zilen r.1 = 0 ∨ r.2 = zilen r.1) ∧ zjok pc r.1 = true := by
  have h2 : zcode 179 pc = some r := h
  revert h
  exact tr_g fun hp _ => zchkD_ok zd_179 hp h2
theorem ze_180 (pc : Nat) (r : Instr × Nat) (h : zc_180 pc = some r) : decode (zbytes 180) pc = .ok r ∧ (zilen r.1 = 0 ∨ r.2 = zilen r.1) ∧ zjok pc r.1 = true := by
  have h2 : zcode 180 pc = some r := h
  revert h
  exact tr_g fun hp _ => zchkD_ok zd_180 hp h2
theorem ze_181 (pc : Nat) (r : Instr × Nat) (h : zc_181 pc = some r) : decode (zbytes 181) pc = .ok r ∧ (zilen r.1 = 0 ∨ r.2 = zilen r.1) ∧ zjok pc r.1 = true := by
  have h2 : zcode 181 pc = some r := h
  revert h
  exact tr_g fun hp _ => zchkD_ok zd_181 hp h2
theorem ze_182 (pc : Nat) (r : Instr × Nat) (h : zc_182 pc = some r) : decode (zbytes 182) pc = .ok r ∧ (zilen r.1 = 0 ∨ r.2 = zilen r.1) ∧ zjok pc r.1 = true := by
  have h2 : zcode 182 pc = some r := h
  revert h
  exact tr_g fun hp _ => zchkD_ok zd_182 hp h2
theorem ze_183 (pc : Nat) (r : Instr × Nat) (h : zc_183 pc = some r) : decode (zbytes 183) pc = .ok r ∧ (zilen r.1 = 0 ∨ r.2 = zilen r.1) ∧ zjok pc r.1 = true := by
  have h2 : zcode 183 pc = some r := h
  revert h
  exact tr_g fun hp _ => zchkD_ok zd_183 hp h2
theorem ze_184 (pc : Nat) (r : Instr × Nat) (h : zc_184 pc = some r) : decode (zbytes 184) pc = .ok r ∧ (zilen r.1 = 0 ∨ r.2 = zilen r.1) ∧ zjok pc r.1 = true := by
  have h2 : zcode 184 pc = some r := h
  revert h
  exact tr_g fun hp _ => zchkD_ok zd_184 hp h2
theorem ze_185 (pc : Nat) (r : Instr × Nat) (h : zc_185 pc = some r) : decode (zbytes 185) pc = .ok r ∧ (zilen r.1 = 0 ∨ r.2 = zilen r.1) ∧ zjok pc r.1 = true := by
  have h2 : zcode 185 pc = some r := h
  revert h
  exact tr_g fun hp _ => zchkD_ok zd_185 hp h2
theorem ze_186 (pc : Nat) (r : Instr × Nat) (h : zc_186 pc = some r) : decode (zbytes 186) pc = .ok r ∧ (zilen r.1 = 0 ∨ r.2 = zilen r.1) ∧ zjok pc r.1 = true := by
  have h2 : zcode 186 pc = some r := h
  revert h
  exact tr_g fun hp _ => zchkD_ok zd_186 hp h2
theorem ze_187 (pc : Nat) (r : Instr × Nat) (h : zc_187 pc = some r) : decode (zbytes 187) pc = .ok r ∧ (zilen r.1 = 0 ∨ r.2 = zilen r.1) ∧ zjok pc r.1 = true := by
  have h2 : zcode 187 pc = some r := h
  revert h
  exact tr_g fun hp _ => zchkD_ok zd_187 hp h2
theorem ze_188 (pc : Nat) (r : Instr × Nat) (h : zc_188 pc = some r) : decode (zbytes 188) pc = .ok r ∧ (zilen r.1 = 0 ∨ r.2 = zilen r.1) ∧ zjok pc r.1 = true := by
  have h2 : zcode 188 pc = some r := h
  revert h
  exact tr_g fun hp _ => zchkD_ok zd_188 hp h2
theorem ze_189 (pc : Nat) (r : Instr × Nat) (h : zc_189 pc = some r) : decode (zbytes 189) pc = .ok r ∧ (zilen r.1 = 0 ∨ r.2 = zilen r.1) ∧ zjok pc r.1 = true := by
  have h2 : zcode 189 pc = some r := h
  revert h
  exact tr_g fun hp _ => zchkD_ok zd_189 hp h2
theorem ze_190 (pc : Nat) (r : Instr × Nat) (h : zc_190 pc = some r) : decode (zbytes 190) pc = .ok r ∧ (zilen r.1 = 0 ∨ r.2 = zilen r.1) ∧ zjok pc r.1 = true := by
  have h2 : zcode 190 pc = some r := h
  revert h
  exact tr_g fun hp _ => zchkD_ok zd_190 hp h2
theorem ze_191 (pc : Nat) (r : Instr × Nat) (h : zc_191 pc = some r) : decode (zbytes 191) pc = .ok r ∧ (zilen r.1 = 0 ∨ r.2 = zilen r.1) ∧ zjok pc r.1 = true := by
  have h2 : zcode 191 pc = some r := h
  revert h
  exact tr_g fun hp _ => zchkD_ok zd_191 hp h2
theorem ze_192 (pc : Nat) (r : Instr × Nat) (h : zc_192 pc = some r) : decode (zbytes 192) pc = .ok r ∧ (zilen r.1 = 0 ∨ r.2 = zilen r.1) ∧ zjok pc r.1 = true := by
  have h2 : zcode 192 pc = some r := h
  revert h
  exact tr_g fun hp _ => zchkD_ok zd_192 hp h2
theorem ze_193 (pc : Nat) (r : Instr × Nat) (h : zc_193 pc = some r) : decode (zbytes 193) pc = .ok r ∧ (zilen r.1 = 0 ∨ r.2 = zilen r.1) ∧ zjok pc r.1 = true := by
  have h2 : zcode 193 pc = some r := h
  revert h
  exact tr_g fun hp _ => zchkD_ok zd_193 hp h2
theorem ze_194 (pc : Nat) (r : Instr × Nat) (h : zc_194 pc = some r) : decode (zbytes 194) pc = .ok r ∧ (zilen r.1 = 0 ∨ r.2 = zilen r.1) ∧ zjok pc r.1 = true := by
  have h2 : zcode 194 pc = some r := h
  revert h
  exact tr_g fun hp _ => zchkD_ok zd_194 hp h2
theorem ze_195 (pc : Nat) (r : Instr × Nat) (h : zc_195 pc = some r) : decode (zbytes 195) pc = .ok r ∧ (zilen r.1 = 0 ∨ r.2 = zilen r.1) ∧ zjok pc r.1 = true := by
  have h2 : zcode 195 pc = some r := h
  revert h
  exact tr_g fun hp _ => zchkD_ok zd_195 hp h2
theorem ze_196 (pc : Nat) (r : Instr × Nat) (h : zc_196 pc = some r) : decode (zbytes 196) pc = .ok r ∧ (zilen r.1 = 0 ∨ r.2 = zilen r.1) ∧ zjok pc r.1 = true := by
  have h2 : zcode 196 pc = some r := h
  revert h
  exact tr_g fun hp _ => zchkD_ok zd_196 hp h2
theorem ze_197 (pc : Nat) (r : Instr × Nat) (h : zc_197 pc = some r) : decode (zbytes 197) pc = .ok r ∧ (zilen r.1 = 0 ∨ r.2 = zilen r.1) ∧ zjok pc r.1 = true := by
  have h2 : zcode 197 pc = some r := h
  revert h
  exact tr_g fun hp _ => zchkD_ok zd_197 hp h2
theorem ze_198 (pc : Nat) (r : Instr × Nat) (h : zc_198 pc = some r) : decode (zbytes 198) pc = .ok r ∧ (zilen r.1 = 0 ∨ r.2 = zilen r.1) ∧ zjok pc r.1 = true := by
  have h2 : zcode 198 pc = some r := h
  revert h
  exact tr_g fun hp _ => zchkD_ok zd_198 hp h2
theorem ze_199 (pc : Nat) (r : Instr × Nat) (h : zc_199 pc = some r) : decode (zbytes 199) pc = .ok r ∧ (zilen r.1 = 0 ∨ r.2 = zilen r.1) ∧ zjok pc r.1 = true := by
  have h2 : zcode 199 pc = some r := h
  revert h
  exact tr_g fun hp _ => zchkD_ok zd_199 hp h2
theorem ze_200 (pc : Nat) (r : Instr × Nat) (h : zc_200 pc = some r) : decode (zbytes 200) pc = .ok r ∧ (zilen r.1 = 0 ∨ r.2 = zilen r.1) ∧ zjok pc r.1 = true := by
  have h2 : zcode 200 pc = some r := h
  revert h
  exact tr_g fun hp _ => zchkD_ok zd_200 hp h2
theorem ze_201 (pc : Nat) (r : Instr × Nat) (h : zc_201 pc = some r) : decode (zbytes 201) pc = .ok r ∧ (zilen r.1 = 0 ∨ r.2 = zilen r.1) ∧ zjok pc r.1 = true := by
  have h2 : zcode 201 pc = some r := h
  revert h
  exact tr_g fun hp _ => zchkD_ok zd_201 hp h2
theorem ze_202 (pc : Nat) (r : Instr × Nat) (h : zc_202 pc = some r) : decode (zbytes 202) pc = .ok r ∧ (zilen r.1 = 0 ∨ r.2 = zilen r.1) ∧ zjok pc r.1 = true := by
  have h2 : zcode 202 pc = some r := h
  revert h
  exact tr_g fun hp _ => zchkD_ok zd_202 hp h2
theorem ze_203 (pc : Nat) (r : Instr × Nat) (h : zc_203 pc = some r) : decode (zbytes 203) pc = .ok r ∧ (zilen r.1 = 0 ∨ r.2 = zilen r.1) ∧ zjok pc r.1 = true := by
  have h2 : zcode 203 pc = some r := h
  revert h
  exact tr_g fun hp _ => zchkD_ok zd_203 hp h2
theorem ze_204 (pc : Nat) (r : Instr × Nat) (h : zc_204 pc = some r) : decode (zbytes 204) pc = .ok r ∧ (zilen r.1 = 0 ∨ r.2 = zilen r.1) ∧ zjok pc r.1 = true := by
  have h2 : zcode 204 pc = some r := h
  revert h
  exact tr_g fun hp _ => zchkD_ok zd_204 hp h2
theorem ze_205 (pc : Nat) (r : Instr × Nat) (h : zc_205 pc = some r) : decode (zbytes 205) pc = .ok r ∧ (zilen r.1 = 0 ∨ r.2 = zilen r.1) ∧ zjok pc r.1 = true := by
  have h2 : zcode 205 pc = some r := h
  revert h
  exact tr_g fun hp _ => zchkD_ok zd_205 hp h2
theorem ze_206 (pc : Nat) (r : Instr × Nat) (h : zc_206 pc = some r) : decode (zbytes 206) pc = .ok r ∧ (zilen r.1 = 0 ∨ r.2 = zilen r.1) ∧ zjok pc r.1 = true := by
  have h2 : zcode 206 pc = some r := h
  revert h
  exact tr_g fun hp _ => zchkD_ok zd_206 hp h2
theorem ze_207 (pc : Nat) (r : Instr × Nat) (h : zc_207 pc = some r) : decode (zbytes 207) pc = .ok r ∧ (zilen r.1 = 0 ∨ r.2 = zilen r.1) ∧ zjok pc r.1 = true := by
  have h2 : zcode 207 pc = some r := h
  revert h
  exact tr_g fun hp _ => zchkD_ok zd_207 hp h2
theorem ze_208 (pc : Nat) (r : Instr × Nat) (h : zc_208 pc = some r) : decode (zbytes 208) pc = .ok r ∧ (zilen r.1 = 0 ∨ r.2 = zilen r.1) ∧ zjok pc r.1 = true := by
  have h2 : zcode 208 pc = some r := h
  revert h
  exact tr_g fun hp _ => zchkD_ok zd_208 hp h2
theorem ze_209 (pc : Nat) (r : Instr × Nat) (h : zc_209 pc = some r) : decode (zbytes 209) pc = .ok r ∧ (zilen r.1 = 0 ∨ r.2 = zilen r.1) ∧ zjok pc r.1 = true := by
  have h2 : zcode 209 pc = some r := h
  revert h
  exact tr_g fun hp _ => zchkD_ok zd_209 hp h2
theorem ze_210 (pc : Nat) (r : Instr × Nat) (h : zc_210 pc = some r) : decode (zbytes 210) pc = .ok r ∧ (zilen r.1 = 0 ∨ r.2 = zilen r.1) ∧ zjok pc r.1 = true := by
  have h2 : zcode 210 pc = some r := h
  revert h
  exact tr_g fun hp _ => zchkD_ok zd_210 hp h2
theorem ze_211 (pc : Nat) (r : Instr × Nat) (h : zc_211 pc = some r) : decode (zbytes 211) pc = .ok r ∧ (zilen r.1 = 0 ∨ r.2 = zilen r.1) ∧ zjok pc r.1 = true := by
  have h2 : zcode 211 pc = some r := h
  revert h
  exact tr_g fun hp _ => zchkD_ok zd_211 hp h2
theorem ze_212 (pc : Nat) (r : Instr × Nat) (h : zc_212 pc = some r) : decode (zbytes 212) pc = .ok r ∧ (zilen r.1 = 0 ∨ r.2 = zilen r.1) ∧ zjok pc r.1 = true := by
  have h2 : zcode 212 pc = some r := h
  revert h
  exact tr_g fun hp _ => zchkD_ok zd_212 hp h2
theorem ze_213 (pc : Nat) (r : Instr × Nat) (h : zc_213 pc = some r) : decode (zbytes 213) pc = .ok r ∧ (zilen r.1 = 0 ∨ r.2 = zilen r.1) ∧ zjok pc r.1 = true := by
  have h2 : zcode 213 pc = some r := h
  revert h
  exact tr_g fun hp _ => zchkD_ok zd_213 hp h2
theorem ze_214 (pc : Nat) (r : Instr × Nat) (h : zc_214 pc = some r) : decode (zbytes 214) pc = .ok r ∧ (zilen r.1 = 0 ∨ r.2 = zilen r.1) ∧ zjok pc r.1 = true := by
  have h2 : zcode 214 pc = some r := h
  revert h
  exact tr_g fun hp _ => zchkD_ok zd_214 hp h2
theorem ze_215 (pc : Nat) (r : Instr × Nat) (h : zc_215 pc = some r) : decode (zbytes 215) pc = .ok r ∧ (zilen r.1 = 0 ∨ r.2 = zilen r.1) ∧ zjok pc r.1 = true := by
  have h2 : zcode 215 pc = some r := h
  revert h
  exact tr_g fun hp _ => zchkD_ok zd_215 hp h2
theorem ze_216 (pc : Nat) (r : Instr × Nat) (h : zc_216 pc = some r) : decode (zbytes 216) pc = .ok r ∧ (zilen r.1 = 0 ∨ r.2 = zilen r.1) ∧ zjok pc r.1 = true := by
  have h2 : zcode 216 pc = some r := h
  revert h
  exact tr_g fun hp _ => zchkD_ok zd_216 hp h2
theorem ze_217 (pc : Nat) (r : Instr × Nat) (h : zc_217 pc = some r) : decode (zbytes 217) pc = .ok r ∧ (zilen r.1 = 0 ∨ r.2 = zilen r.1) ∧ zjok pc r.1 = true := by
  have h2 : zcode 217 pc = some r := h
  revert h
  exact tr_g fun hp _ => zchkD_ok zd_217 hp h2
theorem ze_218 (pc : Nat) (r : Instr × Nat) (h : zc_218 pc = some r) : decode (zbytes 218) pc = .ok r ∧ (zilen r.1 = 0 ∨ r.2 = zilen r.1) ∧ zjok pc r.1 = true := by
  have h2 : zcode 218 pc = some r := h
  revert h
  exact tr_g fun hp _ => zchkD_ok zd_218 hp h2
theorem ze_219 (pc : Nat) (r : Instr × Nat) (h : zc_219 pc = some r) : decode (zbytes 219) pc = .ok r ∧ (zilen r.1 = 0 ∨ r.2 = zilen r.1) ∧ zjok pc r.1 = true := by
  have h2 : zcode 219 pc = some r := h
  revert h
  exact tr_g fun hp _ => zchkD_ok zd_219 hp h2
theorem ze_220 (pc : Nat) (r : Instr × Nat) (h : zc_220 pc = some r) : decode (zbytes 220) pc = .ok r ∧ (zilen r.1 = 0 ∨ r.2 = zilen r.1) ∧ zjok pc r.1 = true := by
  have h2 : zcode 220 pc = some r := h
  revert h
  exact tr_g fun hp _ => zchkD_ok zd_220 hp h2
theorem ze_221 (pc : Nat) (r : Instr × Nat) (h : zc_221 pc = some r) : decode (zbytes 221) pc = .ok r ∧ (zilen r.1 = 0 ∨ r.2 = zilen r.1) ∧ zjok pc r.1 = true := by
  have h2 : zcode 221 pc = some r := h
  revert h
  exact tr_g fun hp _ => zchkD_ok zd_221 hp h2
theorem ze_222 (pc : Nat) (r : Instr × Nat) (h : zc_222 pc = some r) : decode (zbytes 222) pc = .ok r ∧ (zilen r.1 = 0 ∨ r.2 = zilen r.1) ∧ zjok pc r.1 = true := by
  have h2 : zcode 222 pc = some r := h
  revert h
  exact tr_g fun hp _ => zchkD_ok zd_222 hp h2
theorem ze_223 (pc : Nat) (r : Instr × Nat) (h : zc_223 pc = some r) : decode (zbytes 223) pc = .ok r ∧ (zilen r.1 = 0 ∨ r.2 = zilen r.1) ∧ zjok pc r.1 = true := by
  have h2 : zcode 223 pc = some r := h
  revert h
  exact tr_g fun hp _ => zchkD_ok zd_223 hp h2
theorem ze_224 (pc : Nat) (r : Instr × Nat) (h : zc_224 pc = some r) : decode (zbytes 224) pc = .ok r ∧ (zilen r.1 = 0 ∨ r.2 = zilen r.1) ∧ zjok pc r.1 = true := by
  have h2 : zcode 224 pc = some r := h
  revert h
  exact tr_g fun hp _ => zchkD_ok zd_224 hp h2
theorem ze_225 (pc : Nat) (r : Instr × Nat) (h : zc_225 pc = some r) : decode (zbytes 225) pc = .ok r ∧ (zilen r.1 = 0 ∨ r.2 = zilen r.1) ∧ zjok pc r.1 = true := by
  have h2 : zcode 225 pc = some r := h
  revert h
  exact tr_g fun hp _ => zchkD_ok zd_225 hp h2
theorem ze_226 (pc : Nat) (r : Instr × Nat) (h : zc_226 pc = some r) : decode (zbytes 226) pc = .ok r ∧ (zilen r.1 = 0 ∨ r.2 = zilen r.1) ∧ zjok pc r.1 = true := by
  have h2 : zcode 226 pc = some r := h
  revert h
  exact tr_g fun hp _ => zchkD_ok zd_226 hp h2
theorem ze_227 (pc : Nat) (r : Instr × Nat) (h : zc_227 pc = some r) : decode (zbytes 227) pc = .ok r ∧ (zilen r.1 = 0 ∨ r.2 = zilen r.1) ∧ zjok pc r.1 = true := by
  have h2 : zcode 227 pc = some r := h
  revert h
  exact tr_g fun hp _ => zchkD_ok zd_227 hp h2
theorem ze_228 (pc : Nat) (r : Instr × Nat) (h : zc_228 pc = some r) : decode (zbytes 228) pc = .ok r ∧ (zilen r.1 = 0 ∨ r.2 = zilen r.1) ∧ zjok pc r.1 = true := by
  have h2 : zcode 228 pc = some r := h
  revert h
  exact tr_g fun hp _ => zchkD_ok zd_228 hp h2
theorem ze_229 (pc : Nat) (r : Instr × Nat) (h : zc_229 pc = some r) : decode (zbytes 229) pc = .ok r ∧ (zilen r.1 = 0 ∨ r.2 = zilen r.1) ∧ zjok pc r.1 = true := by
  have h2 : zcode 229 pc = some r := h
  revert h
  exact tr_g fun hp _ => zchkD_ok zd_229 hp h2
theorem ze_230 (pc : Nat) (r : Instr × Nat) (h : zc_230 pc = some r) : decode (zbytes 230) pc = .ok r ∧ (zilen r.1 = 0 ∨ r.2 = zilen r.1) ∧ zjok pc r.1 = true := by
  have h2 : zcode 230 pc = some r := h
  revert h
  exact tr_g fun hp _ => zchkD_ok zd_230 hp h2
theorem ze_231 (pc : Nat) (r : Instr × Nat) (h : zc_231 pc = some r) : decode (zbytes 231) pc = .ok r ∧ (zilen r.1 = 0 ∨ r.2 = zilen r.1) ∧ zjok pc r.1 = true := by
  have h2 : zcode 231 pc = some r := h
  revert h
  exact tr_g fun hp _ => zchkD_ok zd_231 hp h2
theorem ze_232 (pc : Nat) (r : Instr × Nat) (h : zc_232 pc = some r) : decode (zbytes 232) pc = .ok r ∧ (zilen r.1 = 0 ∨ r.2 = zilen r.1) ∧ zjok pc r.1 = true := by
  have h2 : zcode 232 pc = some r := h
  revert h
  exact tr_g fun hp _ => zchkD_ok zd_232 hp h2
theorem ze_233 (pc : Nat) (r : Instr × Nat) (h : zc_233 pc = some r) : decode (zbytes 233) pc = .ok r ∧ (zilen r.1 = 0 ∨ r.2 = zilen r.1) ∧ zjok pc r.1 = true := by
  have h2 : zcode 233 pc = some r := h
  revert h
  exact tr_g fun hp _ => zchkD_ok zd_233 hp h2
theorem ze_234 (pc : Nat) (r : Instr × Nat) (h : zc_234 pc = some r) : decode (zbytes 234) pc = .ok r ∧ (zilen r.1 = 0 ∨ r.2 = zilen r.1) ∧ zjok pc r.1 = true := by
  have h2 : zcode 234 pc = some r := h
  revert h
  exact tr_g fun hp _ => zchkD_ok zd_234 hp h2
theorem ze_235 (pc : Nat) (r : Instr × Nat) (h : zc_235 pc = some r) : decode (zbytes 235) pc = .ok r ∧ (zilen r.1 = 0 ∨ r.2 = zilen r.1) ∧ zjok pc r.1 = true := by
  have h2 : zcode 235 pc = some r := h
  revert h
  exact tr_g fun hp _ => zchkD_ok zd_235 hp h2
theorem ze_236 (pc : Nat) (r : Instr × Nat) (h : zc_236 pc = some r) : decode (zbytes 236) pc = .ok r ∧ (zilen r.1 = 0 ∨ r.2 = zilen r.1) ∧ zjok pc r.1 = true := by
  have h2 : zcode 236 pc = some r := h
  revert h
  exact tr_g fun hp _ => zchkD_ok zd_236 hp h2
theorem ze_237 (pc : Nat) (r : Instr × Nat) (h : zc_237 pc = some r) : decode (zbytes 237) pc = .ok r ∧ (zilen r.1 = 0 ∨ r.2 = zilen r.1) ∧ zjok pc r.1 = true := by
  have h2 : zcode 237 pc = some r := h
  revert h
  exact tr_g fun hp _ => zchkD_ok zd_237 hp h2
theorem ze_238 (pc : Nat) (r : Instr × Nat) (h : zc_238 pc = some r) : decode (zbytes 238) pc = .ok r ∧ (zilen r.1 = 0 ∨ r.2 = zilen r.1) ∧ zjok pc r.1 = true := by
  have h2 : zcode 238 pc = some r := h
  revert h
  exact tr_g fun hp _ => zchkD_ok zd_238 hp h2
theorem ze_239 (pc : Nat) (r : Instr × Nat) (h : zc_239 pc = some r) : decode (zbytes 239) pc = .ok r ∧ (zilen r.1 = 0 ∨ r.2 = zilen r.1) ∧ zjok pc r.1 = true := by
  have h2 : zcode 239 pc = some r := h
  revert h
  exact tr_g fun hp _ => zchkD_ok zd_239 hp h2
theorem ze_240 (pc : Nat) (r : Instr × Nat) (h : zc_240 pc = some r) : decode (zbytes 240) pc = .ok r ∧ (zilen r.1 = 0 ∨ r.2 = zilen r.1) ∧ zjok pc r.1 = true := by
  have h2 : zcode 240 pc = some r := h
  revert h
  exact tr_g fun hp _ => zchkD_ok zd_240 hp h2
theorem ze_241 (pc : Nat) (r : Instr × Nat) (h : zc_241 pc = some r) : decode (zbytes 241) pc = .ok r ∧ (zilen r.1 = 0 ∨ r.2 = zilen r.1) ∧ zjok pc r.1 = true := by
  have h2 : zcode 241 pc = some r := h
  revert h
  exact tr_g fun hp _ => zchkD_ok zd_241 hp h2
theorem ze_242 (pc : Nat) (r : Instr × Nat) (h : zc_242 pc = some r) : decode (zbytes 242) pc = .ok r ∧ (zilen r.1 = 0 ∨ r.2 = zilen r.1) ∧ zjok pc r.1 = true := by
  have h2 : zcode 242 pc = some r := h
  revert h
  exact tr_g fun hp _ => zchkD_ok zd_242 hp h2
theorem ze_243 (pc : Nat) (r : Instr × Nat) (h : zc_243 pc = some r) : decode (zbytes 243) pc = .ok r ∧ (zilen r.1 = 0 ∨ r.2 = zilen r.1) ∧ zjok pc r.1 = true := by
  have h2 : zcode 243 pc = some r := h
  revert h
  exact tr_g fun hp _ => zchkD_ok zd_243 hp h2
theorem ze_244 (pc : Nat) (r : Instr × Nat) (h : zc_244 pc = some r) : decode (zbytes 244) pc = .ok r ∧ (zilen r.1 = 0 ∨ r.2 = zilen r.1) ∧ zjok pc r.1 = true := by
  have h2 : zcode 244 pc = some r := h
  revert h
  exact tr_g fun hp _ => zchkD_ok zd_244 hp h2
theorem ze_245 (pc : Nat) (r : Instr × Nat) (h : zc_245 pc = some r) : decode (zbytes 245) pc = .ok r ∧ (zilen r.1 = 0 ∨ r.2 = zilen r.1) ∧ zjok pc r.1 = true := by
  have h2 : zcode 245 pc = some r := h
  revert h
  exact tr_g fun hp _ => zchkD_ok zd_245 hp h2
theorem ze_246 (pc : Nat) (r : Instr × Nat) (h : zc_246 pc = some r) : decode (zbytes 246) pc = .ok r ∧ (zilen r.1 = 0 ∨ r.2 = zilen r.1) ∧ zjok pc r.1 = true := by
  have h2 : zcode 246 pc = some r := h
  revert h
  exact tr_g fun hp _ => zchkD_ok zd_246 hp h2
theorem ze_247 (pc : Nat) (r : Instr × Nat) (h : zc_247 pc = some r) : decode (zbytes 247) pc = .ok r ∧ (zilen r.1 = 0 ∨ r.2 = zilen r.1) ∧ zjok pc r.1 = true := by
  have h2 : zcode 247 pc = some r := h
  revert h
  exact tr_g fun hp _ => zchkD_ok zd_247 hp h2
theorem ze_248 (pc : Nat) (r : Instr × Nat) (h : zc_248 pc = some r) : decode (zbytes 248) pc = .ok r ∧ (zilen r.1 = 0 ∨ r.2 = zilen r.1) ∧ zjok pc r.1 = true := by
  have h2 : zcode 248 pc = some r := h
  revert h
  exact tr_g fun hp _ => zchkD_ok zd_248 hp h2
theorem ze_249 (pc : Nat) (r : Instr × Nat) (h : zc_249 pc = some r) : decode (zbytes 249) pc = .ok r ∧ (zilen r.1 = 0 ∨ r.2 = zilen r.1) ∧ zjok pc r.1 = true := by
  have h2 : zcode 249 pc = some r := h
  revert h
  exact tr_g fun hp _ => zchkD_ok zd_249 hp h2
theorem ze_250 (pc : Nat) (r : Instr × Nat) (h : zc_250 pc = some r) : decode (zbytes 250) pc = .ok r ∧ (zilen r.1 = 0 ∨ r.2 = zilen r.1) ∧ zjok pc r.1 = true := by
  have h2 : zcode 250 pc = some r := h
  revert h
  exact tr_g fun hp _ => zchkD_ok zd_250 hp h2
theorem ze_251 (pc : Nat) (r : Instr × Nat) (h : zc_251 pc = some r) : decode (zbytes 251) pc = .ok r ∧ (zilen r.1 = 0 ∨ r.2 = zilen r.1) ∧ zjok pc r.1 = true := by
  have h2 : zcode 251 pc = some r := h
  revert h
  exact tr_g fun hp _ => zchkD_ok zd_251 hp h2
theorem ze_252 (pc : Nat) (r : Instr × Nat) (h : zc_252 pc = some r) : decode (zbytes 252) pc = .ok r ∧ (zilen r.1 = 0 ∨ r.2 = zilen r.1) ∧ zjok pc r.1 = true := by
  have h2 : zcode 252 pc = some r := h
  revert h
  exact tr_g fun hp _ => zchkD_ok zd_252 hp h2
theorem ze_253 (pc : Nat) (r : Instr × Nat) (h : zc_253 pc = some r) : decode (zbytes 253) pc = .ok r ∧ (zilen r.1 = 0 ∨ r.2 = zilen r.1) ∧ zjok pc r.1 = true := by
  have h2 : zcode 253 pc = some r := h
  revert h
  exact tr_g fun hp _ => zchkD_ok zd_253 hp h2
theorem ze_254 (pc : Nat) (r : Instr × Nat) (h : zc_254 pc = some r) : decode (zbytes 254) pc = .ok r ∧ (zilen r.1 = 0 ∨ r.2 = zilen r.1) ∧ zjok pc r.1 = true := by
  have h2 : zcode 254 pc = some r := h
  revert h
  exact tr_g fun hp _ => zchkD_ok zd_254 hp h2
theorem ze_255 (pc : Nat) (r : Instr × Nat) (h : zc_255 pc = some r) : decode (zbytes 255) pc = .ok r ∧ (zilen r.1 = 0 ∨ r.2 = zilen r.1) ∧ zjok pc r.1 = true := by
  have h2 : zcode 255 pc = some r := h
  revert h
  exact tr_g fun hp _ => zchkD_ok zd_255 hp h2
theorem ze_256 (pc : Nat) (r : Instr × Nat) (h : zc_256 pc = some r) : decode (zbytes 256) pc = .ok r ∧ (zilen r.1 = 0 ∨ r.2 = zilen r.1) ∧ zjok pc r.1 = true := by
  have h2 : zcode 256 pc = some r := h
  revert h
  exact tr_g fun hp _ => zchkD_ok zd_256 hp h2
theorem ze_257 (pc : Nat) (r : Instr × Nat) (h : zc_257 pc = some r) : decode (zbytes 257) pc = .ok r ∧ (zilen r.1 = 0 ∨ r.2 = zilen r.1) ∧ zjok pc r.1 = true := by
  have h2 : zcode 257 pc = some r := h
  revert h
  exact tr_g fun hp _ => zchkD_ok zd_257 hp h2
theorem ze_258 (pc : Nat) (r : Instr × Nat) (h : zc_258 pc = some r) : decode (zbytes 258) pc = .ok r ∧ (zilen r.1 = 0 ∨ r.2 = zilen r.1) ∧ zjok pc r.1 = true := by
  have h2 : zcode 258 pc = some r := h
  revert h
  exact tr_g fun hp _ => zchkD_ok zd_258 hp h2
theorem ze_259 (pc : Nat) (r : Instr × Nat) (h : zc_259 pc = some r) : decode (zbytes 259) pc = .ok r ∧ (zilen r.1 = 0 ∨ r.2 = zilen r.1) ∧ zjok pc r.1 = true := by
  have h2 : zcode 259 pc = some r := h
  revert h
  exact tr_g fun hp _ => zchkD_ok zd_259 hp h2
theorem ze_260 (pc : Nat) (r : Instr × Nat) (h : zc_260 pc = some r) : decode (zbytes 260) pc = .ok r ∧ (zilen r.1 = 0 ∨ r.2 = zilen r.1) ∧ zjok pc r.1 = true := by
  have h2 : zcode 260 pc = some r := h
  revert h
  exact tr_g fun hp _ => zchkD_ok zd_260 hp h2
theorem ze_261 (pc : Nat) (r : Instr × Nat) (h : zc_261 pc = some r) : decode (zbytes 261) pc = .ok r ∧ (zilen r.1 = 0 ∨ r.2 = zilen r.1) ∧ zjok pc r.1 = true := by
  have h2 : zcode 261 pc = some r := h
  revert h
  exact tr_g fun hp _ => zchkD_ok zd_261 hp h2
theorem zdec (m pc : Nat) (r : Instr × Nat) : zcode m pc = some r → decode (zbytes m) pc = .ok r ∧ (zilen r.1 = 0 ∨ r.2 = zilen r.1) ∧ zjok pc r.1 = true := (tr_n (tr_n (tr_n (tr_n (tr_n (tr_n (tr_n (tr_n (tr_k (P := fun m => decode (zbytes m) pc = .ok r ∧ (zilen r.1 = 0 ∨ r.2 = zilen r.1) ∧ zjok pc r.1 = true) (ze_0 pc r)) (tr_k (P := fun m => decode (zbytes m) pc = .ok r ∧ (zilen r.1 = 0 ∨ r.2 = zilen r.1) ∧ zjok pc r.1 = true) (ze_1 pc r))) (tr_n (tr_k (P := fun m => decode (zbytes m) pc = .ok r ∧ (zilen r.1 = 0 ∨ r.2 = zilen r.1) ∧ zjok pc r.1 = true) (ze_2 pc r)) (tr_k (P := fun m => decode (zbytes m) pc = .ok r ∧ (zilen r.1 = 0 ∨ r.2 = zilen r.1) ∧ zjok pc r.1 = true) (ze_3 pc r)))) (tr_n (tr_n (tr_k (P := fun m => decode (zbytes m) pc = .ok r ∧ (zilen r.1 = 0 ∨ r.2 = zilen r.1) ∧ zjok pc r.1 = true) (ze_4 pc r)) (tr_k (P := fun m => decode (zbytes m) pc = .ok r ∧ (zilen r.1 = 0 ∨ r.2 = zilen r.1) ∧ zjok pc r.1 = true) (ze_5 pc r))) (tr_n (tr_k (P := fun m => decode (zbytes m) pc = .ok r ∧ (zilen r.1 = 0 ∨ r.2 = zilen r.1) ∧ zjok pc r.1 = true) (ze_6 pc r)) (tr_k (P := fun m => decode (zbytes m) pc = .ok r ∧ (zilen r.1 = 0 ∨ r.2 = zilen r.1) ∧ zjok pc r.1 = true) (ze_7 pc r))))) (tr_n (tr_n (tr_n (tr_k (P := fun m => decode (zbytes m) pc = .ok r ∧ (zilen r.1 = 0 ∨ r.2 = zilen r.1) ∧ zjok pc r.1 = true) (ze_8 pc r)) (tr_k (P := fun m => decode (zbytes m) pc = .ok r ∧ (zilen r.1 = 0 ∨ r.2 = zilen r.1) ∧ zjok pc r.1 = true) (ze_9 pc r))) (tr_n (tr_k (P := fun m => decode (zbytes m) pc = .ok r ∧ (zilen r.1 = 0 ∨ r.2 = zilen r.1) ∧ zjok pc r.1 = true) (ze_10 pc r)) (tr_k (P := fun m => decode (zbytes m) pc = .ok r ∧ (zilen r.1 = 0 ∨ r.2 = zilen r.1) ∧ zjok pc r.1 = true) (ze_11 pc r)))) (tr_n (tr_n (tr_k (P := fun m => decode (zbytes m) pc = .ok r ∧ (zilen r.1 = 0 ∨ r.2 = zilen r.1) ∧ zjok pc r.1 = true) (ze_12 pc r)) (tr_k (P := fun m => decode (zbytes m) pc = .ok r ∧ (zilen r.1 = 0 ∨ r.2 = zilen r.1) ∧ zjok pc r.1 = true) (ze_13 pc r))) (tr_n (tr_k (P := fun m => decode (zbytes m) pc = .ok r ∧ (zilen r.1 = 0 ∨ r.2 = zilen r.1) ∧ zjok pc r.1 = true) (ze_14 pc r)) (tr_k (P := fun m => decode (zbytes m) pc = .ok r ∧ (zilen r.1 = 0 ∨ r.2 = zilen r.1) ∧ zjok pc r.1 = true) (ze_15 pc r)))))) (tr_n (tr_n (tr_n (tr_n (tr_k (P := fun m => decode (zbytes m) pc = .ok r ∧ (zilen r.1 = 0 ∨ r.2 = zilen r.1) ∧ zjok pc r.1 = true) (ze_16 pc r)) (tr_k (P := fun m => decode (zbytes m) pc = .ok r ∧ (zilen r.1 = 0 ∨ r.2 = zilen r.1) ∧ zjok pc r.1 = true) (ze_17 pc r))) (tr_n (tr_k (P := fun m => decode (zbytes m) pc = .ok r ∧ (zilen r.1 = 0 ∨ r.2 = zilen r.1) ∧ zjok pc r.1 = true) (ze_18 pc r)) (tr_k (P := fun m => decode (zbytes m) pc = .ok r ∧ (zilen r.1 = 0 ∨ r.2 = zilen r.1) ∧ zjok pc r.1 = true) (ze_19 pc r)))) (tr_n (tr_n (tr_k (P := fun m => decode (zbytes m) pc = .ok r ∧ (zilen r.1 = 0 ∨ r.2 = zilen r.1) ∧ zjok pc r.1 = true) (ze_20 pc r)) (tr_k (P := fun m => decode (zbytes m) pc = .ok r ∧ (zilen r.1 = 0 ∨ r.2 = zilen r.1) ∧ zjok pc r.1 = true) (ze_21 pc r))) (tr_n (tr_k (P := fun m => decode (zbytes m) pc = .ok r ∧ (zilen r.1 = 0 ∨ r.2 = zilen r.1) ∧ zjok pc r.1 = true) (ze_22 pc r)) (tr_k (P := fun m => decode (zbytes m) pc = .ok r ∧ (zilen r.1 = 0 ∨ r.2 = zilen r.1) ∧ zjok pc r.1 = true) (ze_23 pc r))))) (tr_n (tr_n (tr_n (tr_k (P := fun m => decode (zbytes m) pc = .ok r ∧ (zilen r.1 = 0 ∨ r.2 = zilen r.1) ∧ zjok pc r.1 = true) (ze_24 pc r)) (tr_k (P := fun m => decode (zbytes m) pc = .ok r ∧ (zilen r.1 = 0 ∨ r.2 = zilen r.1) ∧ zjok pc r.1 = true) (ze_25 pc r))) (tr_n (tr_k (P := fun m => decode (zbytes m) pc = .ok r ∧ (zilen r.1 = 0 ∨ r.2 = zilen r.1) ∧ zjok pc r.1 = true) (ze_26 pc r)) (tr_k (P := fun m => decode (zbytes m) pc = .ok r ∧ (zilen r.1 = 0 ∨ r.2 = zilen r.1) ∧ zjok pc r.1 = true) (ze_27 pc r)))) (tr_n (tr_n (tr_k (P := fun m => decode (zbytes m) pc = .ok r ∧ (zilen r.1 = 0 ∨ r.2 = zilen r.1) ∧ zjok pc r.1 = true) (ze_28 pc r)) (tr_k (P := fun m => decode (zbytes m) pc = .ok r ∧ (zilen r.1 = 0 ∨ r.2 = zilen r.1) ∧ zjok pc r.1 = true) (ze_29 pc r))) (tr_n (tr_k (P := fun m => decode (zbytes m) pc = .ok r ∧ (zilen r.1 = 0 ∨ r.2 = zilen r.1) ∧ zjok pc r.1 = true) (ze_30 pc r)) (tr_k (P := fun m => decode (zbytes m) pc = .ok r ∧ (zilen r.1 = 0 ∨ r.2 = zilen r.1) ∧ zjok pc r.1 = true) (ze_31 pc r))))))) (tr_n (tr_n (tr_n (tr_n (tr_n (tr_k (P := fun m => decode (zbytes m) pc = .ok r ∧ (zilen r.1 = 0 ∨ r.2 = zilen r.1) ∧ zjok pc r.1 = true) (ze_32 pc r)) (tr_k (P := fun m => decode (zbytes m) pc = .ok r ∧ (zilen r.1 = 0 ∨ r.2 = zilen r.1) ∧ zjok pc r.1 = true) (ze_33 pc r))) (tr_n (tr_k (P := fun m => decode (zbytes m) pc = .ok r ∧ (zilen r.1 = 0 ∨ r.2 = zilen r.1) ∧ zjok pc r.1 = true) (ze_34 pc r)) (tr_k (P := fun m => decode (zbytes m) pc = .ok r ∧ (zilen r.1 = 0 ∨ r.2 = zilen r.1) ∧ zjok pc r.1 = true) (ze_35 pc r)))) (tr_n (tr_n (tr_k (P := fun m => decode (zbytes m) pc = .ok r ∧ (zilen r.1 = 0 ∨ r.2 = zilen r.1) ∧ zjok pc r.1 = true) (ze_36 pc r)) (tr_k (P := fun m => decode (zbytes m) pc = .ok r ∧ (zilen r.1 = 0 ∨ r.2 = zilen r.1) ∧ zjok pc r.1 = true) (ze_37 pc r))) (tr_n (tr_k (P := fun m => decode (zbytes m) pc = .ok r ∧ (zilen r.1 = 0 ∨ r.2 = zilen r.1) ∧ zjok pc r.1 = true) (ze_38 pc r)) (tr_k (P := fun m => decode (zbytes m) pc = .ok r ∧ (zilen r.1 = 0 ∨ r.2 = zilen r.1) ∧ zjok pc r.1 = true) (ze_39 pc r))))) (tr_n (tr_n (tr_n (tr_k (P := fun m => decode (zbytes m) pc = .ok r ∧ (zilen r.1 = 0 ∨ r.2 = zilen r.1) ∧ zjok pc r.1 = true) (ze_40 pc r)) (tr_k (P := fun m => decode (zbytes m) pc = .ok r ∧ (zilen r.1 = 0 ∨ r.2 = zilen r.1) ∧ zjok pc r.1 = true) (ze_41 pc r))) (tr_n (tr_k (P := fun m => decode (zbytes m) pc = .ok r ∧ (zilen r.1 = 0 ∨ r.2 = zilen r.1) ∧ zjok pc r.1 = true) (ze_42 pc r)) (tr_k (P := fun m => decode (zbytes m) pc = .ok r ∧ (zilen r.1 = 0 ∨ r.2 = zilen r.1) ∧ zjok pc r.1 = true) (ze_43 pc r)))) (tr_n (tr_n (tr_k (P := fun m => decode (zbytes m) pc = .ok r ∧ (zilen r.1 = 0 ∨ r.2 = zilen r.1) ∧ zjok pc r.1 = true) (ze_44 pc r)) (tr_k (P := fun m => decode (zbytes m) pc = .ok r ∧ (zilen r.1 = 0 ∨ r.2 = zilen r.1) ∧ zjok pc r.1 = true) (ze_45 pc r))) (tr_n (tr_k (P := fun m => decode (zbytes m) pc = .ok r ∧ (zilen r.1 = 0 ∨ r.2 = zilen r.1) ∧ zjok pc r.1 = true) (ze_46 pc r)) (tr_k (P := fun m => decode (zbytes m) pc = .ok r ∧ (zilen r.1 = 0 ∨ r.2 = zilen r.1) ∧ zjok pc r.1 = true) (ze_47 pc r)))))) (tr_n (tr_n (tr_n (tr_n (tr_k (P := fun m => decode (zbytes m) pc = .ok r ∧ (zilen r.1 = 0 ∨ r.2 = zilen r.1) ∧ zjok pc r.1 = true) (ze_48 pc r)) (tr_k (P := fun m => decode (zbytes m) pc = .ok r ∧ (zilen r.1 = 0 ∨ r.2 = zilen r.1) ∧ zjok pc r.1 = true) (ze_49 pc r))) (tr_n (tr_k (P := fun m => decode (zbytes m) pc = .ok r ∧ (zilen r.1 = 0 ∨ r.2 = zilen r.1) ∧ zjok pc r.1 = true) (ze_50 pc r)) (tr_k (P := fun m => decode (zbytes m) pc = .ok r ∧ (zilen r.1 = 0 ∨ r.2 = zilen r.1) ∧ zjok pc r.1 = true) (ze_51 pc r)))) (tr_n (tr_n (tr_k (P := fun m => decode (zbytes m) pc = .ok r ∧ (zilen r.1 = 0 ∨ r.2 = zilen r.1) ∧ zjok pc r.1 = true) (ze_52 pc r)) (tr_k (P := fun m => decode (zbytes m) pc = .ok r ∧ (zilen r.1 = 0 ∨ r.2 = zilen r.1) ∧ zjok pc r.1 = true) (ze_53 pc r))) (tr_n (tr_k (P := fun m => decode (zbytes m) pc = .ok r ∧ (zilen r.1 = 0 ∨ r.2 = zilen r.1) ∧ zjok pc r.1 = true) (ze_54 pc r)) (tr_k (P := fun m => decode (zbytes m) pc = .ok r ∧ (zilen r.1 = 0 ∨ r.2 = zilen r.1) ∧ zjok pc r.1 = true) (ze_55 pc r))))) (tr_n (tr_n (tr_n (tr_k (P := fun m => decode (zbytes m) pc = .ok r ∧ (zilen r.1 = 0 ∨ r.2 = zilen r.1) ∧ zjok pc r.1 = true) (ze_56 pc r)) (tr_k (P := fun m => decode (zbytes m) pc = .ok r ∧ (zilen r.1 = 0 ∨ r.2 = zilen r.1) ∧ zjok pc r.1 = true) (ze_57 pc r))) (tr_n (tr_k (P := fun m => decode (zbytes m) pc = .ok r ∧ (zilen r.1 = 0 ∨ r.2 = zilen r.1) ∧ zjok pc r.1 = true) (ze_58 pc r)) (tr_k (P := fun m => decode (zbytes m) pc = .ok r ∧ (zilen r.1 = 0 ∨ r.2 = zilen r.1) ∧ zjok pc r.1 = true) (ze_59 pc r)))) (tr_n (tr_n (tr_k (P := fun m => decode (zbytes m) pc = .ok r ∧ (zilen r.1 = 0 ∨ r.2 = zilen r.1) ∧ zjok pc r.1 = true) (ze_60 pc r)) (tr_k (P := fun m => decode (zbytes m) pc = .ok r ∧ (zilen r.1 = 0 ∨ r.2 = zilen r.1) ∧ zjok pc r.1 = true) (ze_61 pc r))) (tr_n (tr_k (P := fun m => decode (zbytes m) pc = .ok r ∧ (zilen r.1 = 0 ∨ r.2 = zilen r.1) ∧ zjok pc r.1 = true) (ze_62 pc r)) (tr_n (tr_k (P := fun m => decode (zbytes m) pc = .ok r ∧ (zilen r.1 = 0 ∨ r.2 = zilen r.1) ∧ zjok pc r.1 = true) (ze_63 pc r)) (tr_k (P := fun m => decode (zbytes m) pc = .ok r ∧ (zilen r.1 = 0 ∨ r.2 = zilen r.1) ∧ zjok pc r.1 = true) (ze_64 pc r))))))))) (tr_n (tr_n (tr_n (tr_n (tr_n (tr_n (tr_k (P := fun m => decode (zbytes m) pc = .ok r ∧ (zilen r.1 = 0 ∨ r.2 = zilen r.1) ∧ zjok pc r.1 = true) (ze_65 pc r)) (tr_k (P := fun m => decode (zbytes m) pc = .ok r ∧ (zilen r.1 = 0 ∨ r.2 = zilen r.1) ∧ zjok pc r.1 = true) (ze_66 pc r))) (tr_n (tr_k (P := fun m => decode (zbytes m) pc = .ok r ∧ (zilen r.1 = 0 ∨ r.2 = zilen r.1) ∧ zjok pc r.1 = true) (ze_67 pc r)) (tr_k (P := fun m => decode (zbytes m) pc = .ok r ∧ (zilen r.1 = 0 ∨ r.2 = zilen r.1) ∧ zjok pc r.1 = true) (ze_68 pc r)))) (tr_n (tr_n (tr_k (P := fun m => decode (zbytes m) pc = .ok r ∧ (zilen r.1 = 0 ∨ r.2 = zilen r.1) ∧ zjok pc r.1 = true) (ze_69 pc r)) (tr_k (P := fun m => decode (zbytes m) pc = .ok r ∧ (zilen r.1 = 0 ∨ r.2 = zilen r.1) ∧ zjok pc r.1 = true) (ze_70 pc r))) (tr_n (tr_k (P := fun m => decode (zbytes m) pc = .ok r ∧ (zilen r.1 = 0 ∨ r.2 = zilen r.1) ∧ zjok pc r.1 = true) (ze_71 pc r)) (tr_k (P := fun m => decode (zbytes m) pc = .ok r ∧ (zilen r.1 = 0 ∨ r.2 = zilen r.1) ∧ zjok pc r.1 = true) (ze_72 pc r))))) (tr_n (tr_n (tr_n (tr_k (P := fun m => decode (zbytes m) pc = .ok r ∧ (zilen r.1 = 0 ∨ r.2 = zilen r.1) ∧ zjok pc r.1 = true) (ze_73 pc r)) (tr_k (P := fun m => decode (zbytes m) pc = .ok r ∧ (zilen r.1 = 0 ∨ r.2 = zilen r.1) ∧ zjok pc r.1 = true) (ze_74 pc r))) (tr_n (tr_k (P := fun m => decode (zbytes m) pc = .ok r ∧ (zilen r.1 = 0 ∨ r.2 = zilen r.1) ∧ zjok pc r.1 = true) (ze_75 pc r)) (tr_k (P := fun m => decode (zbytes m) pc = .ok r ∧ (zilen r.1 = 0 ∨ r.2 = zilen r.1) ∧ zjok pc r.1 = true) (ze_76 pc r)))) (tr_n (tr_n (tr_k (P := fun m => decode (zbytes m) pc = .ok r ∧ (zilen r.1 = 0 ∨ r.2 = zilen r.1) ∧ zjok pc r.1 = true) (ze_77 pc r)) (tr_k (P := fun m => decode (zbytes m) pc = .ok r ∧ (zilen r.1 = 0 ∨ r.2 = zilen r.1) ∧ zjok pc r.1 = true) (ze_78 pc r))) (tr_n (tr_k (P := fun m => decode (zbytes m) pc = .ok r ∧ (zilen r.1 = 0 ∨ r.2 = zilen r.1) ∧ zjok pc r.1 = true) (ze_79 pc r)) (tr_k (P := fun m => decode (zbytes m) pc = .ok r ∧ (zilen r.1 = 0 ∨ r.2 = zilen r.1) ∧ zjok pc r.1 = true) (ze_80 pc r)))))) (tr_n (tr_n (tr_n (tr_n (tr_k (P := fun m => decode (zbytes m) pc = .ok r ∧ (zilen r.1 = 0 ∨ r.2 = zilen r.1) ∧ zjok pc r.1 = true) (ze_81 pc r)) (tr_k (P := fun m => decode (zbytes m) pc = .ok r ∧ (zilen r.1 = 0 ∨ r.2 = zilen r.1) ∧ zjok pc r.1 = true) (ze_82 pc r))) (tr_n (tr_k (P := fun m => decode (zbytes m) pc = .ok r ∧ (zilen r.1 = 0 ∨ r.2 = zilen r.1) ∧ zjok pc r.1 = true) (ze_83 pc r)) (tr_k (P := fun m => decode (zbytes m) pc = .ok r ∧ (zilen r.1 = 0 ∨ r.2 = zilen r.1) ∧ zjok pc r.1 = true) (ze_84 pc r)))) (tr_n (tr_n (tr_k (P := fun m => decode (zbytes m) pc = .ok r ∧ (zilen r.1 = 0 ∨ r.2 = zilen r.1) ∧ zjok pc r.1 = true) (ze_85 pc r)) (tr_k (P := fun m => decode (zbytes m) pc = .ok r ∧ (zilen r.1 = 0 ∨ r.2 = zilen r.1) ∧ zjok pc r.1 = true) (ze_86 pc r))) (tr_n (tr_k (P := fun m => decode (zbytes m) pc = .ok r ∧ (zilen r.1 = 0 ∨ r.2 = zilen r.1) ∧ zjok pc r.1 = true) (ze_87 pc r)) (tr_k (P := fun m => decode (zbytes m) pc = .ok r ∧ (zilen r.1 = 0 ∨ r.2 = zilen r.1) ∧ zjok pc r.1 = true) (ze_88 pc r))))) (tr_n (tr_n (tr_n (tr_k (P := fun m => decode (zbytes m) pc = .ok r ∧ (zilen r.1 = 0 ∨ r.2 = zilen r.1) ∧ zjok pc r.1 = true) (ze_89 pc r)) (tr_k (P := fun m => decode (zbytes m) pc = .ok r ∧ (zilen r.1 = 0 ∨ r.2 = zilen r.1) ∧ zjok pc r.1 = true) (ze_90 pc r))) (tr_n (tr_k (P := fun m => decode (zbytes m) pc = .ok r ∧ (zilen r.1 = 0 ∨ r.2 = zilen r.1) ∧ zjok pc r.1 = true) (ze_91 pc r)) (tr_k (P := fun m => decode (zbytes m) pc = .ok r ∧ (zilen r.1 = 0 ∨ r.2 = zilen r.1) ∧ zjok pc r.1 = true) (ze_92 pc r)))) (tr_n (tr_n (tr_k (P := fun m => decode (zbytes m) pc = .ok r ∧ (zilen r.1 = 0 ∨ r.2 = zilen r.1) ∧ zjok pc r.1 = true) (ze_93 pc r)) (tr_k (P := fun m => decode (zbytes m) pc = .ok r ∧ (zilen r.1 = 0 ∨ r.2 = zilen r.1) ∧ zjok pc r.1 = true) (ze_94 pc r))) (tr_n (tr_k (P := fun m => decode (zbytes m) pc = .ok r ∧ (zilen r.1 = 0 ∨ r.2 = zilen r.1) ∧ zjok pc r.1 = true) (ze_95 pc r)) (tr_n (tr_k (P := fun m => decode (zbytes m) pc = .ok r ∧ (zilen r.1 = 0 ∨ r.2 = zilen r.1) ∧ zjok pc r.1 = true) (ze_96 pc r)) (tr_k (P := fun m => decode (zbytes m) pc = .ok r ∧ (zilen r.1 = 0 ∨ r.2 = zilen r.1) ∧ zjok pc r.1 = true) (ze_97 pc r)))))))) (tr_n (tr_n (tr_n (tr_n (tr_n (tr_k (P := fun m => decode (zbytes m) pc = .ok r ∧ (zilen r.1 = 0 ∨ r.2 = zilen r.1) ∧ zjok pc r.1 = true) (ze_98 pc r)) (tr_k (P := fun m => decode (zbytes m) pc = .ok r ∧ (zilen r.1 = 0 ∨ r.2 = zilen r.1) ∧ zjok pc r.1 = true) (ze_99 pc r))) (tr_n (tr_k (P := fun m => decode (zbytes m) pc = .ok r ∧ (zilen r.1 = 0 ∨ r.2 = zilen r.1) ∧ zjok pc r.1 = true) (ze_100 pc r)) (tr_k (P := fun m => decode (zbytes m) pc = .ok r ∧ (zilen r.1 = 0 ∨ r.2 = zilen r.1) ∧ zjok pc r.1 = true) (ze_101 pc r)))) (tr_n (tr_n (tr_k (P := fun m => decode (zbytes m) pc = .ok r ∧ (zilen r.1 = 0 ∨ r.2 = zilen r.1) ∧ zjok pc r.1 = true) (ze_102 pc r)) (tr_k (P := fun m => decode (zbytes m) pc = .ok r ∧ (zilen r.1 = 0 ∨ r.2 = zilen r.1) ∧ zjok pc r.1 = true) (ze_103 pc r))) (tr_n (tr_k (P := fun m => decode (zbytes m) pc = .ok r ∧ (zilen r.1 = 0 ∨ r.2 = zilen r.1) ∧ zjok pc r.1 = true) (ze_104 pc r)) (tr_k (P := fun m => decode (zbytes m) pc = .ok r ∧ (zilen r.1 = 0 ∨ r.2 = zilen r.1) ∧ zjok pc r.1 = true) (ze_105 pc r))))) (tr_n (tr_n (tr_n (tr_k (P := fun m => decode (zbytes m) pc = .ok r ∧ (zilen r.1 = 0 ∨ r.2 = zilen r.1) ∧ zjok pc r.1 = true) (ze_106 pc r)) (tr_k (P := fun m => decode (zbytes m) pc = .ok r ∧ (zilen r.1 = 0 ∨ r.2 = zilen r.1) ∧ zjok pc r.1 = true) (ze_107 pc r))) (tr_n (tr_k (P := fun m => decode (zbytes m) pc = .ok r ∧ (zilen r.1 = 0 ∨ r.2 = zilen r.1) ∧ zjok pc r.1 = true) (ze_108 pc r)) (tr_k (P := fun m => decode (zbytes m) pc = .ok r ∧ (zilen r.1 = 0 ∨ r.2 = zilen r.1) ∧ zjok pc r.1 = true) (ze_109 pc r)))) (tr_n (tr_n (tr_k (P := fun m => decode (zbytes m) pc = .ok r ∧ (zilen r.1 = 0 ∨ r.2 = zilen r.1) ∧ zjok pc r.1 = true) (ze_110 pc r)) (tr_k (P := fun m => decode (zbytes m) pc = .ok r ∧ (zilen r.1 = 0 ∨ r.2 = zilen r.1) ∧ zjok pc r.1 = true) (ze_111 pc r))) (tr_n (tr_k (P := fun m => decode (zbytes m) pc = .ok r ∧ (zilen r.1 = 0 ∨ r.2 = zilen r.1) ∧ zjok pc r.1 = true) (ze_112 pc r)) (tr_k (P := fun m => decode (zbytes m) pc = .ok r ∧ (zilen r.1 = 0 ∨ r.2 = zilen r.1) ∧ zjok pc r.1 = true) (ze_113 pc r)))))) (tr_n (tr_n (tr_n (tr_n (tr_k (P := fun m => decode (zbytes m) pc = .ok r ∧ (zilen r.1 = 0 ∨ r.2 = zilen r.1) ∧ zjok pc r.1 = true) (ze_114 pc r)) (tr_k (P := fun m => decode (zbytes m) pc = .ok r ∧ (zilen r.1 = 0 ∨ r.2 = zilen r.1) ∧ zjok pc r.1 = true) (ze_115 pc r))) (tr_n (tr_k (P := fun m => decode (zbytes m) pc = .ok r ∧ (zilen r.1 = 0 ∨ r.2 = zilen r.1) ∧ zjok pc r.1 = true) (ze_116 pc r)) (tr_k (P := fun m => decode (zbytes m) pc = .ok r ∧ (zilen r.1 = 0 ∨ r.2 = zilen r.1) ∧ zjok pc r.1 = true) (ze_117 pc r)))) (tr_n (tr_n (tr_k (P := fun m => decode (zbytes m) pc = .ok r ∧ (zilen r.1 = 0 ∨ r.2 = zilen r.1) ∧ zjok pc r.1 = true) (ze_118 pc r)) (tr_k (P := fun m => decode (zbytes m) pc = .ok r ∧ (zilen r.1 = 0 ∨ r.2 = zilen r.1) ∧ zjok pc r.1 = true) (ze_119 pc r))) (tr_n (tr_k (P := fun m => decode (zbytes m) pc = .ok r ∧ (zilen r.1 = 0 ∨ r.2 = zilen r.1) ∧ zjok pc r.1 = true) (ze_120 pc r)) (tr_k (P := fun m => decode (zbytes m) pc = .ok r ∧ (zilen r.1 = 0 ∨ r.2 = zilen r.1) ∧ zjok pc r.1 = true) (ze_121 pc r))))) (tr_n (tr_n (tr_n (tr_k (P := fun m => decode (zbytes m) pc = .ok r ∧ (zilen r.1 = 0 ∨ r.2 = zilen r.1) ∧ zjok pc r.1 = true) (ze_122 pc r)) (tr_k (P := fun m => decode (zbytes m) pc = .ok r ∧ (zilen r.1 = 0 ∨ r.2 = zilen r.1) ∧ zjok pc r.1 = true) (ze_123 pc r))) (tr_n (tr_k (P := fun m => decode (zbytes m) pc = .ok r ∧ (zilen r.1 = 0 ∨ r.2 = zilen r.1) ∧ zjok pc r.1 = true) (ze_124 pc r)) (tr_k (P := fun m => decode (zbytes m) pc = .ok r ∧ (zilen r.1 = 0 ∨ r.2 = zilen r.1) ∧ zjok pc r.1 = true) (ze_125 pc r)))) (tr_n (tr_n (tr_k (P := fun m => decode (zbytes m) pc = .ok r ∧ (zilen r.1 = 0 ∨ r.2 = zilen r.1) ∧ zjok pc r.1 = true) (ze_126 pc r)) (tr_k (P := fun m => decode (zbytes m) pc = .ok r ∧ (zilen r.1 = 0 ∨ r.2 = zilen r.1) ∧ zjok pc r.1 = true) (ze_127 pc r))) (tr_n (tr_k (P := fun m => decode (zbytes m) pc = .ok r ∧ (zilen r.1 = 0 ∨ r.2 = zilen r.1) ∧ zjok pc r.1 = true) (ze_128 pc r)) (tr_n (tr_k (P := fun m => decode (zbytes m) pc = .ok r ∧ (zilen r.1 = 0 ∨ r.2 = zilen r.1) ∧ zjok pc r.1 = true) (ze_129 pc r)) (tr_k (P := fun m => decode (zbytes m) pc = .ok r ∧ (zilen r.1 = 0 ∨ r.2 = zilen r.1) ∧ zjok pc r.1 = true) (ze_130 pc r)))))))))) (tr_n (tr_n (tr_n (tr_n (tr_n (tr_n (tr_n (tr_k (P := fun m => decode (zbytes m) pc = .ok r ∧ (zilen r.1 = 0 ∨ r.2 = zilen r.1) ∧ zjok pc r.1 = true) (ze_131 pc r)) (tr_k (P := fun m => decode (zbytes m) pc = .ok r ∧ (zilen r.1 = 0 ∨ r.2 = zilen r.1) ∧ zjok pc r.1 = true) (ze_132 pc r))) (tr_n (tr_k (P := fun m => decode (zbytes m) pc = .ok r ∧ (zilen r.1 = 0 ∨ r.2 = zilen r.1) ∧ zjok pc r.1 = true) (ze_133 pc r)) (tr_k (P := fun m => decode (zbytes m) pc = .ok r ∧ (zilen r.1 = 0 ∨ r.2 = zilen r.1) ∧ zjok pc r.1 = true) (ze_134 pc r)))) (tr_n (tr_n (tr_k (P := fun m => decode (zbytes m) pc = .ok r ∧ (zilen r.1 = 0 ∨ r.2 = zilen r.1) ∧ zjok pc r.1 = true) (ze_135 pc r)) (tr_k (P := fun m => decode (zbytes m) pc = .ok r ∧ (zilen r.1 = 0 ∨ r.2 = zilen r.1) ∧ zjok pc r.1 = true) (ze_136 pc r))) (tr_n (tr_k (P := fun m => decode (zbytes m) pc = .ok r ∧ (zilen r.1 = 0 ∨ r.2 = zilen r.1) ∧ zjok pc r.1 = true) (ze_137 pc r)) (tr_k (P := fun m => decode (zbytes m) pc = .ok r ∧ (zilen r.1 = 0 ∨ r.2 = zilen r.1) ∧ zjok pc r.1 = true) (ze_138 pc r))))) (tr_n (tr_n (tr_n (tr_k (P := fun m => decode (zbytes m) pc = .ok r ∧ (zilen r.1 = 0 ∨ r.2 = zilen r.1) ∧ zjok pc r.1 = true) (ze_139 pc r)) (tr_k (P := fun m => decode (zbytes m) pc = .ok r ∧ (zilen r.1 = 0 ∨ r.2 = zilen r.1) ∧ zjok pc r.1 = true) (ze_140 pc r))) (tr_n (tr_k (P := fun m => decode (zbytes m) pc = .ok r ∧ (zilen r.1 = 0 ∨ r.2 = zilen r.1) ∧ zjok pc r.1 = true) (ze_141 pc r)) (tr_k (P := fun m => decode (zbytes m) pc = .ok r ∧ (zilen r.1 = 0 ∨ r.2 = zilen r.1) ∧ zjok pc r.1 = true) (ze_142 pc r)))) (tr_n (tr_n (tr_k (P := fun m => decode (zbytes m) pc = .ok r ∧ (zilen r.1 = 0 ∨ r.2 = zilen r.1) ∧ zjok pc r.1 = true) (ze_143 pc r)) (tr_k (P := fun m => decode (zbytes m) pc = .ok r ∧ (zilen r.1 = 0 ∨ r.2 = zilen r.1) ∧ zjok pc r.1 = true) (ze_144 pc r))) (tr_n (tr_k (P := fun m => decode (zbytes m) pc = .ok r ∧ (zilen r.1 = 0 ∨ r.2 = zilen r.1) ∧ zjok pc r.1 = true) (ze_145 pc r)) (tr_k (P := fun m => decode (zbytes m) pc = .ok r ∧ (zilen r.1 = 0 ∨ r.2 = zilen r.1) ∧ zjok pc r.1 = true) (ze_146 pc r)))))) (tr_n (tr_n (tr_n (tr_n (tr_k (P := fun m => decode (zbytes m) pc = .ok r ∧ (zilen r.1 = 0 ∨ r.2 = zilen r.1) ∧ zjok pc r.1 = true) (ze_147 pc r)) (tr_k (P := fun m => decode (zbytes m) pc = .ok r ∧ (zilen r.1 = 0 ∨ r.2 = zilen r.1) ∧ zjok pc r.1 = true) (ze_148 pc r))) (tr_n (tr_k (P := fun m => decode (zbytes m) pc = .ok r ∧ (zilen r.1 = 0 ∨ r.2 = zilen r.1) ∧ zjok pc r.1 = true) (ze_149 pc r)) (tr_k (P := fun m => decode (zbytes m) pc = .ok r ∧ (zilen r.1 = 0 ∨ r.2 = zilen r.1) ∧ zjok pc r.1 = true) (ze_150 pc r)))) (tr_n (tr_n (tr_k (P := fun m => decode (zbytes m) pc = .ok r ∧ (zilen r.1 = 0 ∨ r.2 = zilen r.1) ∧ zjok pc r.1 = true) (ze_151 pc r)) (tr_k (P := fun m => decode (zbytes m) pc = .ok r ∧ (zilen r.1 = 0 ∨ r.2 = zilen r.1) ∧ zjok pc r.1 = true) (ze_152 pc r))) (tr_n (tr_k (P := fun m => decode (zbytes m) pc = .ok r ∧ (zilen r.1 = 0 ∨ r.2 = zilen r.1) ∧ zjok pc r.1 = true) (ze_153 pc r)) (tr_k (P := fun m => decode (zbytes m) pc = .ok r ∧ (zilen r.1 = 0 ∨ r.2 = zilen r.1) ∧ zjok pc r.1 = true) (ze_154 pc r))))) (tr_n (tr_n (tr_n (tr_k (P := fun m => decode (zbytes m) pc = .ok r ∧ (zilen r.1 = 0 ∨ r.2 = zilen r.1) ∧ zjok pc r.1 = true) (ze_155 pc r)) (tr_k (P := fun m => decode (zbytes m) pc = .ok r ∧ (zilen r.1 = 0 ∨ r.2 = zilen r.1) ∧ zjok pc r.1 = true) (ze_156 pc r))) (tr_n (tr_k (P := fun m => decode (zbytes m) pc = .ok r ∧ (zilen r.1 = 0 ∨ r.2 = zilen r.1) ∧ zjok pc r.1 = true) (ze_157 pc r)) (tr_k (P := fun m => decode (zbytes m) pc = .ok r ∧ (zilen r.1 = 0 ∨ r.2 = zilen r.1) ∧ zjok pc r.1 = true) (ze_158 pc r)))) (tr_n (tr_n (tr_k (P := fun m => decode (zbytes m) pc = .ok r ∧ (zilen r.1 = 0 ∨ r.2 = zilen r.1) ∧ zjok pc r.1 = true) (ze_159 pc r)) (tr_k (P := fun m => decode (zbytes m) pc = .ok r ∧ (zilen r.1 = 0 ∨ r.2 = zilen r.1) ∧ zjok pc r.1 = true) (ze_160 pc r))) (tr_n (tr_k (P := fun m => decode (zbytes m) pc = .ok r ∧ (zilen r.1 = 0 ∨ r.2 = zilen r.1) ∧ zjok pc r.1 = true) (ze_161 pc r)) (tr_k (P := fun m => decode (zbytes m) pc = .ok r ∧ (zilen r.1 = 0 ∨ r.2 = zilen r.1) ∧ zjok pc r.1 = true) (ze_162 pc r))))))) (tr_n (tr_n (tr_n (tr_n (tr_n (tr_k (P := fun m => decode (zbytes m) pc = .ok r ∧ (zilen r.1 = 0 ∨ r.2 = zilen r.1) ∧ zjok pc r.1 = true) (ze_163 pc r)) (tr_k (P := fun m => decode (zbytes m) pc = .ok r ∧ (zilen r.1 = 0 ∨ r.2 = zilen r.1) ∧ zjok pc r.1 = true) (ze_164 pc r))) (tr_n (tr_k (P := fun m => decode (zbytes m) pc = .ok r ∧ (zilen r.1 = 0 ∨ r.2 = zilen r.1) ∧ zjok pc r.1 = true) (ze_165 pc r)) (tr_k (P := fun m => decode (zbytes m) pc = .ok r ∧ (zilen r.1 = 0 ∨ r.2 = zilen r.1) ∧ zjok pc r.1 = true) (ze_166 pc r)))) (tr_n (tr_n (tr_k (P := fun m => decode (zbytes m) pc = .ok r ∧ (zilen r.1 = 0 ∨ r.2 = zilen r.1) ∧ zjok pc r.1 = true) (ze_167 pc r)) (tr_k (P := fun m => decode (zbytes m) pc = .ok r ∧ (zilen r.1 = 0 ∨ r.2 = zilen r.1) ∧ zjok pc r.1 = true) (ze_168 pc r))) (tr_n (tr_k (P := fun m => decode (zbytes m) pc = .ok r ∧ (zilen r.1 = 0 ∨ r.2 = zilen r.1) ∧ zjok pc r.1 = true) (ze_169 pc r)) (tr_k (P := fun m => decode (zbytes m) pc = .ok r ∧ (zilen r.1 = 0 ∨ r.2 = zilen r.1) ∧ zjok pc r.1 = true) (ze_170 pc r))))) (tr_n (tr_n (tr_n (tr_k (P := fun m => decode (zbytes m) pc = .ok r ∧ (zilen r.1 = 0 ∨ r.2 = zilen r.1) ∧ zjok pc r.1 = true) (ze_171 pc r)) (tr_k (P := fun m => decode (zbytes m) pc = .ok r ∧ (zilen r.1 = 0 ∨ r.2 = zilen r.1) ∧ zjok pc r.1 = true) (ze_172 pc r))) (tr_n (tr_k (P := fun m => decode (zbytes m) pc = .ok r ∧ (zilen r.1 = 0 ∨ r.2 = zilen r.1) ∧ zjok pc r.1 = true) (ze_173 pc r)) (tr_k (P := fun m => decode (zbytes m) pc = .ok r ∧ (zilen r.1 = 0 ∨ r.2 = zilen r.1) ∧ zjok pc r.1 = true) (ze_174 pc r)))) (tr_n (tr_n (tr_k (P := fun m => decode (zbytes m) pc = .ok r ∧ (zilen r.1 = 0 ∨ r.2 = zilen r.1) ∧ zjok pc r.1 = true) (ze_175 pc r)) (tr_k (P := fun m => decode (zbytes m) pc = .ok r ∧ (zilen r.1 = 0 ∨ r.2 = zilen r.1) ∧ zjok pc r.1 = true) (ze_176 pc r))) (tr_n (tr_k (P := fun m => decode (zbytes m) pc = .ok r ∧ (zilen r.1 = 0 ∨ r.2 = zilen r.1) ∧ zjok pc r.1 = true) (ze_177 pc r)) (tr_k (P := fun m => decode (zbytes m) pc = .ok r ∧ (zilen r.1 = 0 ∨ r.2 = zilen r.1) ∧ zjok pc r.1 = true) (ze_178 pc r)))))) (tr_n (tr_n (tr_n (tr_n (tr_k (P := fun m => decode (zbytes m) pc = .ok r ∧ (zilen r.1 = 0 ∨ r.2 = zilen r.1) ∧ zjok pc r.1 = true) (ze_179 pc r)) (tr_k (P := fun m => decode (zbytes m) pc = .ok r ∧ (zilen r.1 = 0 ∨ r.2 = zilen r.1) ∧ zjok pc r.1 = true) (ze_180 pc r))) (tr_n (tr_k (P := fun m => decode (zbytes m) pc = .ok r ∧ (zilen r.1 = 0 ∨ r.2 = zilen r.1) ∧ zjok pc r.1 = true) (ze_181 pc r)) (tr_k (P := fun m => decode (zbytes m) pc = .ok r ∧ (zilen r.1 = 0 ∨ r.2 = zilen r.1) ∧ zjok pc r.1 = true) (ze_182 pc r)))) (tr_n (tr_n (tr_k (P := fun m => decode (zbytes m) pc = .ok r ∧ (zilen r.1 = 0 ∨ r.2 = zilen r.1) ∧ zjok pc r.1 = true) (ze_183 pc r)) (tr_k (P := fun m => decode (zbytes m) pc = .ok r ∧ (zilen r.1 = 0 ∨ r.2 = zilen r.1) ∧ zjok pc r.1 = true) (ze_184 pc r))) (tr_n (tr_k (P := fun m => decode (zbytes m) pc = .ok r ∧ (zilen r.1 = 0 ∨ r.2 = zilen r.1) ∧ zjok pc r.1 = true) (ze_185 pc r)) (tr_k (P := fun m => decode (zbytes m) pc = .ok r ∧ (zilen r.1 = 0 ∨ r.2 = zilen r.1) ∧ zjok pc r.1 = true) (ze_186 pc r))))) (tr_n (tr_n (tr_n (tr_k (P := fun m => decode (zbytes m) pc = .ok r ∧ (zilen r.1 = 0 ∨ r.2 = zilen r.1) ∧ zjok pc r.1 = true) (ze_187 pc r)) (tr_k (P := fun m => decode (zbytes m) pc = .ok r ∧ (zilen r.1 = 0 ∨ r.2 = zilen r.1) ∧ zjok pc r.1 = true) (ze_188 pc r))) (tr_n (tr_k (P := fun m => decode (zbytes m) pc = .ok r ∧ (zilen r.1 = 0 ∨ r.2 = zilen r.1) ∧ zjok pc r.1 = true) (ze_189 pc r)) (tr_k (P := fun m => decode (zbytes m) pc = .ok r ∧ (zilen r.1 = 0 ∨ r.2 = zilen r.1) ∧ zjok pc r.1 = true) (ze_190 pc r)))) (tr_n (tr_n (tr_k (P := fun m => decode (zbytes m) pc = .ok r ∧ (zilen r.1 = 0 ∨ r.2 = zilen r.1) ∧ zjok pc r.1 = true) (ze_191 pc r)) (tr_k (P := fun m => decode (zbytes m) pc = .ok r ∧ (zilen r.1 = 0 ∨ r.2 = zilen r.1) ∧ zjok pc r.1 = true) (ze_192 pc r))) (tr_n (tr_k (P := fun m => decode (zbytes m) pc = .ok r ∧ (zilen r.1 = 0 ∨ r.2 = zilen r.1) ∧ zjok pc r.1 = true) (ze_193 pc r)) (tr_n (tr_k (P := fun m => decode (zbytes m) pc = .ok r ∧ (zilen r.1 = 0 ∨ r.2 = zilen r.1) ∧ zjok pc r.1 = true) (ze_194 pc r)) (tr_k (P := fun m => decode (zbytes m) pc = .ok r ∧ (zilen r.1 = 0 ∨ r.2 = zilen r.1) ∧ zjok pc r.1 = true) (ze_195 pc r))))))))) (tr_n (tr_n (tr_n (tr_n (tr_n (tr_n (tr_k (P := fun m => decode (zbytes m) pc = .ok r ∧ (zilen r.1 = 0 ∨ r.2 = zilen r.1) ∧ zjok pc r.1 = true) (ze_196 pc r)) (tr_k (P := fun m => decode (zbytes m) pc = .ok r ∧ (zilen r.1 = 0 ∨ r.2 = zilen r.1) ∧ zjok pc r.1 = true) (ze_197 pc r))) (tr_n (tr_k (P := fun m => decode (zbytes m) pc = .ok r ∧ (zilen r.1 = 0 ∨ r.2 = zilen r.1) ∧ zjok pc r.1 = true) (ze_198 pc r)) (tr_k (P := fun m => decode (zbytes m) pc = .ok r ∧ (zilen r.1 = 0 ∨ r.2 = zilen r.1) ∧ zjok pc r.1 = true) (ze_199 pc r)))) (tr_n (tr_n (tr_k (P := fun m => decode (zbytes m) pc = .ok r ∧ (zilen r.1 = 0 ∨ r.2 = zilen r.1) ∧ zjok pc r.1 = true) (ze_200 pc r)) (tr_k (P := fun m => decode (zbytes m) pc = .ok r ∧ (zilen r.1 = 0 ∨ r.2 = zilen r.1) ∧ zjok pc r.1 = true) (ze_201 pc r))) (tr_n (tr_k (P := fun m => decode (zbytes m) pc = .ok r ∧ (zilen r.1 = 0 ∨ r.2 = zilen r.1) ∧ zjok pc r.1 = true) (ze_202 pc r)) (tr_k (P := fun m => decode (zbytes m) pc = .ok r ∧ (zilen r.1 = 0 ∨ r.2 = zilen r.1) ∧ zjok pc r.1 = true) (ze_203 pc r))))) (tr_n (tr_n (tr_n (tr_k (P := fun m => decode (zbytes m) pc = .ok r ∧ (zilen r.1 = 0 ∨ r.2 = zilen r.1) ∧ zjok pc r.1 = true) (ze_204 pc r)) (tr_k (P := fun m => decode (zbytes m) pc = .ok r ∧ (zilen r.1 = 0 ∨ r.2 = zilen r.1) ∧ zjok pc r.1 = true) (ze_205 pc r))) (tr_n (tr_k (P := fun m => decode (zbytes m) pc = .ok r ∧ (zilen r.1 = 0 ∨ r.2 = zilen r.1) ∧ zjok pc r.1 = true) (ze_206 pc r)) (tr_k (P := fun m => decode (zbytes m) pc = .ok r ∧ (zilen r.1 = 0 ∨ r.2 = zilen r.1) ∧ zjok pc r.1 = true) (ze_207 pc r)))) (tr_n (tr_n (tr_k (P := fun m => decode (zbytes m) pc = .ok r ∧ (zilen r.1 = 0 ∨ r.2 = zilen r.1) ∧ zjok pc r.1 = true) (ze_208 pc r)) (tr_k (P := fun m => decode (zbytes m) pc = .ok r ∧ (zilen r.1 = 0 ∨ r.2 = zilen r.1) ∧ zjok pc r.1 = true) (ze_209 pc r))) (tr_n (tr_k (P := fun m => decode (zbytes m) pc = .ok r ∧ (zilen r.1 = 0 ∨ r.2 = zilen r.1) ∧ zjok pc r.1 = true) (ze_210 pc r)) (tr_k (P := fun m => decode (zbytes m) pc = .ok r ∧ (zilen r.1 = 0 ∨ r.2 = zilen r.1) ∧ zjok pc r.1 = true) (ze_211 pc r)))))) (tr_n (tr_n (tr_n (tr_n (tr_k (P := fun m => decode (zbytes m) pc = .ok r ∧ (zilen r.1 = 0 ∨ r.2 = zilen r.1) ∧ zjok pc r.1 = true) (ze_212 pc r)) (tr_k (P := fun m => decode (zbytes m) pc = .ok r ∧ (zilen r.1 = 0 ∨ r.2 = zilen r.1) ∧ zjok pc r.1 = true) (ze_213 pc r))) (tr_n (tr_k (P := fun m => decode (zbytes m) pc = .ok r ∧ (zilen r.1 = 0 ∨ r.2 = zilen r.1) ∧ zjok pc r.1 = true) (ze_214 pc r)) (tr_k (P := fun m => decode (zbytes m) pc = .ok r ∧ (zilen r.1 = 0 ∨ r.2 = zilen r.1) ∧ zjok pc r.1 = true) (ze_215 pc r)))) (tr_n (tr_n (tr_k (P := fun m => decode (zbytes m) pc = .ok r ∧ (zilen r.1 = 0 ∨ r.2 = zilen r.1) ∧ zjok pc r.1 = true) (ze_216 pc r)) (tr_k (P := fun m => decode (zbytes m) pc = .ok r ∧ (zilen r.1 = 0 ∨ r.2 = zilen r.1) ∧ zjok pc r.1 = true) (ze_217 pc r))) (tr_n (tr_k (P := fun m => decode (zbytes m) pc = .ok r ∧ (zilen r.1 = 0 ∨ r.2 = zilen r.1) ∧ zjok pc r.1 = true) (ze_218 pc r)) (tr_k (P := fun m => decode (zbytes m) pc = .ok r ∧ (zilen r.1 = 0 ∨ r.2 = zilen r.1) ∧ zjok pc r.1 = true) (ze_219 pc r))))) (tr_n (tr_n (tr_n (tr_k (P := fun m => decode (zbytes m) pc = .ok r ∧ (zilen r.1 = 0 ∨ r.2 = zilen r.1) ∧ zjok pc r.1 = true) (ze_220 pc r)) (tr_k (P := fun m => decode (zbytes m) pc = .ok r ∧ (zilen r.1 = 0 ∨ r.2 = zilen r.1) ∧ zjok pc r.1 = true) (ze_221 pc r))) (tr_n (tr_k (P := fun m => decode (zbytes m) pc = .ok r ∧ (zilen r.1 = 0 ∨ r.2 = zilen r.1) ∧ zjok pc r.1 = true) (ze_222 pc r)) (tr_k (P := fun m => decode (zbytes m) pc = .ok r ∧ (zilen r.1 = 0 ∨ r.2 = zilen r.1) ∧ zjok pc r.1 = true) (ze_223 pc r)))) (tr_n (tr_n (tr_k (P := fun m => decode (zbytes m) pc = .ok r ∧ (zilen r.1 = 0 ∨ r.2 = zilen r.1) ∧ zjok pc r.1 = true) (ze_224 pc r)) (tr_k (P := fun m => decode (zbytes m) pc = .ok r ∧ (zilen r.1 = 0 ∨ r.2 = zilen r.1) ∧ zjok pc r.1 = true) (ze_225 pc r))) (tr_n (tr_k (P := fun m => decode (zbytes m) pc = .ok r ∧ (zilen r.1 = 0 ∨ r.2 = zilen r.1) ∧ zjok pc r.1 = true) (ze_226 pc r)) (tr_n (tr_k (P := fun m => decode (zbytes m) pc = .ok r ∧ (zilen r.1 = 0 ∨ r.2 = zilen r.1) ∧ zjok pc r.1 = true) (ze_227 pc r)) (tr_k (P := fun m => decode (zbytes m) pc = .ok r ∧ (zilen r.1 = 0 ∨ r.2 = zilen r.1) ∧ zjok pc r.1 = true) (ze_228 pc r)))))))) (tr_n (tr_n (tr_n (tr_n (tr_n (tr_k (P := fun m => decode (zbytes m) pc = .ok r ∧ (zilen r.1 = 0 ∨ r.2 = zilen r.1) ∧ zjok pc r.1 = true) (ze_229 pc r)) (tr_k (P := fun m => decode (zbytes m) pc = .ok r ∧ (zilen r.1 = 0 ∨ r.2 = zilen r.1) ∧ zjok pc r.1 = true) (ze_230 pc r))) (tr_n (tr_k (P := fun m => decode (zbytes m) pc = .ok r ∧ (zilen r.1 = 0 ∨ r.2 = zilen r.1) ∧ zjok pc r.1 = true) (ze_231 pc r)) (tr_k (P := fun m => decode (zbytes m) pc = .ok r ∧ (zilen r.1 = 0 ∨ r.2 = zilen r.1) ∧ zjok pc r.1 = true) (ze_232 pc r)))) (tr_n (tr_n (tr_k (P := fun m => decode (zbytes m) pc = .ok r ∧ (zilen r.1 = 0 ∨ r.2 = zilen r.1) ∧ zjok pc r.1 = true) (ze_233 pc r)) (tr_k (P := fun m => decode (zbytes m) pc = .ok r ∧ (zilen r.1 = 0 ∨ r.2 = zilen r.1) ∧ zjok pc r.1 = true) (ze_234 pc r))) (tr_n (tr_k (P := fun m => decode (zbytes m) pc = .ok r ∧ (zilen r.1 = 0 ∨ r.2 = zilen r.1) ∧ zjok pc r.1 = true) (ze_235 pc r)) (tr_k (P := fun m => decode (zbytes m) pc = .ok r ∧ (zilen r.1 = 0 ∨ r.2 = zilen r.1) ∧ zjok pc r.1 = true) (ze_236 pc r))))) (tr_n (tr_n (tr_n (tr_k (P := fun m => decode (zbytes m) pc = .ok r ∧ (zilen r.1 = 0 ∨ r.2 = zilen r.1) ∧ zjok pc r.1 = true) (ze_237 pc r)) (tr_k (P := fun m => decode (zbytes m) pc = .ok r ∧ (zilen r.1 = 0 ∨ r.2 = zilen r.1) ∧ zjok pc r.1 = true) (ze_238 pc r))) (tr_n (tr_k (P := fun m => decode (zbytes m) pc = .ok r ∧ (zilen r.1 = 0 ∨ r.2 = zilen r.1) ∧ zjok pc r.1 = true) (ze_239 pc r)) (tr_k (P := fun m => decode (zbytes m) pc = .ok r ∧ (zilen r.1 = 0 ∨ r.2 = zilen r.1) ∧ zjok pc r.1 = true) (ze_240 pc r)))) (tr_n (tr_n (tr_k (P := fun m => decode (zbytes m) pc = .ok r ∧ (zilen r.1 = 0 ∨ r.2 = zilen r.1) ∧ zjok pc r.1 = true) (ze_241 pc r)) (tr_k (P := fun m => decode (zbytes m) pc = .ok r ∧ (zilen r.1 = 0 ∨ r.2 = zilen r.1) ∧ zjok pc r.1 = true) (ze_242 pc r))) (tr_n (tr_k (P := fun m => decode (zbytes m) pc = .ok r ∧ (zilen r.1 = 0 ∨ r.2 = zilen r.1) ∧ zjok pc r.1 = true) (ze_243 pc r)) (tr_k (P := fun m => decode (zbytes m) pc = .ok r ∧ (zilen r.1 = 0 ∨ r.2 = zilen r.1) ∧ zjok pc r.1 = true) (ze_244 pc r)))))) (tr_n (tr_n (tr_n (tr_n (tr_k (P := fun m => decode (zbytes m) pc = .ok r ∧ (zilen r.1 = 0 ∨ r.2 = zilen r.1) ∧ zjok pc r.1 = true) (ze_245 pc r)) (tr_k (P := fun m => decode (zbytes m) pc = .ok r ∧ (zilen r.1 = 0 ∨ r.2 = zilen r.1) ∧ zjok pc r.1 = true) (ze_246 pc r))) (tr_n (tr_k (P := fun m => decode (zbytes m) pc = .ok r ∧ (zilen r.1 = 0 ∨ r.2 = zilen r.1) ∧ zjok pc r.1 = true) (ze_247 pc r)) (tr_k (P := fun m => decode (zbytes m) pc = .ok r ∧ (zilen r.1 = 0 ∨ r.2 = zilen r.1) ∧ zjok pc r.1 = true) (ze_248 pc r)))) (tr_n (tr_n (tr_k (P := fun m => decode (zbytes m) pc = .ok r ∧ (zilen r.1 = 0 ∨ r.2 = zilen r.1) ∧ zjok pc r.1 = true) (ze_249 pc r)) (tr_k (P := fun m => decode (zbytes m) pc = .ok r ∧ (zilen r.1 = 0 ∨ r.2 = zilen r.1) ∧ zjok pc r.1 = true) (ze_250 pc r))) (tr_n (tr_k (P := fun m => decode (zbytes m) pc = .ok r ∧ (zilen r.1 = 0 ∨ r.2 = zilen r.1) ∧ zjok pc r.1 = true) (ze_251 pc r)) (tr_k (P := fun m => decode (zbytes m) pc = .ok r ∧ (zilen r.1 = 0 ∨ r.2 = zilen r.1) ∧ zjok pc r.1 = true) (ze_252 pc r))))) (tr_n (tr_n (tr_n (tr_k (P := fun m => decode (zbytes m) pc = .ok r ∧ (zilen r.1 = 0 ∨ r.2 = zilen r.1) ∧ zjok pc r.1 = true) (ze_253 pc r)) (tr_k (P := fun m => decode (zbytes m) pc = .ok r ∧ (zilen r.1 = 0 ∨ r.2 = zilen r.1) ∧ zjok pc r.1 = true) (ze_254 pc r))) (tr_n (tr_k (P := fun m => decode (zbytes m) pc = .ok r ∧ (zilen r.1 = 0 ∨ r.2 = zilen r.1) ∧ zjok pc r.1 = true) (ze_255 pc r)) (tr_k (P := fun m => decode (zbytes m) pc = .ok r ∧ (zilen r.1 = 0 ∨ r.2 = zilen r.1) ∧ zjok pc r.1 = true) (ze_256 pc r)))) (tr_n (tr_n (tr_k (P := fun m => decode (zbytes m) pc = .ok r ∧ (zilen r.1 = 0 ∨ r.2 = zilen r.1) ∧ zjok pc r.1 = true) (ze_257 pc r)) (tr_k (P := fun m => decode (zbytes m) pc = .ok r ∧ (zilen r.1 = 0 ∨ r.2 = zilen r.1) ∧ zjok pc r.1 = true) (ze_258 pc r))) (tr_n (tr_k (P := fun m => decode (zbytes m) pc = .ok r ∧ (zilen r.1 = 0 ∨ r.2 = zilen r.1) ∧ zjok pc r.1 = true) (ze_259 pc r)) (tr_n (tr_k (P := fun m => decode (zbytes m) pc = .ok r ∧ (zilen r.1 = 0 ∨ r.2 = zilen r.1) ∧ zjok pc r.1 = true) (ze_260 pc r)) (tr_k (P := fun m => decode (zbytes m) pc = .ok r ∧ (zilen r.1 = 0 ∨ r.2 = zilen r.1) ∧ zjok pc r.1 = true) (ze_261 pc r)))))))))))
