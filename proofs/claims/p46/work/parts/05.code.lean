/-! The code of the claim's methods, and what its constant pools name: tables, laid by a program out of the printed Statement. -/
abbrev mD_init : Nat := 0
abbrev mD_look : Nat := 1
abbrev mD_lookAtNeeds : Nat := 2
abbrev mD_putNeed : Nat := 3
abbrev mD_ahead : Nat := 4
abbrev mD_behind : Nat := 5
abbrev mD_endingIn : Nat := 6
abbrev mD_lookAtLoop : Nat := 7
abbrev mD_lessening : Nat := 8
abbrev mD_failingStates : Nat := 9
abbrev mD_count : Nat := 10
abbrev mD_failed : Nat := 11
abbrev mD_safeStates : Nat := 12
abbrev mFo_init : Nat := 13
abbrev mFo_size : Nat := 14
abbrev mH_init : Nat := 15
abbrev mH_forget : Nat := 16
abbrev mH_remember : Nat := 17
abbrev mH_holds : Nat := 18
abbrev mH_bringBack : Nat := 19
abbrev mH_takeBack : Nat := 20
abbrev mH_keepIn : Nat := 21
abbrev mH_heldSlots : Nat := 22
abbrev mPa_init : Nat := 23
abbrev mPa_begin : Nat := 24
abbrev mPa_parseDescription : Nat := 25
abbrev mPa_take : Nat := 26
abbrev mPa_refuse : Nat := 27
abbrev mPa_parseFormula : Nat := 28
abbrev mPa_checkNode : Nat := 29
abbrev mPa_parseRowWord : Nat := 30
abbrev mPa_parseStatement : Nat := 31
abbrev mPa_parseVariable : Nat := 32
abbrev mPa_closeStatement : Nat := 33
abbrev mPa_parseAlone : Nat := 34
abbrev mP_init : Nat := 35
abbrev mP_kindOf : Nat := 36
abbrev mP_has : Nat := 37
abbrev mP_add : Nat := 38
abbrev mP_start : Nat := 39
abbrev mP_secondOf : Nat := 40
abbrev mP_firstOf : Nat := 41
abbrev mP_lastOfRow : Nat := 42
abbrev mP_takeNumber : Nat := 43
abbrev mP_putVariable : Nat := 44
abbrev mP_putPart : Nat := 45
abbrev mP_numberOf : Nat := 46
abbrev mP_parentOf : Nat := 47
abbrev mP_nextOf : Nat := 48
abbrev mP_connect : Nat := 49
abbrev mP_thenOf : Nat := 50
abbrev mP_variableOf : Nat := 51
abbrev mP_partOf : Nat := 52
abbrev mP_loopAt : Nat := 53
abbrev mP_entry : Nat := 54
abbrev mP_depthOf : Nat := 55
abbrev mP_inRow : Nat := 56
abbrev mR_init : Nat := 57
abbrev mR_look : Nat := 58
abbrev mR_lookAtLoop : Nat := 59
abbrev mR_endOfRow : Nat := 60
abbrev mR_putEnd : Nat := 61
abbrev mR_lookAtOther : Nat := 62
abbrev mR_endOf : Nat := 63
abbrev mR_wrongStates : Nat := 64
abbrev mR_endFrom : Nat := 65
abbrev mR_dearestState : Nat := 66
abbrev mR_endsFromBefore : Nat := 67
abbrev mR_follow : Nat := 68
abbrev mR_countRound : Nat := 69
abbrev mR_statementBehind : Nat := 70
abbrev mR_looksAtCondition : Nat := 71
abbrev mR_stateBehind : Nat := 72
abbrev mR_mean : Nat := 73
abbrev mR_bitsOf_D : Nat := 74
abbrev mR_stepsFrom : Nat := 75
abbrev mR_costFrom : Nat := 76
abbrev mR_bitsOf_F : Nat := 77
abbrev mR_metAt : Nat := 78
abbrev mR_takeUnseen : Nat := 79
abbrev mSb_init_Stri : Nat := 80
abbrev mSc_init : Nat := 81
abbrev mSc_begin : Nat := 82
abbrev mSc_scan : Nat := 83
abbrev mSc_behindBlanks : Nat := 84
abbrev mSc_byteAt : Nat := 85
abbrev mSc_isLetter : Nat := 86
abbrev mSc_behindLetters : Nat := 87
abbrev mSc_isDigit : Nat := 88
abbrev mSc_behindDigits : Nat := 89
abbrev mSc_numberToken : Nat := 90
abbrev mSc_advance : Nat := 91
abbrev mS_init : Nat := 92
abbrev mS_nodesOfForm : Nat := 93
abbrev mS_look : Nat := 94
abbrev mS_evaluate : Nat := 95
abbrev mS_push : Nat := 96
abbrev mS_negate : Nat := 97
abbrev mS_join : Nat := 98
abbrev mS_holding : Nat := 99
abbrev mS_lookAtStatement : Nat := 100
abbrev mS_lookAtLoop : Nat := 101
abbrev mS_holdsIn : Nat := 102
abbrev mS_conditionOf : Nat := 103
abbrev mS_has : Nat := 104
abbrev mS_moved : Nat := 105
abbrev mS_number : Nat := 106
abbrev mS_keepOf : Nat := 107
abbrev mS_lessOf : Nat := 108
abbrev mS_targetOf : Nat := 109
abbrev mS_least : Nat := 110
abbrev mS_formulaOf : Nat := 111
abbrev mS_greatestLess : Nat := 112
abbrev mSh_init : Nat := 113
abbrev mSh_write : Nat := 114
abbrev mSh_appendFormula : Nat := 115
abbrev mSh_appendNode : Nat := 116
abbrev mSh_sizeOf : Nat := 117
abbrev mSh_giveUp : Nat := 118
abbrev mSh_writeBranch : Nat := 119
abbrev mSh_rowAt : Nat := 120
abbrev mSh_appendRow : Nat := 121
abbrev mSh_rowOf : Nat := 122
abbrev mSh_writeSwapped : Nat := 123
abbrev mV_init : Nat := 124
abbrev mV_putKeep : Nat := 125
abbrev mV_fits : Nat := 126
abbrev mV_putLess : Nat := 127
abbrev mV_fillingOf : Nat := 128
abbrev mV_keepOf : Nat := 129
abbrev mV_lessOf : Nat := 130
abbrev mV_priceOf : Nat := 131
abbrev mV_filledHoles : Nat := 132
abbrev mV_putFilling : Nat := 133
abbrev mV_copy : Nat := 134
abbrev mV_putPrice : Nat := 135
abbrev mW_spell : Nat := 136
abbrev mW_find : Nat := 137
abbrev mW_text : Nat := 138
abbrev mW_stands : Nat := 139
abbrev mW_isOfExpressions : Nat := 140
abbrev mW_isOfConditions : Nat := 141
abbrev mW_expressionsBehind : Nat := 142
abbrev mW_conditionsBehind : Nat := 143
abbrev mW_isStatement : Nat := 144
abbrev mW_isVariable : Nat := 145
abbrev mB_init : Nat := 146
abbrev mB_errorCode : Nat := 147
abbrev mSb_append_StriB : Nat := 148
abbrev mB_before : Nat := 149
abbrev mB_after : Nat := 150
abbrev mB_needAhead : Nat := 151
abbrev mB_trouble : Nat := 152
abbrev mB_wrong : Nat := 153
abbrev mB_dearest : Nat := 154
abbrev mB_meanCost : Nat := 155
abbrev mB_meanBits : Nat := 156
abbrev mB_share : Nat := 157
abbrev mB_feed : Nat := 158
abbrev mB_appendInput : Nat := 159
abbrev mB_load : Nat := 160
abbrev mB_requireLength : Nat := 161
abbrev mB_closeInput : Nat := 162
abbrev mB_value : Nat := 163
abbrev mB_statement : Nat := 164
abbrev mB_requireStatement : Nat := 165
abbrev mB_nodesOf : Nat := 166
abbrev mB_loopSet : Nat := 167
abbrev mB_requireLoop : Nat := 168
abbrev mB_less : Nat := 169
abbrev mB_requireState : Nat := 170
abbrev mB_need : Nat := 171
abbrev mB_duty : Nat := 172
abbrev mB_requireDuty : Nat := 173
abbrev mB_failing : Nat := 174
abbrev mB_run : Nat := 175
abbrev mB_steps : Nat := 176
abbrev mB_cost : Nat := 177
abbrev mB_costBits : Nat := 178
abbrev mB_met : Nat := 179
abbrev mSb_append_Stri : Nat := 180
abbrev mB_proves : Nat := 181
abbrev mB_requireHole : Nat := 182
abbrev mB_leastFilling : Nat := 183
abbrev mB_rights : Nat := 184
abbrev mB_safe : Nat := 185
abbrev mB_unsafe : Nat := 186
abbrev mB_writeNeed : Nat := 187
abbrev mB_writeWords : Nat := 188
abbrev mSb_append_C : Nat := 189
abbrev mB_needNodes : Nat := 190
abbrev mB_gap : Nat := 191
abbrev mB_setBefore : Nat := 192
abbrev mB_parseAlone : Nat := 193
abbrev mB_setAfter : Nat := 194
abbrev mB_setKeep : Nat := 195
abbrev mB_setLess : Nat := 196
abbrev mB_fill : Nat := 197
abbrev mB_setPrice : Nat := 198
abbrev mB_restore : Nat := 199
abbrev mB_requireSlot : Nat := 200
abbrev mB_undo : Nat := 201
abbrev mB_save : Nat := 202
abbrev mSb_append_I : Nat := 203
abbrev mSb_toString : Nat := 204
abbrev mSb_length : Nat := 205
abbrev mSb_init_ : Nat := 206
abbrev mL_next : Nat := 207
abbrev mL_load : Nat := 208
abbrev mL_type : Nat := 209
abbrev mL_undone : Nat := 210
abbrev mL_filled : Nat := 211
abbrev mL_priced : Nat := 212
abbrev mL_before : Nat := 213
abbrev mL_after : Nat := 214
abbrev mL_proof : Nat := 215
abbrev mL_formula : Nat := 216
abbrev mL_sum : Nat := 217
abbrev mL_adds : Nat := 218
abbrev mL_holds : Nat := 219
abbrev mL_act : Nat := 220
abbrev mL_keep : Nat := 221
abbrev mL_less : Nat := 222
abbrev mMa_max : Nat := 223
abbrev mMa_min : Nat := 224
abbrev mMa_floorMod : Nat := 225
abbrev mLo_bitCount : Nat := 226
abbrev mLo_numberOfTrailingZeros : Nat := 227
abbrev mAr_fill_aJJ : Nat := 228
abbrev mAr_copyOfRange : Nat := 229
abbrev mAr_copyOfRangeByte : Nat := 230
abbrev mAr_checkLength : Nat := 231
abbrev mAr_fill_aII : Nat := 232
abbrev mFl_floatToIntBits : Nat := 233
abbrev mFl_isNaN : Nat := 234
abbrev mDo_doubleToLongBits : Nat := 235
abbrev mDo_isNaN : Nat := 236
abbrev mAs_init_Stri : Nat := 237
abbrev mAs_append_Stri : Nat := 238
abbrev mAs_ensureCapacityInternal : Nat := 239
abbrev mAs_newCapacity : Nat := 240
abbrev mAs_isLatin1 : Nat := 241
abbrev mAs_putStringAt : Nat := 242
abbrev mAs_inflateIfNeededFor : Nat := 243
abbrev mAs_append_C : Nat := 244
abbrev mAs_append_I : Nat := 245
abbrev mAs_getValue : Nat := 246
abbrev mAs_length : Nat := 247
abbrev mAs_init_I : Nat := 248
abbrev mSt_length : Nat := 249
abbrev mSt_coder : Nat := 250
abbrev mSt_charAt : Nat := 251
abbrev mSt_isLatin1 : Nat := 252
abbrev mSt_init_Stri : Nat := 253
abbrev mSt_init_AbstVoid : Nat := 254
abbrev mIn_stringSize : Nat := 255
abbrev mIn_getChars : Nat := 256
abbrev mIn_numberOfTrailingZeros : Nat := 257
abbrev mSu_newLength : Nat := 258
abbrev mLa_charAt : Nat := 259
abbrev mLa_canEncode : Nat := 260
abbrev mL_law : Nat := 261
set_option maxRecDepth 10000 in
noncomputable def zc_0 (pc : Nat) : Option (Instr × Nat) :=
 bif Nat.blt pc 31 then (bif Nat.blt pc 15 then (bif Nat.blt pc 7 then (bif Nat.blt pc 4 then (bif Nat.blt pc 1 then (bif Nat.beq pc 0 then some (.aload_n 0, 1) else none) else
    (bif Nat.beq pc 1 then some (.invokespecial 3, 3) else none)) else
   (bif Nat.blt pc 5 then (bif Nat.beq pc 4 then some (.aload_n 0, 1) else none) else
    (bif Nat.beq pc 5 then some (.bipush 24, 2) else none))) else
  (bif Nat.blt pc 12 then (bif Nat.blt pc 9 then (bif Nat.beq pc 7 then some (.newarray .long, 2) else none) else
    (bif Nat.beq pc 9 then some (.putfield 9, 3) else none)) else
   (bif Nat.blt pc 13 then (bif Nat.beq pc 12 then some (.aload_n 0, 1) else none) else
    (bif Nat.beq pc 13 then some (.bipush 73, 2) else none)))) else
 (bif Nat.blt pc 22 then (bif Nat.blt pc 20 then (bif Nat.blt pc 17 then (bif Nat.beq pc 15 then some (.newarray .long, 2) else none) else
    (bif Nat.beq pc 17 then some (.putfield 15, 3) else none)) else
   (bif Nat.blt pc 21 then (bif Nat.beq pc 20 then some (.aload_n 0, 1) else none) else
    (bif Nat.beq pc 21 then some (.aload_n 1, 1) else none))) else
  (bif Nat.blt pc 26 then (bif Nat.blt pc 25 then (bif Nat.beq pc 22 then some (.putfield 18, 3) else none) else
    (bif Nat.beq pc 25 then some (.aload_n 0, 1) else none)) else
   (bif Nat.blt pc 27 then (bif Nat.beq pc 26 then some (.aload_n 2, 1) else none) else
    (bif Nat.blt pc 30 then (bif Nat.beq pc 27 then some (.putfield 22, 3) else none) else
     (bif Nat.beq pc 30 then some (.return_, 1) else none)))))) else none
set_option maxRecDepth 10000 in
noncomputable def zc_1 (pc : Nat) : Option (Instr × Nat) :=
 bif Nat.blt pc 103 then (bif Nat.blt pc 50 then (bif Nat.blt pc 25 then (bif Nat.blt pc 10 then (bif Nat.blt pc 5 then (bif Nat.blt pc 1 then (bif Nat.beq pc 0 then some (.aload_n 0, 1) else none) else
     (bif Nat.blt pc 2 then (bif Nat.beq pc 1 then some (.aload_n 1, 1) else none) else
      (bif Nat.beq pc 2 then some (.putfield 26, 3) else none))) else
    (bif Nat.blt pc 6 then (bif Nat.beq pc 5 then some (.aload_n 0, 1) else none) else
     (bif Nat.blt pc 9 then (bif Nat.beq pc 6 then some (.getfield 18, 3) else none) else
      (bif Nat.beq pc 9 then some (.aload_n 0, 1) else none)))) else
   (bif Nat.blt pc 17 then (bif Nat.blt pc 13 then (bif Nat.beq pc 10 then some (.getfield 26, 3) else none) else
     (bif Nat.blt pc 14 then (bif Nat.beq pc 13 then some (.aload_n 2, 1) else none) else
      (bif Nat.beq pc 14 then some (.invokevirtual 30, 3) else none))) else
    (bif Nat.blt pc 21 then (bif Nat.blt pc 18 then (bif Nat.beq pc 17 then some (.aload_n 0, 1) else none) else
      (bif Nat.beq pc 18 then some (.getfield 22, 3) else none)) else
     (bif Nat.blt pc 22 then (bif Nat.beq pc 21 then some (.aload_n 0, 1) else none) else
      (bif Nat.beq pc 22 then some (.getfield 26, 3) else none))))) else
  (bif Nat.blt pc 37 then (bif Nat.blt pc 30 then (bif Nat.blt pc 26 then (bif Nat.beq pc 25 then some (.aload_n 2, 1) else none) else
     (bif Nat.blt pc 29 then (bif Nat.beq pc 26 then some (.invokevirtual 36, 3) else none) else
      (bif Nat.beq pc 29 then some (.aload_n 0, 1) else none))) else
    (bif Nat.blt pc 33 then (bif Nat.beq pc 30 then some (.invokevirtual 39, 3) else none) else
     (bif Nat.blt pc 34 then (bif Nat.beq pc 33 then some (.aload_n 0, 1) else none) else
      (bif Nat.beq pc 34 then some (.getfield 15, 3) else none)))) else
   (bif Nat.blt pc 42 then (bif Nat.blt pc 38 then (bif Nat.beq pc 37 then some (.lconst 0, 1) else none) else
     (bif Nat.blt pc 41 then (bif Nat.beq pc 38 then some (.invokestatic 42, 3) else none) else
      (bif Nat.beq pc 41 then some (.aload_n 0, 1) else none))) else
    (bif Nat.blt pc 46 then (bif Nat.blt pc 45 then (bif Nat.beq pc 42 then some (.getfield 15, 3) else none) else
      (bif Nat.beq pc 45 then some (.iconst 0, 1) else none)) else
     (bif Nat.blt pc 47 then (bif Nat.beq pc 46 then some (.aload_n 0, 1) else none) else
      (bif Nat.beq pc 47 then some (.getfield 18, 3) else none)))))) else
 (bif Nat.blt pc 73 then (bif Nat.blt pc 64 then (bif Nat.blt pc 55 then (bif Nat.blt pc 53 then (bif Nat.beq pc 50 then some (.getfield 48, 3) else none) else
     (bif Nat.blt pc 54 then (bif Nat.beq pc 53 then some (.aload_n 0, 1) else none) else
      (bif Nat.beq pc 54 then some (.aload_n 0, 1) else none))) else
    (bif Nat.blt pc 58 then (bif Nat.beq pc 55 then some (.getfield 26, 3) else none) else
     (bif Nat.blt pc 61 then (bif Nat.beq pc 58 then some (.invokevirtual 52, 3) else none) else
      (bif Nat.beq pc 61 then some (.invokevirtual 58, 3) else none)))) else
   (bif Nat.blt pc 69 then (bif Nat.blt pc 67 then (bif Nat.beq pc 64 then some (.ldc2_w 62, 3) else none) else
     (bif Nat.blt pc 68 then (bif Nat.beq pc 67 then some (.lxor, 1) else none) else
      (bif Nat.beq pc 68 then some (.land, 1) else none))) else
    (bif Nat.blt pc 71 then (bif Nat.blt pc 70 then (bif Nat.beq pc 69 then some (.lastore, 1) else none) else
      (bif Nat.beq pc 70 then some (.iconst 0, 1) else none)) else
     (bif Nat.blt pc 72 then (bif Nat.beq pc 71 then some (.istore_n 3, 1) else none) else
      (bif Nat.beq pc 72 then some (.iload_n 3, 1) else none))))) else
  (bif Nat.blt pc 86 then (bif Nat.blt pc 80 then (bif Nat.blt pc 74 then (bif Nat.beq pc 73 then some (.aload_n 0, 1) else none) else
     (bif Nat.blt pc 77 then (bif Nat.beq pc 74 then some (.getfield 26, 3) else none) else
      (bif Nat.beq pc 77 then some (.getfield 64, 3) else none))) else
    (bif Nat.blt pc 84 then (bif Nat.blt pc 83 then (bif Nat.beq pc 80 then some (.if_icmp .ge 22, 3) else none) else
      (bif Nat.beq pc 83 then some (.aload_n 0, 1) else none)) else
     (bif Nat.blt pc 85 then (bif Nat.beq pc 84 then some (.iload_n 3, 1) else none) else
      (bif Nat.beq pc 85 then some (.aload_n 0, 1) else none)))) else
   (bif Nat.blt pc 93 then (bif Nat.blt pc 89 then (bif Nat.beq pc 86 then some (.getfield 26, 3) else none) else
     (bif Nat.blt pc 90 then (bif Nat.beq pc 89 then some (.iload_n 3, 1) else none) else
      (bif Nat.beq pc 90 then some (.invokevirtual 68, 3) else none))) else
    (bif Nat.blt pc 99 then (bif Nat.blt pc 96 then (bif Nat.beq pc 93 then some (.invokevirtual 72, 3) else none) else
      (bif Nat.beq pc 96 then some (.iinc 3 1, 3) else none)) else
     (bif Nat.blt pc 102 then (bif Nat.beq pc 99 then some (.goto (-27), 3) else none) else
      (bif Nat.beq pc 102 then some (.return_, 1) else none))))))) else none
set_option maxRecDepth 10000 in
noncomputable def zc_2 (pc : Nat) : Option (Instr × Nat) :=
 bif Nat.blt pc 151 then (bif Nat.blt pc 76 then (bif Nat.blt pc 40 then (bif Nat.blt pc 18 then (bif Nat.blt pc 7 then (bif Nat.blt pc 2 then (bif Nat.blt pc 1 then (bif Nat.beq pc 0 then some (.iconst 0, 1) else none) else
      (bif Nat.beq pc 1 then some (.istore_n 1, 1) else none)) else
     (bif Nat.blt pc 3 then (bif Nat.beq pc 2 then some (.iload_n 1, 1) else none) else
      (bif Nat.blt pc 4 then (bif Nat.beq pc 3 then some (.aload_n 0, 1) else none) else
       (bif Nat.beq pc 4 then some (.getfield 26, 3) else none)))) else
    (bif Nat.blt pc 13 then (bif Nat.blt pc 10 then (bif Nat.beq pc 7 then some (.getfield 64, 3) else none) else
      (bif Nat.beq pc 10 then some (.if_icmp .ge 29, 3) else none)) else
     (bif Nat.blt pc 14 then (bif Nat.beq pc 13 then some (.aload_n 0, 1) else none) else
      (bif Nat.blt pc 15 then (bif Nat.beq pc 14 then some (.aload_n 0, 1) else none) else
       (bif Nat.beq pc 15 then some (.getfield 26, 3) else none))))) else
   (bif Nat.blt pc 27 then (bif Nat.blt pc 22 then (bif Nat.blt pc 19 then (bif Nat.beq pc 18 then some (.iload_n 1, 1) else none) else
      (bif Nat.beq pc 19 then some (.invokevirtual 68, 3) else none)) else
     (bif Nat.blt pc 23 then (bif Nat.beq pc 22 then some (.aload_n 0, 1) else none) else
      (bif Nat.blt pc 26 then (bif Nat.beq pc 23 then some (.getfield 18, 3) else none) else
       (bif Nat.beq pc 26 then some (.iload_n 1, 1) else none)))) else
    (bif Nat.blt pc 33 then (bif Nat.blt pc 30 then (bif Nat.beq pc 27 then some (.invokevirtual 76, 3) else none) else
      (bif Nat.beq pc 30 then some (.invokevirtual 79, 3) else none)) else
     (bif Nat.blt pc 36 then (bif Nat.beq pc 33 then some (.iinc 1 1, 3) else none) else
      (bif Nat.blt pc 39 then (bif Nat.beq pc 36 then some (.goto (-34), 3) else none) else
       (bif Nat.beq pc 39 then some (.aload_n 0, 1) else none)))))) else
  (bif Nat.blt pc 58 then (bif Nat.blt pc 49 then (bif Nat.blt pc 46 then (bif Nat.blt pc 43 then (bif Nat.beq pc 40 then some (.getfield 26, 3) else none) else
      (bif Nat.beq pc 43 then some (.getfield 83, 3) else none)) else
     (bif Nat.blt pc 47 then (bif Nat.beq pc 46 then some (.iconst 1, 1) else none) else
      (bif Nat.blt pc 48 then (bif Nat.beq pc 47 then some (.isub, 1) else none) else
       (bif Nat.beq pc 48 then some (.istore_n 1, 1) else none)))) else
    (bif Nat.blt pc 53 then (bif Nat.blt pc 50 then (bif Nat.beq pc 49 then some (.iload_n 1, 1) else none) else
      (bif Nat.beq pc 50 then some (.ifCond .lt 100, 3) else none)) else
     (bif Nat.blt pc 54 then (bif Nat.beq pc 53 then some (.aload_n 0, 1) else none) else
      (bif Nat.blt pc 57 then (bif Nat.beq pc 54 then some (.getfield 26, 3) else none) else
       (bif Nat.beq pc 57 then some (.iload_n 1, 1) else none))))) else
   (bif Nat.blt pc 69 then (bif Nat.blt pc 62 then (bif Nat.blt pc 61 then (bif Nat.beq pc 58 then some (.invokevirtual 86, 3) else none) else
      (bif Nat.beq pc 61 then some (.iconst 1, 1) else none)) else
     (bif Nat.blt pc 65 then (bif Nat.beq pc 62 then some (.if_icmp .ne 55, 3) else none) else
      (bif Nat.blt pc 66 then (bif Nat.beq pc 65 then some (.aload_n 0, 1) else none) else
       (bif Nat.beq pc 66 then some (.getfield 18, 3) else none)))) else
    (bif Nat.blt pc 73 then (bif Nat.blt pc 70 then (bif Nat.beq pc 69 then some (.iload_n 1, 1) else none) else
      (bif Nat.beq pc 70 then some (.invokevirtual 89, 3) else none)) else
     (bif Nat.blt pc 74 then (bif Nat.beq pc 73 then some (.lstore_n 2, 1) else none) else
      (bif Nat.blt pc 75 then (bif Nat.beq pc 74 then some (.aload_n 0, 1) else none) else
       (bif Nat.beq pc 75 then some (.iload_n 1, 1) else none))))))) else
 (bif Nat.blt pc 110 then (bif Nat.blt pc 92 then (bif Nat.blt pc 83 then (bif Nat.blt pc 78 then (bif Nat.blt pc 77 then (bif Nat.beq pc 76 then some (.lload_n 2, 1) else none) else
      (bif Nat.beq pc 77 then some (.aload_n 0, 1) else none)) else
     (bif Nat.blt pc 79 then (bif Nat.beq pc 78 then some (.aload_n 0, 1) else none) else
      (bif Nat.blt pc 82 then (bif Nat.beq pc 79 then some (.getfield 26, 3) else none) else
       (bif Nat.beq pc 82 then some (.iload_n 1, 1) else none)))) else
    (bif Nat.blt pc 87 then (bif Nat.blt pc 84 then (bif Nat.beq pc 83 then some (.iconst 1, 1) else none) else
      (bif Nat.beq pc 84 then some (.invokevirtual 92, 3) else none)) else
     (bif Nat.blt pc 90 then (bif Nat.beq pc 87 then some (.invokevirtual 58, 3) else none) else
      (bif Nat.blt pc 91 then (bif Nat.beq pc 90 then some (.land, 1) else none) else
       (bif Nat.beq pc 91 then some (.lload_n 2, 1) else none))))) else
   (bif Nat.blt pc 101 then (bif Nat.blt pc 96 then (bif Nat.blt pc 95 then (bif Nat.beq pc 92 then some (.ldc2_w 62, 3) else none) else
      (bif Nat.beq pc 95 then some (.lxor, 1) else none)) else
     (bif Nat.blt pc 97 then (bif Nat.beq pc 96 then some (.aload_n 0, 1) else none) else
      (bif Nat.blt pc 98 then (bif Nat.beq pc 97 then some (.aload_n 0, 1) else none) else
       (bif Nat.beq pc 98 then some (.getfield 26, 3) else none)))) else
    (bif Nat.blt pc 103 then (bif Nat.blt pc 102 then (bif Nat.beq pc 101 then some (.iload_n 1, 1) else none) else
      (bif Nat.beq pc 102 then some (.iconst 0, 1) else none)) else
     (bif Nat.blt pc 106 then (bif Nat.beq pc 103 then some (.invokevirtual 92, 3) else none) else
      (bif Nat.blt pc 109 then (bif Nat.beq pc 106 then some (.invokevirtual 58, 3) else none) else
       (bif Nat.beq pc 109 then some (.land, 1) else none)))))) else
  (bif Nat.blt pc 130 then (bif Nat.blt pc 121 then (bif Nat.blt pc 114 then (bif Nat.blt pc 111 then (bif Nat.beq pc 110 then some (.lor, 1) else none) else
      (bif Nat.beq pc 111 then some (.invokevirtual 79, 3) else none)) else
     (bif Nat.blt pc 117 then (bif Nat.beq pc 114 then some (.goto 30, 3) else none) else
      (bif Nat.blt pc 118 then (bif Nat.beq pc 117 then some (.aload_n 0, 1) else none) else
       (bif Nat.beq pc 118 then some (.getfield 26, 3) else none)))) else
    (bif Nat.blt pc 125 then (bif Nat.blt pc 122 then (bif Nat.beq pc 121 then some (.iload_n 1, 1) else none) else
      (bif Nat.beq pc 122 then some (.invokevirtual 86, 3) else none)) else
     (bif Nat.blt pc 126 then (bif Nat.beq pc 125 then some (.iconst 2, 1) else none) else
      (bif Nat.blt pc 129 then (bif Nat.beq pc 126 then some (.if_icmp .eq 18, 3) else none) else
       (bif Nat.beq pc 129 then some (.aload_n 0, 1) else none))))) else
   (bif Nat.blt pc 135 then (bif Nat.blt pc 132 then (bif Nat.blt pc 131 then (bif Nat.beq pc 130 then some (.iload_n 1, 1) else none) else
      (bif Nat.beq pc 131 then some (.aload_n 0, 1) else none)) else
     (bif Nat.blt pc 133 then (bif Nat.beq pc 132 then some (.iload_n 1, 1) else none) else
      (bif Nat.blt pc 134 then (bif Nat.beq pc 133 then some (.aload_n 0, 1) else none) else
       (bif Nat.beq pc 134 then some (.iload_n 1, 1) else none)))) else
    (bif Nat.blt pc 144 then (bif Nat.blt pc 138 then (bif Nat.beq pc 135 then some (.invokevirtual 96, 3) else none) else
      (bif Nat.blt pc 141 then (bif Nat.beq pc 138 then some (.invokevirtual 99, 3) else none) else
       (bif Nat.beq pc 141 then some (.invokevirtual 79, 3) else none))) else
     (bif Nat.blt pc 147 then (bif Nat.beq pc 144 then some (.iinc 1 (-1), 3) else none) else
      (bif Nat.blt pc 150 then (bif Nat.beq pc 147 then some (.goto (-98), 3) else none) else
       (bif Nat.beq pc 150 then some (.return_, 1) else none)))))))) else none
set_option maxRecDepth 10000 in
noncomputable def zc_3 (pc : Nat) : Option (Instr × Nat) :=
 bif Nat.blt pc 18 then (bif Nat.blt pc 10 then (bif Nat.blt pc 4 then (bif Nat.blt pc 1 then (bif Nat.beq pc 0 then some (.iload_n 1, 1) else none) else
   (bif Nat.beq pc 1 then some (.ifCond .lt 16, 3) else none)) else
  (bif Nat.blt pc 5 then (bif Nat.beq pc 4 then some (.iload_n 1, 1) else none) else
   (bif Nat.blt pc 7 then (bif Nat.beq pc 5 then some (.bipush 24, 2) else none) else
    (bif Nat.beq pc 7 then some (.if_icmp .ge 10, 3) else none)))) else
 (bif Nat.blt pc 15 then (bif Nat.blt pc 11 then (bif Nat.beq pc 10 then some (.aload_n 0, 1) else none) else
   (bif Nat.blt pc 14 then (bif Nat.beq pc 11 then some (.getfield 9, 3) else none) else
    (bif Nat.beq pc 14 then some (.iload_n 1, 1) else none))) else
  (bif Nat.blt pc 16 then (bif Nat.beq pc 15 then some (.lload_n 2, 1) else none) else
   (bif Nat.blt pc 17 then (bif Nat.beq pc 16 then some (.lastore, 1) else none) else
    (bif Nat.beq pc 17 then some (.return_, 1) else none))))) else none
set_option maxRecDepth 10000 in
noncomputable def zc_4 (pc : Nat) : Option (Instr × Nat) :=
 bif Nat.blt pc 27 then (bif Nat.blt pc 14 then (bif Nat.blt pc 5 then (bif Nat.blt pc 1 then (bif Nat.beq pc 0 then some (.iload_n 1, 1) else none) else
   (bif Nat.blt pc 4 then (bif Nat.beq pc 1 then some (.ifCond .lt 18, 3) else none) else
    (bif Nat.beq pc 4 then some (.iload_n 1, 1) else none))) else
  (bif Nat.blt pc 10 then (bif Nat.blt pc 7 then (bif Nat.beq pc 5 then some (.bipush 24, 2) else none) else
    (bif Nat.beq pc 7 then some (.if_icmp .ge 12, 3) else none)) else
   (bif Nat.blt pc 11 then (bif Nat.beq pc 10 then some (.aload_n 0, 1) else none) else
    (bif Nat.beq pc 11 then some (.getfield 9, 3) else none)))) else
 (bif Nat.blt pc 19 then (bif Nat.blt pc 15 then (bif Nat.beq pc 14 then some (.iload_n 1, 1) else none) else
   (bif Nat.blt pc 16 then (bif Nat.beq pc 15 then some (.laload, 1) else none) else
    (bif Nat.beq pc 16 then some (.goto 10, 3) else none))) else
  (bif Nat.blt pc 23 then (bif Nat.blt pc 20 then (bif Nat.beq pc 19 then some (.aload_n 0, 1) else none) else
    (bif Nat.beq pc 20 then some (.getfield 18, 3) else none)) else
   (bif Nat.blt pc 26 then (bif Nat.beq pc 23 then some (.getfield 117, 3) else none) else
    (bif Nat.beq pc 26 then some (.lreturn, 1) else none))))) else none
set_option maxRecDepth 10000 in
noncomputable def zc_5 (pc : Nat) : Option (Instr × Nat) :=
 bif Nat.blt pc 13 then (bif Nat.blt pc 5 then (bif Nat.blt pc 1 then (bif Nat.beq pc 0 then some (.aload_n 0, 1) else none) else
  (bif Nat.blt pc 2 then (bif Nat.beq pc 1 then some (.aload_n 0, 1) else none) else
   (bif Nat.beq pc 2 then some (.getfield 26, 3) else none))) else
 (bif Nat.blt pc 9 then (bif Nat.blt pc 6 then (bif Nat.beq pc 5 then some (.iload_n 1, 1) else none) else
   (bif Nat.beq pc 6 then some (.invokevirtual 120, 3) else none)) else
  (bif Nat.blt pc 12 then (bif Nat.beq pc 9 then some (.invokevirtual 58, 3) else none) else
   (bif Nat.beq pc 12 then some (.lreturn, 1) else none)))) else none
set_option maxRecDepth 10000 in
noncomputable def zc_6 (pc : Nat) : Option (Instr × Nat) :=
 bif Nat.blt pc 58 then (bif Nat.blt pc 28 then (bif Nat.blt pc 13 then (bif Nat.blt pc 4 then (bif Nat.blt pc 1 then (bif Nat.beq pc 0 then some (.lconst 0, 1) else none) else
    (bif Nat.blt pc 3 then (bif Nat.beq pc 1 then some (.lstore 4, 2) else none) else
     (bif Nat.beq pc 3 then some (.iconst 0, 1) else none))) else
   (bif Nat.blt pc 8 then (bif Nat.blt pc 6 then (bif Nat.beq pc 4 then some (.istore 6, 2) else none) else
     (bif Nat.beq pc 6 then some (.iload 6, 2) else none)) else
    (bif Nat.blt pc 10 then (bif Nat.beq pc 8 then some (.bipush 64, 2) else none) else
     (bif Nat.beq pc 10 then some (.if_icmp .ge 45, 3) else none)))) else
  (bif Nat.blt pc 20 then (bif Nat.blt pc 17 then (bif Nat.blt pc 14 then (bif Nat.beq pc 13 then some (.aload_n 0, 1) else none) else
     (bif Nat.beq pc 14 then some (.getfield 22, 3) else none)) else
    (bif Nat.blt pc 18 then (bif Nat.beq pc 17 then some (.iload_n 1, 1) else none) else
     (bif Nat.beq pc 18 then some (.iload 6, 2) else none))) else
   (bif Nat.blt pc 25 then (bif Nat.blt pc 23 then (bif Nat.beq pc 20 then some (.invokevirtual 123, 3) else none) else
     (bif Nat.beq pc 23 then some (.istore 7, 2) else none)) else
    (bif Nat.blt pc 27 then (bif Nat.beq pc 25 then some (.iload 7, 2) else none) else
     (bif Nat.beq pc 27 then some (.iconst (-1), 1) else none))))) else
 (bif Nat.blt pc 43 then (bif Nat.blt pc 34 then (bif Nat.blt pc 31 then (bif Nat.beq pc 28 then some (.if_icmp .eq 21, 3) else none) else
    (bif Nat.blt pc 32 then (bif Nat.beq pc 31 then some (.lload_n 2, 1) else none) else
     (bif Nat.beq pc 32 then some (.iload 7, 2) else none))) else
   (bif Nat.blt pc 40 then (bif Nat.blt pc 37 then (bif Nat.beq pc 34 then some (.invokestatic 126, 3) else none) else
     (bif Nat.beq pc 37 then some (.ifCond .eq 12, 3) else none)) else
    (bif Nat.blt pc 42 then (bif Nat.beq pc 40 then some (.lload 4, 2) else none) else
     (bif Nat.beq pc 42 then some (.lconst 1, 1) else none)))) else
  (bif Nat.blt pc 49 then (bif Nat.blt pc 46 then (bif Nat.blt pc 45 then (bif Nat.beq pc 43 then some (.iload 6, 2) else none) else
     (bif Nat.beq pc 45 then some (.lshl, 1) else none)) else
    (bif Nat.blt pc 47 then (bif Nat.beq pc 46 then some (.lor, 1) else none) else
     (bif Nat.beq pc 47 then some (.lstore 4, 2) else none))) else
   (bif Nat.blt pc 55 then (bif Nat.blt pc 52 then (bif Nat.beq pc 49 then some (.iinc 6 1, 3) else none) else
     (bif Nat.beq pc 52 then some (.goto (-46), 3) else none)) else
    (bif Nat.blt pc 57 then (bif Nat.beq pc 55 then some (.lload 4, 2) else none) else
     (bif Nat.beq pc 57 then some (.lreturn, 1) else none)))))) else none
set_option maxRecDepth 10000 in
noncomputable def zc_7 (pc : Nat) : Option (Instr × Nat) :=
 bif Nat.blt pc 130 then (bif Nat.blt pc 68 then (bif Nat.blt pc 32 then (bif Nat.blt pc 17 then (bif Nat.blt pc 8 then (bif Nat.blt pc 4 then (bif Nat.blt pc 1 then (bif Nat.beq pc 0 then some (.aload_n 0, 1) else none) else
      (bif Nat.beq pc 1 then some (.getfield 18, 3) else none)) else
     (bif Nat.blt pc 5 then (bif Nat.beq pc 4 then some (.iload_n 1, 1) else none) else
      (bif Nat.beq pc 5 then some (.invokevirtual 76, 3) else none))) else
    (bif Nat.blt pc 10 then (bif Nat.blt pc 9 then (bif Nat.beq pc 8 then some (.lstore_n 3, 1) else none) else
      (bif Nat.beq pc 9 then some (.aload_n 0, 1) else none)) else
     (bif Nat.blt pc 13 then (bif Nat.beq pc 10 then some (.getfield 18, 3) else none) else
      (bif Nat.blt pc 14 then (bif Nat.beq pc 13 then some (.iload_n 2, 1) else none) else
       (bif Nat.beq pc 14 then some (.invokevirtual 89, 3) else none))))) else
   (bif Nat.blt pc 23 then (bif Nat.blt pc 20 then (bif Nat.blt pc 19 then (bif Nat.beq pc 17 then some (.lstore 5, 2) else none) else
      (bif Nat.beq pc 19 then some (.iconst 1, 1) else none)) else
     (bif Nat.blt pc 21 then (bif Nat.beq pc 20 then some (.iconst 3, 1) else none) else
      (bif Nat.blt pc 22 then (bif Nat.beq pc 21 then some (.iload_n 1, 1) else none) else
       (bif Nat.beq pc 22 then some (.imul, 1) else none)))) else
    (bif Nat.blt pc 26 then (bif Nat.blt pc 24 then (bif Nat.beq pc 23 then some (.iadd, 1) else none) else
      (bif Nat.beq pc 24 then some (.istore 7, 2) else none)) else
     (bif Nat.blt pc 28 then (bif Nat.beq pc 26 then some (.iload 7, 2) else none) else
      (bif Nat.blt pc 29 then (bif Nat.beq pc 28 then some (.iconst 1, 1) else none) else
       (bif Nat.beq pc 29 then some (.if_icmp .lt 12, 3) else none)))))) else
  (bif Nat.blt pc 49 then (bif Nat.blt pc 41 then (bif Nat.blt pc 35 then (bif Nat.blt pc 34 then (bif Nat.beq pc 32 then some (.iload 7, 2) else none) else
      (bif Nat.beq pc 34 then some (.iconst 2, 1) else none)) else
     (bif Nat.blt pc 36 then (bif Nat.beq pc 35 then some (.iadd, 1) else none) else
      (bif Nat.blt pc 38 then (bif Nat.beq pc 36 then some (.bipush 73, 2) else none) else
       (bif Nat.beq pc 38 then some (.if_icmp .lt 4, 3) else none)))) else
    (bif Nat.blt pc 43 then (bif Nat.blt pc 42 then (bif Nat.beq pc 41 then some (.return_, 1) else none) else
      (bif Nat.beq pc 42 then some (.aload_n 0, 1) else none)) else
     (bif Nat.blt pc 46 then (bif Nat.beq pc 43 then some (.getfield 15, 3) else none) else
      (bif Nat.blt pc 48 then (bif Nat.beq pc 46 then some (.iload 7, 2) else none) else
       (bif Nat.beq pc 48 then some (.lload_n 3, 1) else none))))) else
   (bif Nat.blt pc 57 then (bif Nat.blt pc 52 then (bif Nat.blt pc 51 then (bif Nat.beq pc 49 then some (.lload 5, 2) else none) else
      (bif Nat.beq pc 51 then some (.land, 1) else none)) else
     (bif Nat.blt pc 53 then (bif Nat.beq pc 52 then some (.aload_n 0, 1) else none) else
      (bif Nat.blt pc 54 then (bif Nat.beq pc 53 then some (.aload_n 0, 1) else none) else
       (bif Nat.beq pc 54 then some (.getfield 26, 3) else none)))) else
    (bif Nat.blt pc 59 then (bif Nat.blt pc 58 then (bif Nat.beq pc 57 then some (.iload_n 2, 1) else none) else
      (bif Nat.beq pc 58 then some (.iconst 1, 1) else none)) else
     (bif Nat.blt pc 62 then (bif Nat.beq pc 59 then some (.invokevirtual 92, 3) else none) else
      (bif Nat.blt pc 65 then (bif Nat.beq pc 62 then some (.invokevirtual 58, 3) else none) else
       (bif Nat.beq pc 65 then some (.ldc2_w 62, 3) else none))))))) else
 (bif Nat.blt pc 98 then (bif Nat.blt pc 82 then (bif Nat.blt pc 75 then (bif Nat.blt pc 70 then (bif Nat.blt pc 69 then (bif Nat.beq pc 68 then some (.lxor, 1) else none) else
      (bif Nat.beq pc 69 then some (.land, 1) else none)) else
     (bif Nat.blt pc 71 then (bif Nat.beq pc 70 then some (.lastore, 1) else none) else
      (bif Nat.blt pc 72 then (bif Nat.beq pc 71 then some (.aload_n 0, 1) else none) else
       (bif Nat.beq pc 72 then some (.getfield 15, 3) else none)))) else
    (bif Nat.blt pc 78 then (bif Nat.blt pc 77 then (bif Nat.beq pc 75 then some (.iload 7, 2) else none) else
      (bif Nat.beq pc 77 then some (.iconst 1, 1) else none)) else
     (bif Nat.blt pc 79 then (bif Nat.beq pc 78 then some (.iadd, 1) else none) else
      (bif Nat.blt pc 80 then (bif Nat.beq pc 79 then some (.lload_n 3, 1) else none) else
       (bif Nat.beq pc 80 then some (.lload 5, 2) else none))))) else
   (bif Nat.blt pc 89 then (bif Nat.blt pc 86 then (bif Nat.blt pc 85 then (bif Nat.beq pc 82 then some (.ldc2_w 62, 3) else none) else
      (bif Nat.beq pc 85 then some (.lxor, 1) else none)) else
     (bif Nat.blt pc 87 then (bif Nat.beq pc 86 then some (.land, 1) else none) else
      (bif Nat.blt pc 88 then (bif Nat.beq pc 87 then some (.aload_n 0, 1) else none) else
       (bif Nat.beq pc 88 then some (.iload_n 2, 1) else none)))) else
    (bif Nat.blt pc 95 then (bif Nat.blt pc 92 then (bif Nat.beq pc 89 then some (.invokevirtual 96, 3) else none) else
      (bif Nat.beq pc 92 then some (.ldc2_w 62, 3) else none)) else
     (bif Nat.blt pc 96 then (bif Nat.beq pc 95 then some (.lxor, 1) else none) else
      (bif Nat.blt pc 97 then (bif Nat.beq pc 96 then some (.land, 1) else none) else
       (bif Nat.beq pc 97 then some (.lastore, 1) else none)))))) else
  (bif Nat.blt pc 112 then (bif Nat.blt pc 106 then (bif Nat.blt pc 102 then (bif Nat.blt pc 99 then (bif Nat.beq pc 98 then some (.aload_n 0, 1) else none) else
      (bif Nat.beq pc 99 then some (.getfield 15, 3) else none)) else
     (bif Nat.blt pc 104 then (bif Nat.beq pc 102 then some (.iload 7, 2) else none) else
      (bif Nat.blt pc 105 then (bif Nat.beq pc 104 then some (.iconst 2, 1) else none) else
       (bif Nat.beq pc 105 then some (.iadd, 1) else none)))) else
    (bif Nat.blt pc 109 then (bif Nat.blt pc 107 then (bif Nat.beq pc 106 then some (.lload_n 3, 1) else none) else
      (bif Nat.beq pc 107 then some (.lload 5, 2) else none)) else
     (bif Nat.blt pc 110 then (bif Nat.beq pc 109 then some (.land, 1) else none) else
      (bif Nat.blt pc 111 then (bif Nat.beq pc 110 then some (.aload_n 0, 1) else none) else
       (bif Nat.beq pc 111 then some (.iload_n 1, 1) else none))))) else
   (bif Nat.blt pc 123 then (bif Nat.blt pc 116 then (bif Nat.blt pc 113 then (bif Nat.beq pc 112 then some (.aload_n 0, 1) else none) else
      (bif Nat.beq pc 113 then some (.getfield 26, 3) else none)) else
     (bif Nat.blt pc 117 then (bif Nat.beq pc 116 then some (.iload_n 2, 1) else none) else
      (bif Nat.blt pc 120 then (bif Nat.beq pc 117 then some (.invokevirtual 103, 3) else none) else
       (bif Nat.beq pc 120 then some (.invokevirtual 106, 3) else none)))) else
    (bif Nat.blt pc 127 then (bif Nat.blt pc 126 then (bif Nat.beq pc 123 then some (.ldc2_w 62, 3) else none) else
      (bif Nat.beq pc 126 then some (.lxor, 1) else none)) else
     (bif Nat.blt pc 128 then (bif Nat.beq pc 127 then some (.land, 1) else none) else
      (bif Nat.blt pc 129 then (bif Nat.beq pc 128 then some (.lastore, 1) else none) else
       (bif Nat.beq pc 129 then some (.return_, 1) else none)))))))) else none
set_option maxRecDepth 10000 in
noncomputable def zc_8 (pc : Nat) : Option (Instr × Nat) :=
 bif Nat.blt pc 68 then (bif Nat.blt pc 34 then (bif Nat.blt pc 16 then (bif Nat.blt pc 5 then (bif Nat.blt pc 2 then (bif Nat.blt pc 1 then (bif Nat.beq pc 0 then some (.lconst 0, 1) else none) else
     (bif Nat.beq pc 1 then some (.lstore_n 3, 1) else none)) else
    (bif Nat.blt pc 3 then (bif Nat.beq pc 2 then some (.iconst 0, 1) else none) else
     (bif Nat.beq pc 3 then some (.istore 5, 2) else none))) else
   (bif Nat.blt pc 9 then (bif Nat.blt pc 7 then (bif Nat.beq pc 5 then some (.iload 5, 2) else none) else
     (bif Nat.beq pc 7 then some (.bipush 64, 2) else none)) else
    (bif Nat.blt pc 12 then (bif Nat.beq pc 9 then some (.if_icmp .ge 57, 3) else none) else
     (bif Nat.blt pc 13 then (bif Nat.beq pc 12 then some (.aload_n 0, 1) else none) else
      (bif Nat.beq pc 13 then some (.getfield 22, 3) else none))))) else
  (bif Nat.blt pc 24 then (bif Nat.blt pc 19 then (bif Nat.blt pc 17 then (bif Nat.beq pc 16 then some (.iload_n 2, 1) else none) else
     (bif Nat.beq pc 17 then some (.iload 5, 2) else none)) else
    (bif Nat.blt pc 22 then (bif Nat.beq pc 19 then some (.invokevirtual 110, 3) else none) else
     (bif Nat.beq pc 22 then some (.istore 6, 2) else none))) else
   (bif Nat.blt pc 27 then (bif Nat.blt pc 26 then (bif Nat.beq pc 24 then some (.iload 6, 2) else none) else
     (bif Nat.beq pc 26 then some (.iconst (-1), 1) else none)) else
    (bif Nat.blt pc 30 then (bif Nat.beq pc 27 then some (.if_icmp .eq 33, 3) else none) else
     (bif Nat.blt pc 31 then (bif Nat.beq pc 30 then some (.aload_n 0, 1) else none) else
      (bif Nat.beq pc 31 then some (.getfield 18, 3) else none)))))) else
 (bif Nat.blt pc 53 then (bif Nat.blt pc 41 then (bif Nat.blt pc 37 then (bif Nat.blt pc 35 then (bif Nat.beq pc 34 then some (.iload_n 1, 1) else none) else
     (bif Nat.beq pc 35 then some (.iload 6, 2) else none)) else
    (bif Nat.blt pc 40 then (bif Nat.beq pc 37 then some (.invokevirtual 114, 3) else none) else
     (bif Nat.beq pc 40 then some (.aload_n 0, 1) else none))) else
   (bif Nat.blt pc 45 then (bif Nat.blt pc 44 then (bif Nat.beq pc 41 then some (.getfield 18, 3) else none) else
     (bif Nat.beq pc 44 then some (.iload_n 1, 1) else none)) else
    (bif Nat.blt pc 47 then (bif Nat.beq pc 45 then some (.iload 5, 2) else none) else
     (bif Nat.blt pc 50 then (bif Nat.beq pc 47 then some (.invokevirtual 114, 3) else none) else
      (bif Nat.beq pc 50 then some (.if_icmp .ge 10, 3) else none))))) else
  (bif Nat.blt pc 59 then (bif Nat.blt pc 55 then (bif Nat.blt pc 54 then (bif Nat.beq pc 53 then some (.lload_n 3, 1) else none) else
     (bif Nat.beq pc 54 then some (.lconst 1, 1) else none)) else
    (bif Nat.blt pc 57 then (bif Nat.beq pc 55 then some (.iload 5, 2) else none) else
     (bif Nat.blt pc 58 then (bif Nat.beq pc 57 then some (.lshl, 1) else none) else
      (bif Nat.beq pc 58 then some (.lor, 1) else none)))) else
   (bif Nat.blt pc 63 then (bif Nat.blt pc 60 then (bif Nat.beq pc 59 then some (.lstore_n 3, 1) else none) else
     (bif Nat.beq pc 60 then some (.iinc 5 1, 3) else none)) else
    (bif Nat.blt pc 66 then (bif Nat.beq pc 63 then some (.goto (-58), 3) else none) else
     (bif Nat.blt pc 67 then (bif Nat.beq pc 66 then some (.lload_n 3, 1) else none) else
      (bif Nat.beq pc 67 then some (.lreturn, 1) else none))))))) else none
set_option maxRecDepth 10000 in
noncomputable def zc_9 (pc : Nat) : Option (Instr × Nat) :=
 bif Nat.blt pc 21 then (bif Nat.blt pc 11 then (bif Nat.blt pc 5 then (bif Nat.blt pc 1 then (bif Nat.beq pc 0 then some (.iload_n 1, 1) else none) else
   (bif Nat.blt pc 4 then (bif Nat.beq pc 1 then some (.ifCond .lt 18, 3) else none) else
    (bif Nat.beq pc 4 then some (.iload_n 1, 1) else none))) else
  (bif Nat.blt pc 7 then (bif Nat.beq pc 5 then some (.bipush 73, 2) else none) else
   (bif Nat.blt pc 10 then (bif Nat.beq pc 7 then some (.if_icmp .ge 12, 3) else none) else
    (bif Nat.beq pc 10 then some (.aload_n 0, 1) else none)))) else
 (bif Nat.blt pc 16 then (bif Nat.blt pc 14 then (bif Nat.beq pc 11 then some (.getfield 15, 3) else none) else
   (bif Nat.blt pc 15 then (bif Nat.beq pc 14 then some (.iload_n 1, 1) else none) else
    (bif Nat.beq pc 15 then some (.laload, 1) else none))) else
  (bif Nat.blt pc 19 then (bif Nat.beq pc 16 then some (.goto 4, 3) else none) else
   (bif Nat.blt pc 20 then (bif Nat.beq pc 19 then some (.lconst 0, 1) else none) else
    (bif Nat.beq pc 20 then some (.lreturn, 1) else none))))) else none
set_option maxRecDepth 10000 in
noncomputable def zc_10 (pc : Nat) : Option (Instr × Nat) :=
 bif Nat.blt pc 12 then (bif Nat.blt pc 6 then (bif Nat.blt pc 2 then (bif Nat.blt pc 1 then (bif Nat.beq pc 0 then some (.iconst 1, 1) else none) else
   (bif Nat.beq pc 1 then some (.iconst 3, 1) else none)) else
  (bif Nat.blt pc 3 then (bif Nat.beq pc 2 then some (.aload_n 0, 1) else none) else
   (bif Nat.beq pc 3 then some (.getfield 26, 3) else none))) else
 (bif Nat.blt pc 10 then (bif Nat.blt pc 9 then (bif Nat.beq pc 6 then some (.getfield 64, 3) else none) else
   (bif Nat.beq pc 9 then some (.imul, 1) else none)) else
  (bif Nat.blt pc 11 then (bif Nat.beq pc 10 then some (.iadd, 1) else none) else
   (bif Nat.beq pc 11 then some (.ireturn, 1) else none)))) else none
set_option maxRecDepth 10000 in
noncomputable def zc_11 (pc : Nat) : Option (Instr × Nat) :=
 bif Nat.blt pc 32 then (bif Nat.blt pc 14 then (bif Nat.blt pc 4 then (bif Nat.blt pc 2 then (bif Nat.blt pc 1 then (bif Nat.beq pc 0 then some (.iconst 0, 1) else none) else
    (bif Nat.beq pc 1 then some (.istore_n 1, 1) else none)) else
   (bif Nat.blt pc 3 then (bif Nat.beq pc 2 then some (.iconst 0, 1) else none) else
    (bif Nat.beq pc 3 then some (.istore_n 2, 1) else none))) else
  (bif Nat.blt pc 7 then (bif Nat.blt pc 5 then (bif Nat.beq pc 4 then some (.iload_n 2, 1) else none) else
    (bif Nat.beq pc 5 then some (.bipush 73, 2) else none)) else
   (bif Nat.blt pc 10 then (bif Nat.beq pc 7 then some (.if_icmp .ge 23, 3) else none) else
    (bif Nat.blt pc 11 then (bif Nat.beq pc 10 then some (.aload_n 0, 1) else none) else
     (bif Nat.beq pc 11 then some (.getfield 15, 3) else none))))) else
 (bif Nat.blt pc 21 then (bif Nat.blt pc 16 then (bif Nat.blt pc 15 then (bif Nat.beq pc 14 then some (.iload_n 2, 1) else none) else
    (bif Nat.beq pc 15 then some (.laload, 1) else none)) else
   (bif Nat.blt pc 17 then (bif Nat.beq pc 16 then some (.lconst 0, 1) else none) else
    (bif Nat.blt pc 18 then (bif Nat.beq pc 17 then some (.lcmp, 1) else none) else
     (bif Nat.beq pc 18 then some (.ifCond .eq 6, 3) else none)))) else
  (bif Nat.blt pc 27 then (bif Nat.blt pc 24 then (bif Nat.beq pc 21 then some (.iinc 1 1, 3) else none) else
    (bif Nat.beq pc 24 then some (.iinc 2 1, 3) else none)) else
   (bif Nat.blt pc 30 then (bif Nat.beq pc 27 then some (.goto (-23), 3) else none) else
    (bif Nat.blt pc 31 then (bif Nat.beq pc 30 then some (.iload_n 1, 1) else none) else
     (bif Nat.beq pc 31 then some (.ireturn, 1) else none)))))) else none
set_option maxRecDepth 10000 in
noncomputable def zc_12 (pc : Nat) : Option (Instr × Nat) :=
 bif Nat.blt pc 20 then (bif Nat.blt pc 10 then (bif Nat.blt pc 5 then (bif Nat.blt pc 1 then (bif Nat.beq pc 0 then some (.aload_n 0, 1) else none) else
   (bif Nat.blt pc 4 then (bif Nat.beq pc 1 then some (.getfield 26, 3) else none) else
    (bif Nat.beq pc 4 then some (.iload_n 1, 1) else none))) else
  (bif Nat.blt pc 8 then (bif Nat.beq pc 5 then some (.invokevirtual 68, 3) else none) else
   (bif Nat.blt pc 9 then (bif Nat.beq pc 8 then some (.istore_n 2, 1) else none) else
    (bif Nat.beq pc 9 then some (.aload_n 0, 1) else none)))) else
 (bif Nat.blt pc 13 then (bif Nat.blt pc 11 then (bif Nat.beq pc 10 then some (.iload_n 2, 1) else none) else
   (bif Nat.blt pc 12 then (bif Nat.beq pc 11 then some (.aload_n 0, 1) else none) else
    (bif Nat.beq pc 12 then some (.iload_n 2, 1) else none))) else
  (bif Nat.blt pc 16 then (bif Nat.beq pc 13 then some (.invokevirtual 96, 3) else none) else
   (bif Nat.blt pc 19 then (bif Nat.beq pc 16 then some (.invokevirtual 99, 3) else none) else
    (bif Nat.beq pc 19 then some (.lreturn, 1) else none))))) else none
set_option maxRecDepth 10000 in
noncomputable def zc_13 (pc : Nat) : Option (Instr × Nat) :=
 bif Nat.blt pc 18 then (bif Nat.blt pc 7 then (bif Nat.blt pc 4 then (bif Nat.blt pc 1 then (bif Nat.beq pc 0 then some (.aload_n 0, 1) else none) else
   (bif Nat.beq pc 1 then some (.invokespecial 1, 3) else none)) else
  (bif Nat.blt pc 5 then (bif Nat.beq pc 4 then some (.aload_n 0, 1) else none) else
   (bif Nat.blt pc 6 then (bif Nat.beq pc 5 then some (.aload_n 1, 1) else none) else
    (bif Nat.beq pc 6 then some (.iload_n 2, 1) else none)))) else
 (bif Nat.blt pc 11 then (bif Nat.blt pc 8 then (bif Nat.beq pc 7 then some (.iconst 0, 1) else none) else
   (bif Nat.beq pc 8 then some (.invokestatic 7, 3) else none)) else
  (bif Nat.blt pc 14 then (bif Nat.beq pc 11 then some (.invokestatic 13, 3) else none) else
   (bif Nat.blt pc 17 then (bif Nat.beq pc 14 then some (.putfield 19, 3) else none) else
    (bif Nat.beq pc 17 then some (.return_, 1) else none))))) else none
set_option maxRecDepth 10000 in
noncomputable def zc_14 (pc : Nat) : Option (Instr × Nat) :=
 bif Nat.blt pc 6 then (bif Nat.blt pc 4 then (bif Nat.blt pc 1 then (bif Nat.beq pc 0 then some (.aload_n 0, 1) else none) else
  (bif Nat.beq pc 1 then some (.getfield 19, 3) else none)) else
 (bif Nat.blt pc 5 then (bif Nat.beq pc 4 then some (.arraylength, 1) else none) else
  (bif Nat.beq pc 5 then some (.ireturn, 1) else none))) else none
set_option maxRecDepth 10000 in
noncomputable def zc_15 (pc : Nat) : Option (Instr × Nat) :=
 bif Nat.blt pc 84 then (bif Nat.blt pc 41 then (bif Nat.blt pc 22 then (bif Nat.blt pc 10 then (bif Nat.blt pc 4 then (bif Nat.blt pc 1 then (bif Nat.beq pc 0 then some (.aload_n 0, 1) else none) else
     (bif Nat.beq pc 1 then some (.invokespecial 3, 3) else none)) else
    (bif Nat.blt pc 5 then (bif Nat.beq pc 4 then some (.aload_n 0, 1) else none) else
     (bif Nat.blt pc 7 then (bif Nat.beq pc 5 then some (.bipush 10, 2) else none) else
      (bif Nat.beq pc 7 then some (.anewarray 9, 3) else none)))) else
   (bif Nat.blt pc 15 then (bif Nat.blt pc 13 then (bif Nat.beq pc 10 then some (.putfield 11, 3) else none) else
     (bif Nat.blt pc 14 then (bif Nat.beq pc 13 then some (.aload_n 0, 1) else none) else
      (bif Nat.beq pc 14 then some (.iconst 2, 1) else none))) else
    (bif Nat.blt pc 18 then (bif Nat.beq pc 15 then some (.anewarray 9, 3) else none) else
     (bif Nat.blt pc 21 then (bif Nat.beq pc 18 then some (.putfield 17, 3) else none) else
      (bif Nat.beq pc 21 then some (.aload_n 0, 1) else none))))) else
  (bif Nat.blt pc 30 then (bif Nat.blt pc 25 then (bif Nat.blt pc 23 then (bif Nat.beq pc 22 then some (.iconst 2, 1) else none) else
     (bif Nat.beq pc 23 then some (.newarray .boolean, 2) else none)) else
    (bif Nat.blt pc 28 then (bif Nat.beq pc 25 then some (.putfield 20, 3) else none) else
     (bif Nat.blt pc 29 then (bif Nat.beq pc 28 then some (.iconst 0, 1) else none) else
      (bif Nat.beq pc 29 then some (.istore_n 2, 1) else none)))) else
   (bif Nat.blt pc 36 then (bif Nat.blt pc 31 then (bif Nat.beq pc 30 then some (.iload_n 2, 1) else none) else
     (bif Nat.blt pc 33 then (bif Nat.beq pc 31 then some (.bipush 10, 2) else none) else
      (bif Nat.beq pc 33 then some (.if_icmp .ge 23, 3) else none))) else
    (bif Nat.blt pc 37 then (bif Nat.beq pc 36 then some (.aload_n 0, 1) else none) else
     (bif Nat.blt pc 40 then (bif Nat.beq pc 37 then some (.getfield 11, 3) else none) else
      (bif Nat.beq pc 40 then some (.iload_n 2, 1) else none)))))) else
 (bif Nat.blt pc 60 then (bif Nat.blt pc 50 then (bif Nat.blt pc 45 then (bif Nat.blt pc 44 then (bif Nat.beq pc 41 then some (.new 9, 3) else none) else
     (bif Nat.beq pc 44 then some (.dup, 1) else none)) else
    (bif Nat.blt pc 46 then (bif Nat.beq pc 45 then some (.aload_n 1, 1) else none) else
     (bif Nat.blt pc 49 then (bif Nat.beq pc 46 then some (.invokespecial 24, 3) else none) else
      (bif Nat.beq pc 49 then some (.aastore, 1) else none)))) else
   (bif Nat.blt pc 57 then (bif Nat.blt pc 53 then (bif Nat.beq pc 50 then some (.iinc 2 1, 3) else none) else
     (bif Nat.blt pc 56 then (bif Nat.beq pc 53 then some (.goto (-23), 3) else none) else
      (bif Nat.beq pc 56 then some (.iconst 0, 1) else none))) else
    (bif Nat.blt pc 58 then (bif Nat.beq pc 57 then some (.istore_n 2, 1) else none) else
     (bif Nat.blt pc 59 then (bif Nat.beq pc 58 then some (.iload_n 2, 1) else none) else
      (bif Nat.beq pc 59 then some (.iconst 2, 1) else none))))) else
  (bif Nat.blt pc 72 then (bif Nat.blt pc 67 then (bif Nat.blt pc 63 then (bif Nat.beq pc 60 then some (.if_icmp .ge 23, 3) else none) else
     (bif Nat.blt pc 64 then (bif Nat.beq pc 63 then some (.aload_n 0, 1) else none) else
      (bif Nat.beq pc 64 then some (.getfield 17, 3) else none))) else
    (bif Nat.blt pc 68 then (bif Nat.beq pc 67 then some (.iload_n 2, 1) else none) else
     (bif Nat.blt pc 71 then (bif Nat.beq pc 68 then some (.new 9, 3) else none) else
      (bif Nat.beq pc 71 then some (.dup, 1) else none)))) else
   (bif Nat.blt pc 77 then (bif Nat.blt pc 73 then (bif Nat.beq pc 72 then some (.aload_n 1, 1) else none) else
     (bif Nat.blt pc 76 then (bif Nat.beq pc 73 then some (.invokespecial 24, 3) else none) else
      (bif Nat.beq pc 76 then some (.aastore, 1) else none))) else
    (bif Nat.blt pc 80 then (bif Nat.beq pc 77 then some (.iinc 2 1, 3) else none) else
     (bif Nat.blt pc 83 then (bif Nat.beq pc 80 then some (.goto (-22), 3) else none) else
      (bif Nat.beq pc 83 then some (.return_, 1) else none))))))) else none
set_option maxRecDepth 10000 in
noncomputable def zc_16 (pc : Nat) : Option (Instr × Nat) :=
 bif Nat.blt pc 26 then (bif Nat.blt pc 12 then (bif Nat.blt pc 6 then (bif Nat.blt pc 2 then (bif Nat.blt pc 1 then (bif Nat.beq pc 0 then some (.aload_n 0, 1) else none) else
    (bif Nat.beq pc 1 then some (.iconst 0, 1) else none)) else
   (bif Nat.blt pc 5 then (bif Nat.beq pc 2 then some (.putfield 27, 3) else none) else
    (bif Nat.beq pc 5 then some (.iconst 0, 1) else none))) else
  (bif Nat.blt pc 8 then (bif Nat.blt pc 7 then (bif Nat.beq pc 6 then some (.istore_n 1, 1) else none) else
    (bif Nat.beq pc 7 then some (.iload_n 1, 1) else none)) else
   (bif Nat.blt pc 9 then (bif Nat.beq pc 8 then some (.iconst 2, 1) else none) else
    (bif Nat.beq pc 9 then some (.if_icmp .ge 16, 3) else none)))) else
 (bif Nat.blt pc 18 then (bif Nat.blt pc 16 then (bif Nat.blt pc 13 then (bif Nat.beq pc 12 then some (.aload_n 0, 1) else none) else
    (bif Nat.beq pc 13 then some (.getfield 20, 3) else none)) else
   (bif Nat.blt pc 17 then (bif Nat.beq pc 16 then some (.iload_n 1, 1) else none) else
    (bif Nat.beq pc 17 then some (.iconst 0, 1) else none))) else
  (bif Nat.blt pc 22 then (bif Nat.blt pc 19 then (bif Nat.beq pc 18 then some (.bastore, 1) else none) else
    (bif Nat.beq pc 19 then some (.iinc 1 1, 3) else none)) else
   (bif Nat.blt pc 25 then (bif Nat.beq pc 22 then some (.goto (-15), 3) else none) else
    (bif Nat.beq pc 25 then some (.return_, 1) else none))))) else none
set_option maxRecDepth 10000 in
noncomputable def zc_17 (pc : Nat) : Option (Instr × Nat) :=
 bif Nat.blt pc 44 then (bif Nat.blt pc 23 then (bif Nat.blt pc 9 then (bif Nat.blt pc 5 then (bif Nat.blt pc 1 then (bif Nat.beq pc 0 then some (.aload_n 0, 1) else none) else
    (bif Nat.blt pc 2 then (bif Nat.beq pc 1 then some (.aload_n 0, 1) else none) else
     (bif Nat.beq pc 2 then some (.getfield 31, 3) else none))) else
   (bif Nat.blt pc 6 then (bif Nat.beq pc 5 then some (.iconst 1, 1) else none) else
    (bif Nat.blt pc 7 then (bif Nat.beq pc 6 then some (.iadd, 1) else none) else
     (bif Nat.beq pc 7 then some (.bipush 10, 2) else none)))) else
  (bif Nat.blt pc 16 then (bif Nat.blt pc 12 then (bif Nat.beq pc 9 then some (.invokestatic 34, 3) else none) else
    (bif Nat.blt pc 15 then (bif Nat.beq pc 12 then some (.putfield 31, 3) else none) else
     (bif Nat.beq pc 15 then some (.aload_n 0, 1) else none))) else
   (bif Nat.blt pc 19 then (bif Nat.beq pc 16 then some (.getfield 11, 3) else none) else
    (bif Nat.blt pc 20 then (bif Nat.beq pc 19 then some (.aload_n 0, 1) else none) else
     (bif Nat.beq pc 20 then some (.getfield 31, 3) else none))))) else
 (bif Nat.blt pc 33 then (bif Nat.blt pc 28 then (bif Nat.blt pc 24 then (bif Nat.beq pc 23 then some (.aaload, 1) else none) else
    (bif Nat.blt pc 25 then (bif Nat.beq pc 24 then some (.aload_n 1, 1) else none) else
     (bif Nat.beq pc 25 then some (.invokevirtual 40, 3) else none))) else
   (bif Nat.blt pc 29 then (bif Nat.beq pc 28 then some (.aload_n 0, 1) else none) else
    (bif Nat.blt pc 30 then (bif Nat.beq pc 29 then some (.aload_n 0, 1) else none) else
     (bif Nat.beq pc 30 then some (.getfield 27, 3) else none)))) else
  (bif Nat.blt pc 37 then (bif Nat.blt pc 34 then (bif Nat.beq pc 33 then some (.iconst 1, 1) else none) else
    (bif Nat.blt pc 35 then (bif Nat.beq pc 34 then some (.iadd, 1) else none) else
     (bif Nat.beq pc 35 then some (.bipush 10, 2) else none))) else
   (bif Nat.blt pc 40 then (bif Nat.beq pc 37 then some (.invokestatic 44, 3) else none) else
    (bif Nat.blt pc 43 then (bif Nat.beq pc 40 then some (.putfield 27, 3) else none) else
     (bif Nat.beq pc 43 then some (.return_, 1) else none)))))) else none
set_option maxRecDepth 10000 in
noncomputable def zc_18 (pc : Nat) : Option (Instr × Nat) :=
 bif Nat.blt pc 24 then (bif Nat.blt pc 13 then (bif Nat.blt pc 5 then (bif Nat.blt pc 1 then (bif Nat.beq pc 0 then some (.iload_n 1, 1) else none) else
   (bif Nat.blt pc 4 then (bif Nat.beq pc 1 then some (.ifCond .lt 21, 3) else none) else
    (bif Nat.beq pc 4 then some (.iload_n 1, 1) else none))) else
  (bif Nat.blt pc 9 then (bif Nat.blt pc 6 then (bif Nat.beq pc 5 then some (.iconst 2, 1) else none) else
    (bif Nat.beq pc 6 then some (.if_icmp .ge 16, 3) else none)) else
   (bif Nat.blt pc 10 then (bif Nat.beq pc 9 then some (.aload_n 0, 1) else none) else
    (bif Nat.beq pc 10 then some (.getfield 20, 3) else none)))) else
 (bif Nat.blt pc 18 then (bif Nat.blt pc 14 then (bif Nat.beq pc 13 then some (.iload_n 1, 1) else none) else
   (bif Nat.blt pc 15 then (bif Nat.beq pc 14 then some (.baload, 1) else none) else
    (bif Nat.beq pc 15 then some (.ifCond .eq 7, 3) else none))) else
  (bif Nat.blt pc 22 then (bif Nat.blt pc 19 then (bif Nat.beq pc 18 then some (.iconst 1, 1) else none) else
    (bif Nat.beq pc 19 then some (.goto 4, 3) else none)) else
   (bif Nat.blt pc 23 then (bif Nat.beq pc 22 then some (.iconst 0, 1) else none) else
    (bif Nat.beq pc 23 then some (.ireturn, 1) else none))))) else none
set_option maxRecDepth 10000 in
noncomputable def zc_19 (pc : Nat) : Option (Instr × Nat) :=
 bif Nat.blt pc 19 then (bif Nat.blt pc 9 then (bif Nat.blt pc 2 then (bif Nat.blt pc 1 then (bif Nat.beq pc 0 then some (.aload_n 0, 1) else none) else
   (bif Nat.beq pc 1 then some (.iload_n 1, 1) else none)) else
  (bif Nat.blt pc 5 then (bif Nat.beq pc 2 then some (.invokevirtual 47, 3) else none) else
   (bif Nat.blt pc 8 then (bif Nat.beq pc 5 then some (.ifCond .eq 13, 3) else none) else
    (bif Nat.beq pc 8 then some (.aload_n 2, 1) else none)))) else
 (bif Nat.blt pc 14 then (bif Nat.blt pc 10 then (bif Nat.beq pc 9 then some (.aload_n 0, 1) else none) else
   (bif Nat.blt pc 13 then (bif Nat.beq pc 10 then some (.getfield 17, 3) else none) else
    (bif Nat.beq pc 13 then some (.iload_n 1, 1) else none))) else
  (bif Nat.blt pc 15 then (bif Nat.beq pc 14 then some (.aaload, 1) else none) else
   (bif Nat.blt pc 18 then (bif Nat.beq pc 15 then some (.invokevirtual 40, 3) else none) else
    (bif Nat.beq pc 18 then some (.return_, 1) else none))))) else none
set_option maxRecDepth 10000 in
noncomputable def zc_20 (pc : Nat) : Option (Instr × Nat) :=
 bif Nat.blt pc 44 then (bif Nat.blt pc 23 then (bif Nat.blt pc 11 then (bif Nat.blt pc 5 then (bif Nat.blt pc 1 then (bif Nat.beq pc 0 then some (.aload_n 1, 1) else none) else
    (bif Nat.blt pc 2 then (bif Nat.beq pc 1 then some (.aload_n 0, 1) else none) else
     (bif Nat.beq pc 2 then some (.getfield 11, 3) else none))) else
   (bif Nat.blt pc 6 then (bif Nat.beq pc 5 then some (.aload_n 0, 1) else none) else
    (bif Nat.blt pc 9 then (bif Nat.beq pc 6 then some (.getfield 31, 3) else none) else
     (bif Nat.beq pc 9 then some (.bipush 10, 2) else none)))) else
  (bif Nat.blt pc 18 then (bif Nat.blt pc 14 then (bif Nat.beq pc 11 then some (.invokestatic 34, 3) else none) else
    (bif Nat.blt pc 15 then (bif Nat.beq pc 14 then some (.aaload, 1) else none) else
     (bif Nat.beq pc 15 then some (.invokevirtual 40, 3) else none))) else
   (bif Nat.blt pc 19 then (bif Nat.beq pc 18 then some (.aload_n 0, 1) else none) else
    (bif Nat.blt pc 20 then (bif Nat.beq pc 19 then some (.aload_n 0, 1) else none) else
     (bif Nat.beq pc 20 then some (.getfield 31, 3) else none))))) else
 (bif Nat.blt pc 34 then (bif Nat.blt pc 27 then (bif Nat.blt pc 24 then (bif Nat.beq pc 23 then some (.iconst 1, 1) else none) else
    (bif Nat.blt pc 25 then (bif Nat.beq pc 24 then some (.isub, 1) else none) else
     (bif Nat.beq pc 25 then some (.bipush 10, 2) else none))) else
   (bif Nat.blt pc 30 then (bif Nat.beq pc 27 then some (.invokestatic 34, 3) else none) else
    (bif Nat.blt pc 33 then (bif Nat.beq pc 30 then some (.putfield 31, 3) else none) else
     (bif Nat.beq pc 33 then some (.aload_n 0, 1) else none)))) else
  (bif Nat.blt pc 39 then (bif Nat.blt pc 35 then (bif Nat.beq pc 34 then some (.dup, 1) else none) else
    (bif Nat.blt pc 38 then (bif Nat.beq pc 35 then some (.getfield 27, 3) else none) else
     (bif Nat.beq pc 38 then some (.iconst 1, 1) else none))) else
   (bif Nat.blt pc 40 then (bif Nat.beq pc 39 then some (.isub, 1) else none) else
    (bif Nat.blt pc 43 then (bif Nat.beq pc 40 then some (.putfield 27, 3) else none) else
     (bif Nat.beq pc 43 then some (.return_, 1) else none)))))) else none
set_option maxRecDepth 10000 in
noncomputable def zc_21 (pc : Nat) : Option (Instr × Nat) :=
 bif Nat.blt pc 27 then (bif Nat.blt pc 14 then (bif Nat.blt pc 6 then (bif Nat.blt pc 4 then (bif Nat.blt pc 1 then (bif Nat.beq pc 0 then some (.iload_n 1, 1) else none) else
    (bif Nat.beq pc 1 then some (.ifCond .lt 25, 3) else none)) else
   (bif Nat.blt pc 5 then (bif Nat.beq pc 4 then some (.iload_n 1, 1) else none) else
    (bif Nat.beq pc 5 then some (.iconst 2, 1) else none))) else
  (bif Nat.blt pc 10 then (bif Nat.blt pc 9 then (bif Nat.beq pc 6 then some (.if_icmp .ge 20, 3) else none) else
    (bif Nat.beq pc 9 then some (.aload_n 0, 1) else none)) else
   (bif Nat.blt pc 13 then (bif Nat.beq pc 10 then some (.getfield 17, 3) else none) else
    (bif Nat.beq pc 13 then some (.iload_n 1, 1) else none)))) else
 (bif Nat.blt pc 20 then (bif Nat.blt pc 16 then (bif Nat.blt pc 15 then (bif Nat.beq pc 14 then some (.aaload, 1) else none) else
    (bif Nat.beq pc 15 then some (.aload_n 2, 1) else none)) else
   (bif Nat.blt pc 19 then (bif Nat.beq pc 16 then some (.invokevirtual 40, 3) else none) else
    (bif Nat.beq pc 19 then some (.aload_n 0, 1) else none))) else
  (bif Nat.blt pc 24 then (bif Nat.blt pc 23 then (bif Nat.beq pc 20 then some (.getfield 20, 3) else none) else
    (bif Nat.beq pc 23 then some (.iload_n 1, 1) else none)) else
   (bif Nat.blt pc 25 then (bif Nat.beq pc 24 then some (.iconst 1, 1) else none) else
    (bif Nat.blt pc 26 then (bif Nat.beq pc 25 then some (.bastore, 1) else none) else
     (bif Nat.beq pc 26 then some (.return_, 1) else none)))))) else none
set_option maxRecDepth 10000 in
noncomputable def zc_22 (pc : Nat) : Option (Instr × Nat) :=
 bif Nat.blt pc 29 then (bif Nat.blt pc 10 then (bif Nat.blt pc 4 then (bif Nat.blt pc 2 then (bif Nat.blt pc 1 then (bif Nat.beq pc 0 then some (.iconst 0, 1) else none) else
    (bif Nat.beq pc 1 then some (.istore_n 1, 1) else none)) else
   (bif Nat.blt pc 3 then (bif Nat.beq pc 2 then some (.iconst 0, 1) else none) else
    (bif Nat.beq pc 3 then some (.istore_n 2, 1) else none))) else
  (bif Nat.blt pc 6 then (bif Nat.blt pc 5 then (bif Nat.beq pc 4 then some (.iload_n 2, 1) else none) else
    (bif Nat.beq pc 5 then some (.iconst 2, 1) else none)) else
   (bif Nat.blt pc 9 then (bif Nat.beq pc 6 then some (.if_icmp .ge 21, 3) else none) else
    (bif Nat.beq pc 9 then some (.aload_n 0, 1) else none)))) else
 (bif Nat.blt pc 18 then (bif Nat.blt pc 14 then (bif Nat.blt pc 13 then (bif Nat.beq pc 10 then some (.getfield 20, 3) else none) else
    (bif Nat.beq pc 13 then some (.iload_n 2, 1) else none)) else
   (bif Nat.blt pc 15 then (bif Nat.beq pc 14 then some (.baload, 1) else none) else
    (bif Nat.beq pc 15 then some (.ifCond .eq 6, 3) else none))) else
  (bif Nat.blt pc 24 then (bif Nat.blt pc 21 then (bif Nat.beq pc 18 then some (.iinc 1 1, 3) else none) else
    (bif Nat.beq pc 21 then some (.iinc 2 1, 3) else none)) else
   (bif Nat.blt pc 27 then (bif Nat.beq pc 24 then some (.goto (-20), 3) else none) else
    (bif Nat.blt pc 28 then (bif Nat.beq pc 27 then some (.iload_n 1, 1) else none) else
     (bif Nat.beq pc 28 then some (.ireturn, 1) else none)))))) else none
set_option maxRecDepth 10000 in
noncomputable def zc_23 (pc : Nat) : Option (Instr × Nat) :=
 bif Nat.blt pc 25 then (bif Nat.blt pc 12 then (bif Nat.blt pc 5 then (bif Nat.blt pc 1 then (bif Nat.beq pc 0 then some (.aload_n 0, 1) else none) else
   (bif Nat.blt pc 4 then (bif Nat.beq pc 1 then some (.invokespecial 3, 3) else none) else
    (bif Nat.beq pc 4 then some (.aload_n 0, 1) else none))) else
  (bif Nat.blt pc 7 then (bif Nat.beq pc 5 then some (.bipush 30, 2) else none) else
   (bif Nat.blt pc 9 then (bif Nat.beq pc 7 then some (.newarray .byte, 2) else none) else
    (bif Nat.beq pc 9 then some (.putfield 9, 3) else none)))) else
 (bif Nat.blt pc 17 then (bif Nat.blt pc 13 then (bif Nat.beq pc 12 then some (.aload_n 0, 1) else none) else
   (bif Nat.blt pc 16 then (bif Nat.beq pc 13 then some (.new 15, 3) else none) else
    (bif Nat.beq pc 16 then some (.dup, 1) else none))) else
  (bif Nat.blt pc 21 then (bif Nat.blt pc 18 then (bif Nat.beq pc 17 then some (.aload_n 1, 1) else none) else
    (bif Nat.beq pc 18 then some (.invokespecial 17, 3) else none)) else
   (bif Nat.blt pc 24 then (bif Nat.beq pc 21 then some (.putfield 20, 3) else none) else
    (bif Nat.beq pc 24 then some (.return_, 1) else none))))) else none
set_option maxRecDepth 10000 in
noncomputable def zc_24 (pc : Nat) : Option (Instr × Nat) :=
 bif Nat.blt pc 19 then (bif Nat.blt pc 7 then (bif Nat.blt pc 2 then (bif Nat.blt pc 1 then (bif Nat.beq pc 0 then some (.aload_n 0, 1) else none) else
   (bif Nat.beq pc 1 then some (.iconst 0, 1) else none)) else
  (bif Nat.blt pc 5 then (bif Nat.beq pc 2 then some (.putfield 24, 3) else none) else
   (bif Nat.blt pc 6 then (bif Nat.beq pc 5 then some (.aload_n 0, 1) else none) else
    (bif Nat.beq pc 6 then some (.iconst (-1), 1) else none)))) else
 (bif Nat.blt pc 14 then (bif Nat.blt pc 10 then (bif Nat.beq pc 7 then some (.putfield 28, 3) else none) else
   (bif Nat.blt pc 11 then (bif Nat.beq pc 10 then some (.aload_n 0, 1) else none) else
    (bif Nat.beq pc 11 then some (.getfield 20, 3) else none))) else
  (bif Nat.blt pc 15 then (bif Nat.beq pc 14 then some (.iload_n 1, 1) else none) else
   (bif Nat.blt pc 18 then (bif Nat.beq pc 15 then some (.invokevirtual 31, 3) else none) else
    (bif Nat.beq pc 18 then some (.return_, 1) else none))))) else none
set_option maxRecDepth 10000 in
noncomputable def zc_25 (pc : Nat) : Option (Instr × Nat) :=
 bif Nat.blt pc 109 then (bif Nat.blt pc 50 then (bif Nat.blt pc 21 then (bif Nat.blt pc 10 then (bif Nat.blt pc 5 then (bif Nat.blt pc 1 then (bif Nat.beq pc 0 then some (.aload_n 0, 1) else none) else
     (bif Nat.blt pc 2 then (bif Nat.beq pc 1 then some (.aload_n 1, 1) else none) else
      (bif Nat.beq pc 2 then some (.putfield 45, 3) else none))) else
    (bif Nat.blt pc 6 then (bif Nat.beq pc 5 then some (.aload_n 0, 1) else none) else
     (bif Nat.blt pc 7 then (bif Nat.beq pc 6 then some (.aload_n 2, 1) else none) else
      (bif Nat.beq pc 7 then some (.putfield 49, 3) else none)))) else
   (bif Nat.blt pc 15 then (bif Nat.blt pc 11 then (bif Nat.beq pc 10 then some (.aload_n 0, 1) else none) else
     (bif Nat.blt pc 12 then (bif Nat.beq pc 11 then some (.iconst (-1), 1) else none) else
      (bif Nat.beq pc 12 then some (.putfield 53, 3) else none))) else
    (bif Nat.blt pc 17 then (bif Nat.blt pc 16 then (bif Nat.beq pc 15 then some (.aload_n 0, 1) else none) else
      (bif Nat.beq pc 16 then some (.iconst 0, 1) else none)) else
     (bif Nat.blt pc 20 then (bif Nat.beq pc 17 then some (.putfield 56, 3) else none) else
      (bif Nat.beq pc 20 then some (.aload_n 0, 1) else none))))) else
  (bif Nat.blt pc 35 then (bif Nat.blt pc 27 then (bif Nat.blt pc 23 then (bif Nat.beq pc 21 then some (.bipush 25, 2) else none) else
     (bif Nat.blt pc 26 then (bif Nat.beq pc 23 then some (.invokevirtual 62, 3) else none) else
      (bif Nat.beq pc 26 then some (.aload_n 0, 1) else none))) else
    (bif Nat.blt pc 31 then (bif Nat.blt pc 30 then (bif Nat.beq pc 27 then some (.getfield 49, 3) else none) else
      (bif Nat.beq pc 30 then some (.aload_n 0, 1) else none)) else
     (bif Nat.blt pc 32 then (bif Nat.beq pc 31 then some (.iconst 1, 1) else none) else
      (bif Nat.beq pc 32 then some (.invokevirtual 35, 3) else none)))) else
   (bif Nat.blt pc 42 then (bif Nat.blt pc 38 then (bif Nat.beq pc 35 then some (.putfield 65, 3) else none) else
     (bif Nat.blt pc 39 then (bif Nat.beq pc 38 then some (.aload_n 0, 1) else none) else
      (bif Nat.beq pc 39 then some (.getfield 49, 3) else none))) else
    (bif Nat.blt pc 44 then (bif Nat.blt pc 43 then (bif Nat.beq pc 42 then some (.aload_n 0, 1) else none) else
      (bif Nat.beq pc 43 then some (.iconst 1, 1) else none)) else
     (bif Nat.blt pc 47 then (bif Nat.beq pc 44 then some (.invokevirtual 35, 3) else none) else
      (bif Nat.beq pc 47 then some (.putfield 71, 3) else none)))))) else
 (bif Nat.blt pc 79 then (bif Nat.blt pc 63 then (bif Nat.blt pc 53 then (bif Nat.blt pc 51 then (bif Nat.beq pc 50 then some (.iconst 0, 1) else none) else
     (bif Nat.blt pc 52 then (bif Nat.beq pc 51 then some (.istore_n 3, 1) else none) else
      (bif Nat.beq pc 52 then some (.iload_n 3, 1) else none))) else
    (bif Nat.blt pc 59 then (bif Nat.blt pc 56 then (bif Nat.beq pc 53 then some (.sipush 800, 3) else none) else
      (bif Nat.beq pc 56 then some (.if_icmp .ge 32, 3) else none)) else
     (bif Nat.blt pc 60 then (bif Nat.beq pc 59 then some (.aload_n 0, 1) else none) else
      (bif Nat.beq pc 60 then some (.getfield 24, 3) else none)))) else
   (bif Nat.blt pc 70 then (bif Nat.blt pc 66 then (bif Nat.beq pc 63 then some (.ifCond .ne 25, 3) else none) else
     (bif Nat.blt pc 67 then (bif Nat.beq pc 66 then some (.aload_n 0, 1) else none) else
      (bif Nat.beq pc 67 then some (.getfield 20, 3) else none))) else
    (bif Nat.blt pc 75 then (bif Nat.blt pc 73 then (bif Nat.beq pc 70 then some (.getfield 39, 3) else none) else
      (bif Nat.beq pc 73 then some (.bipush (-2), 2) else none)) else
     (bif Nat.blt pc 78 then (bif Nat.beq pc 75 then some (.if_icmp .eq 13, 3) else none) else
      (bif Nat.beq pc 78 then some (.aload_n 0, 1) else none))))) else
  (bif Nat.blt pc 96 then (bif Nat.blt pc 88 then (bif Nat.blt pc 82 then (bif Nat.beq pc 79 then some (.invokevirtual 74, 3) else none) else
     (bif Nat.blt pc 85 then (bif Nat.beq pc 82 then some (.iinc 3 1, 3) else none) else
      (bif Nat.beq pc 85 then some (.goto (-33), 3) else none))) else
    (bif Nat.blt pc 92 then (bif Nat.blt pc 89 then (bif Nat.beq pc 88 then some (.aload_n 0, 1) else none) else
      (bif Nat.beq pc 89 then some (.getfield 53, 3) else none)) else
     (bif Nat.blt pc 93 then (bif Nat.beq pc 92 then some (.iconst (-1), 1) else none) else
      (bif Nat.beq pc 93 then some (.if_icmp .eq 8, 3) else none)))) else
   (bif Nat.blt pc 101 then (bif Nat.blt pc 97 then (bif Nat.beq pc 96 then some (.aload_n 0, 1) else none) else
     (bif Nat.blt pc 98 then (bif Nat.beq pc 97 then some (.iconst 1, 1) else none) else
      (bif Nat.beq pc 98 then some (.invokevirtual 42, 3) else none))) else
    (bif Nat.blt pc 105 then (bif Nat.blt pc 102 then (bif Nat.beq pc 101 then some (.aload_n 0, 1) else none) else
      (bif Nat.beq pc 102 then some (.getfield 45, 3) else none)) else
     (bif Nat.blt pc 108 then (bif Nat.beq pc 105 then some (.invokevirtual 77, 3) else none) else
      (bif Nat.beq pc 108 then some (.return_, 1) else none))))))) else none
set_option maxRecDepth 10000 in
noncomputable def zc_26 (pc : Nat) : Option (Instr × Nat) :=
 bif Nat.blt pc 35 then (bif Nat.blt pc 16 then (bif Nat.blt pc 8 then (bif Nat.blt pc 4 then (bif Nat.blt pc 1 then (bif Nat.beq pc 0 then some (.aload_n 0, 1) else none) else
    (bif Nat.beq pc 1 then some (.getfield 24, 3) else none)) else
   (bif Nat.blt pc 7 then (bif Nat.beq pc 4 then some (.ifCond .eq 4, 3) else none) else
    (bif Nat.beq pc 7 then some (.return_, 1) else none))) else
  (bif Nat.blt pc 12 then (bif Nat.blt pc 9 then (bif Nat.beq pc 8 then some (.aload_n 0, 1) else none) else
    (bif Nat.beq pc 9 then some (.getfield 20, 3) else none)) else
   (bif Nat.blt pc 15 then (bif Nat.beq pc 12 then some (.getfield 39, 3) else none) else
    (bif Nat.beq pc 15 then some (.iload_n 1, 1) else none)))) else
 (bif Nat.blt pc 26 then (bif Nat.blt pc 20 then (bif Nat.blt pc 19 then (bif Nat.beq pc 16 then some (.if_icmp .ne 13, 3) else none) else
    (bif Nat.beq pc 19 then some (.aload_n 0, 1) else none)) else
   (bif Nat.blt pc 23 then (bif Nat.beq pc 20 then some (.getfield 20, 3) else none) else
    (bif Nat.beq pc 23 then some (.invokevirtual 85, 3) else none))) else
  (bif Nat.blt pc 30 then (bif Nat.blt pc 29 then (bif Nat.beq pc 26 then some (.goto 8, 3) else none) else
    (bif Nat.beq pc 29 then some (.aload_n 0, 1) else none)) else
   (bif Nat.blt pc 31 then (bif Nat.beq pc 30 then some (.iconst 1, 1) else none) else
    (bif Nat.blt pc 34 then (bif Nat.beq pc 31 then some (.invokevirtual 42, 3) else none) else
     (bif Nat.beq pc 34 then some (.return_, 1) else none)))))) else none
set_option maxRecDepth 10000 in
noncomputable def zc_27 (pc : Nat) : Option (Instr × Nat) :=
 bif Nat.blt pc 24 then (bif Nat.blt pc 12 then (bif Nat.blt pc 7 then (bif Nat.blt pc 1 then (bif Nat.beq pc 0 then some (.aload_n 0, 1) else none) else
   (bif Nat.blt pc 4 then (bif Nat.beq pc 1 then some (.getfield 24, 3) else none) else
    (bif Nat.beq pc 4 then some (.ifCond .ne 19, 3) else none))) else
  (bif Nat.blt pc 8 then (bif Nat.beq pc 7 then some (.aload_n 0, 1) else none) else
   (bif Nat.blt pc 9 then (bif Nat.beq pc 8 then some (.iload_n 1, 1) else none) else
    (bif Nat.beq pc 9 then some (.putfield 24, 3) else none)))) else
 (bif Nat.blt pc 17 then (bif Nat.blt pc 13 then (bif Nat.beq pc 12 then some (.aload_n 0, 1) else none) else
   (bif Nat.blt pc 14 then (bif Nat.beq pc 13 then some (.aload_n 0, 1) else none) else
    (bif Nat.beq pc 14 then some (.getfield 20, 3) else none))) else
  (bif Nat.blt pc 20 then (bif Nat.beq pc 17 then some (.getfield 82, 3) else none) else
   (bif Nat.blt pc 23 then (bif Nat.beq pc 20 then some (.putfield 28, 3) else none) else
    (bif Nat.beq pc 23 then some (.return_, 1) else none))))) else none
set_option maxRecDepth 10000 in
noncomputable def zc_28 (pc : Nat) : Option (Instr × Nat) :=
 bif Nat.blt pc 162 then (bif Nat.blt pc 79 then (bif Nat.blt pc 37 then (bif Nat.blt pc 18 then (bif Nat.blt pc 9 then (bif Nat.blt pc 4 then (bif Nat.blt pc 1 then (bif Nat.beq pc 0 then some (.iload_n 1, 1) else none) else
      (bif Nat.beq pc 1 then some (.ifCond .eq 7, 3) else none)) else
     (bif Nat.blt pc 5 then (bif Nat.beq pc 4 then some (.iconst 1, 1) else none) else
      (bif Nat.blt pc 8 then (bif Nat.beq pc 5 then some (.goto 4, 3) else none) else
       (bif Nat.beq pc 8 then some (.iconst 0, 1) else none)))) else
    (bif Nat.blt pc 11 then (bif Nat.blt pc 10 then (bif Nat.beq pc 9 then some (.istore_n 2, 1) else none) else
      (bif Nat.beq pc 10 then some (.iload_n 1, 1) else none)) else
     (bif Nat.blt pc 14 then (bif Nat.beq pc 11 then some (.ifCond .eq 7, 3) else none) else
      (bif Nat.blt pc 15 then (bif Nat.beq pc 14 then some (.iconst 0, 1) else none) else
       (bif Nat.beq pc 15 then some (.goto 4, 3) else none))))) else
   (bif Nat.blt pc 24 then (bif Nat.blt pc 20 then (bif Nat.blt pc 19 then (bif Nat.beq pc 18 then some (.iconst 1, 1) else none) else
      (bif Nat.beq pc 19 then some (.istore_n 3, 1) else none)) else
     (bif Nat.blt pc 21 then (bif Nat.beq pc 20 then some (.iconst 0, 1) else none) else
      (bif Nat.blt pc 23 then (bif Nat.beq pc 21 then some (.istore 4, 2) else none) else
       (bif Nat.beq pc 23 then some (.iconst 0, 1) else none)))) else
    (bif Nat.blt pc 30 then (bif Nat.blt pc 26 then (bif Nat.beq pc 24 then some (.istore 5, 2) else none) else
      (bif Nat.blt pc 28 then (bif Nat.beq pc 26 then some (.iload 5, 2) else none) else
       (bif Nat.beq pc 28 then some (.bipush 30, 2) else none))) else
     (bif Nat.blt pc 33 then (bif Nat.beq pc 30 then some (.if_icmp .gt 118, 3) else none) else
      (bif Nat.blt pc 34 then (bif Nat.beq pc 33 then some (.aload_n 0, 1) else none) else
       (bif Nat.beq pc 34 then some (.getfield 24, 3) else none)))))) else
  (bif Nat.blt pc 55 then (bif Nat.blt pc 46 then (bif Nat.blt pc 41 then (bif Nat.blt pc 40 then (bif Nat.beq pc 37 then some (.ifCond .ne 111, 3) else none) else
      (bif Nat.beq pc 40 then some (.iload_n 2, 1) else none)) else
     (bif Nat.blt pc 42 then (bif Nat.beq pc 41 then some (.iload_n 3, 1) else none) else
      (bif Nat.blt pc 43 then (bif Nat.beq pc 42 then some (.iadd, 1) else none) else
       (bif Nat.beq pc 43 then some (.ifCond .le 105, 3) else none)))) else
    (bif Nat.blt pc 50 then (bif Nat.blt pc 47 then (bif Nat.beq pc 46 then some (.iload_n 3, 1) else none) else
      (bif Nat.beq pc 47 then some (.ifCond .le 7, 3) else none)) else
     (bif Nat.blt pc 51 then (bif Nat.beq pc 50 then some (.iconst 1, 1) else none) else
      (bif Nat.blt pc 54 then (bif Nat.beq pc 51 then some (.goto 4, 3) else none) else
       (bif Nat.beq pc 54 then some (.iconst 0, 1) else none))))) else
   (bif Nat.blt pc 65 then (bif Nat.blt pc 58 then (bif Nat.blt pc 57 then (bif Nat.beq pc 55 then some (.istore 6, 2) else none) else
      (bif Nat.beq pc 57 then some (.aload_n 0, 1) else none)) else
     (bif Nat.blt pc 60 then (bif Nat.beq pc 58 then some (.iload 6, 2) else none) else
      (bif Nat.blt pc 62 then (bif Nat.beq pc 60 then some (.iload 4, 2) else none) else
       (bif Nat.beq pc 62 then some (.invokevirtual 141, 3) else none)))) else
    (bif Nat.blt pc 72 then (bif Nat.blt pc 68 then (bif Nat.beq pc 65 then some (.ifCond .eq 77, 3) else none) else
      (bif Nat.blt pc 70 then (bif Nat.beq pc 68 then some (.iload 4, 2) else none) else
       (bif Nat.beq pc 70 then some (.bipush 30, 2) else none))) else
     (bif Nat.blt pc 75 then (bif Nat.beq pc 72 then some (.if_icmp .ge 70, 3) else none) else
      (bif Nat.blt pc 76 then (bif Nat.beq pc 75 then some (.aload_n 0, 1) else none) else
       (bif Nat.beq pc 76 then some (.getfield 20, 3) else none))))))) else
 (bif Nat.blt pc 117 then (bif Nat.blt pc 98 then (bif Nat.blt pc 90 then (bif Nat.blt pc 84 then (bif Nat.blt pc 82 then (bif Nat.beq pc 79 then some (.getfield 39, 3) else none) else
      (bif Nat.beq pc 82 then some (.istore 7, 2) else none)) else
     (bif Nat.blt pc 85 then (bif Nat.beq pc 84 then some (.aload_n 0, 1) else none) else
      (bif Nat.blt pc 88 then (bif Nat.beq pc 85 then some (.getfield 9, 3) else none) else
       (bif Nat.beq pc 88 then some (.iload 4, 2) else none)))) else
    (bif Nat.blt pc 93 then (bif Nat.blt pc 92 then (bif Nat.beq pc 90 then some (.iload 7, 2) else none) else
      (bif Nat.beq pc 92 then some (.i2b, 1) else none)) else
     (bif Nat.blt pc 94 then (bif Nat.beq pc 93 then some (.bastore, 1) else none) else
      (bif Nat.blt pc 97 then (bif Nat.beq pc 94 then some (.iinc 4 1, 3) else none) else
       (bif Nat.beq pc 97 then some (.iload_n 3, 1) else none))))) else
   (bif Nat.blt pc 109 then (bif Nat.blt pc 103 then (bif Nat.blt pc 100 then (bif Nat.beq pc 98 then some (.iload 7, 2) else none) else
      (bif Nat.beq pc 100 then some (.invokestatic 145, 3) else none)) else
     (bif Nat.blt pc 105 then (bif Nat.beq pc 103 then some (.iload 6, 2) else none) else
      (bif Nat.blt pc 108 then (bif Nat.beq pc 105 then some (.ifCond .eq 7, 3) else none) else
       (bif Nat.beq pc 108 then some (.iconst 1, 1) else none)))) else
    (bif Nat.blt pc 114 then (bif Nat.blt pc 112 then (bif Nat.beq pc 109 then some (.goto 4, 3) else none) else
      (bif Nat.blt pc 113 then (bif Nat.beq pc 112 then some (.iconst 0, 1) else none) else
       (bif Nat.beq pc 113 then some (.isub, 1) else none))) else
     (bif Nat.blt pc 115 then (bif Nat.beq pc 114 then some (.iadd, 1) else none) else
      (bif Nat.blt pc 116 then (bif Nat.beq pc 115 then some (.istore_n 3, 1) else none) else
       (bif Nat.beq pc 116 then some (.iload_n 2, 1) else none)))))) else
  (bif Nat.blt pc 136 then (bif Nat.blt pc 128 then (bif Nat.blt pc 122 then (bif Nat.blt pc 119 then (bif Nat.beq pc 117 then some (.iload 7, 2) else none) else
      (bif Nat.beq pc 119 then some (.invokestatic 148, 3) else none)) else
     (bif Nat.blt pc 124 then (bif Nat.beq pc 122 then some (.iload 6, 2) else none) else
      (bif Nat.blt pc 127 then (bif Nat.beq pc 124 then some (.ifCond .eq 7, 3) else none) else
       (bif Nat.beq pc 127 then some (.iconst 0, 1) else none)))) else
    (bif Nat.blt pc 133 then (bif Nat.blt pc 131 then (bif Nat.beq pc 128 then some (.goto 4, 3) else none) else
      (bif Nat.blt pc 132 then (bif Nat.beq pc 131 then some (.iconst 1, 1) else none) else
       (bif Nat.beq pc 132 then some (.isub, 1) else none))) else
     (bif Nat.blt pc 134 then (bif Nat.beq pc 133 then some (.iadd, 1) else none) else
      (bif Nat.blt pc 135 then (bif Nat.beq pc 134 then some (.istore_n 2, 1) else none) else
       (bif Nat.beq pc 135 then some (.aload_n 0, 1) else none))))) else
   (bif Nat.blt pc 151 then (bif Nat.blt pc 142 then (bif Nat.blt pc 139 then (bif Nat.beq pc 136 then some (.getfield 20, 3) else none) else
      (bif Nat.beq pc 139 then some (.invokevirtual 85, 3) else none)) else
     (bif Nat.blt pc 145 then (bif Nat.beq pc 142 then some (.iinc 5 1, 3) else none) else
      (bif Nat.blt pc 148 then (bif Nat.beq pc 145 then some (.goto (-119), 3) else none) else
       (bif Nat.beq pc 148 then some (.new 151, 3) else none)))) else
    (bif Nat.blt pc 156 then (bif Nat.blt pc 152 then (bif Nat.beq pc 151 then some (.dup, 1) else none) else
      (bif Nat.blt pc 153 then (bif Nat.beq pc 152 then some (.aload_n 0, 1) else none) else
       (bif Nat.beq pc 153 then some (.getfield 9, 3) else none))) else
     (bif Nat.blt pc 158 then (bif Nat.beq pc 156 then some (.iload 4, 2) else none) else
      (bif Nat.blt pc 161 then (bif Nat.beq pc 158 then some (.invokespecial 153, 3) else none) else
       (bif Nat.beq pc 161 then some (.areturn, 1) else none)))))))) else none
set_option maxRecDepth 10000 in
noncomputable def zc_29 (pc : Nat) : Option (Instr × Nat) :=
 bif Nat.blt pc 79 then (bif Nat.blt pc 40 then (bif Nat.blt pc 18 then (bif Nat.blt pc 8 then (bif Nat.blt pc 4 then (bif Nat.blt pc 1 then (bif Nat.beq pc 0 then some (.aload_n 0, 1) else none) else
     (bif Nat.beq pc 1 then some (.getfield 20, 3) else none)) else
    (bif Nat.blt pc 7 then (bif Nat.beq pc 4 then some (.getfield 39, 3) else none) else
     (bif Nat.beq pc 7 then some (.istore_n 3, 1) else none))) else
   (bif Nat.blt pc 12 then (bif Nat.blt pc 9 then (bif Nat.beq pc 8 then some (.iload_n 1, 1) else none) else
     (bif Nat.beq pc 9 then some (.ifCond .eq 17, 3) else none)) else
    (bif Nat.blt pc 13 then (bif Nat.beq pc 12 then some (.iload_n 3, 1) else none) else
     (bif Nat.blt pc 15 then (bif Nat.beq pc 13 then some (.bipush (-4), 2) else none) else
      (bif Nat.beq pc 15 then some (.if_icmp .ne 11, 3) else none))))) else
  (bif Nat.blt pc 27 then (bif Nat.blt pc 20 then (bif Nat.blt pc 19 then (bif Nat.beq pc 18 then some (.aload_n 0, 1) else none) else
     (bif Nat.beq pc 19 then some (.iconst 2, 1) else none)) else
    (bif Nat.blt pc 23 then (bif Nat.beq pc 20 then some (.invokevirtual 42, 3) else none) else
     (bif Nat.blt pc 26 then (bif Nat.beq pc 23 then some (.goto 43, 3) else none) else
      (bif Nat.beq pc 26 then some (.iload_n 1, 1) else none)))) else
   (bif Nat.blt pc 31 then (bif Nat.blt pc 30 then (bif Nat.beq pc 27 then some (.ifCond .eq 13, 3) else none) else
     (bif Nat.beq pc 30 then some (.iload_n 3, 1) else none)) else
    (bif Nat.blt pc 34 then (bif Nat.beq pc 31 then some (.invokestatic 156, 3) else none) else
     (bif Nat.blt pc 37 then (bif Nat.beq pc 34 then some (.ifCond .ne 21, 3) else none) else
      (bif Nat.beq pc 37 then some (.goto 10, 3) else none)))))) else
 (bif Nat.blt pc 61 then (bif Nat.blt pc 49 then (bif Nat.blt pc 44 then (bif Nat.blt pc 41 then (bif Nat.beq pc 40 then some (.iload_n 3, 1) else none) else
     (bif Nat.beq pc 41 then some (.invokestatic 159, 3) else none)) else
    (bif Nat.blt pc 47 then (bif Nat.beq pc 44 then some (.ifCond .ne 11, 3) else none) else
     (bif Nat.blt pc 48 then (bif Nat.beq pc 47 then some (.aload_n 0, 1) else none) else
      (bif Nat.beq pc 48 then some (.iconst 1, 1) else none)))) else
   (bif Nat.blt pc 55 then (bif Nat.blt pc 52 then (bif Nat.beq pc 49 then some (.invokevirtual 42, 3) else none) else
     (bif Nat.beq pc 52 then some (.goto 14, 3) else none)) else
    (bif Nat.blt pc 56 then (bif Nat.beq pc 55 then some (.iload_n 2, 1) else none) else
     (bif Nat.blt pc 58 then (bif Nat.beq pc 56 then some (.bipush 30, 2) else none) else
      (bif Nat.beq pc 58 then some (.if_icmp .lt 8, 3) else none))))) else
  (bif Nat.blt pc 70 then (bif Nat.blt pc 63 then (bif Nat.blt pc 62 then (bif Nat.beq pc 61 then some (.aload_n 0, 1) else none) else
     (bif Nat.beq pc 62 then some (.iconst 4, 1) else none)) else
    (bif Nat.blt pc 66 then (bif Nat.beq pc 63 then some (.invokevirtual 42, 3) else none) else
     (bif Nat.blt pc 67 then (bif Nat.beq pc 66 then some (.aload_n 0, 1) else none) else
      (bif Nat.beq pc 67 then some (.getfield 24, 3) else none)))) else
   (bif Nat.blt pc 74 then (bif Nat.blt pc 73 then (bif Nat.beq pc 70 then some (.ifCond .ne 7, 3) else none) else
     (bif Nat.beq pc 73 then some (.iconst 1, 1) else none)) else
    (bif Nat.blt pc 77 then (bif Nat.beq pc 74 then some (.goto 4, 3) else none) else
     (bif Nat.blt pc 78 then (bif Nat.beq pc 77 then some (.iconst 0, 1) else none) else
      (bif Nat.beq pc 78 then some (.ireturn, 1) else none))))))) else none
set_option maxRecDepth 10000 in
noncomputable def zc_30 (pc : Nat) : Option (Instr × Nat) :=
 bif Nat.blt pc 124 then (bif Nat.blt pc 58 then (bif Nat.blt pc 29 then (bif Nat.blt pc 13 then (bif Nat.blt pc 7 then (bif Nat.blt pc 1 then (bif Nat.beq pc 0 then some (.aload_n 0, 1) else none) else
     (bif Nat.blt pc 4 then (bif Nat.beq pc 1 then some (.getfield 20, 3) else none) else
      (bif Nat.beq pc 4 then some (.getfield 39, 3) else none))) else
    (bif Nat.blt pc 9 then (bif Nat.blt pc 8 then (bif Nat.beq pc 7 then some (.istore_n 1, 1) else none) else
      (bif Nat.beq pc 8 then some (.aload_n 0, 1) else none)) else
     (bif Nat.blt pc 12 then (bif Nat.beq pc 9 then some (.getfield 45, 3) else none) else
      (bif Nat.beq pc 12 then some (.aload_n 0, 1) else none)))) else
   (bif Nat.blt pc 23 then (bif Nat.blt pc 19 then (bif Nat.blt pc 16 then (bif Nat.beq pc 13 then some (.getfield 53, 3) else none) else
      (bif Nat.beq pc 16 then some (.invokevirtual 88, 3) else none)) else
     (bif Nat.blt pc 20 then (bif Nat.beq pc 19 then some (.iconst 1, 1) else none) else
      (bif Nat.beq pc 20 then some (.if_icmp .ne 7, 3) else none))) else
    (bif Nat.blt pc 27 then (bif Nat.blt pc 24 then (bif Nat.beq pc 23 then some (.iconst 1, 1) else none) else
      (bif Nat.beq pc 24 then some (.goto 4, 3) else none)) else
     (bif Nat.blt pc 28 then (bif Nat.beq pc 27 then some (.iconst 0, 1) else none) else
      (bif Nat.beq pc 28 then some (.istore_n 2, 1) else none))))) else
  (bif Nat.blt pc 41 then (bif Nat.blt pc 36 then (bif Nat.blt pc 30 then (bif Nat.beq pc 29 then some (.iload_n 1, 1) else none) else
     (bif Nat.blt pc 33 then (bif Nat.beq pc 30 then some (.invokestatic 92, 3) else none) else
      (bif Nat.beq pc 33 then some (.ifCond .eq 14, 3) else none))) else
    (bif Nat.blt pc 38 then (bif Nat.blt pc 37 then (bif Nat.beq pc 36 then some (.aload_n 0, 1) else none) else
      (bif Nat.beq pc 37 then some (.iload_n 1, 1) else none)) else
     (bif Nat.blt pc 40 then (bif Nat.beq pc 38 then some (.bipush 17, 2) else none) else
      (bif Nat.beq pc 40 then some (.isub, 1) else none)))) else
   (bif Nat.blt pc 50 then (bif Nat.blt pc 47 then (bif Nat.blt pc 44 then (bif Nat.beq pc 41 then some (.invokevirtual 96, 3) else none) else
      (bif Nat.beq pc 44 then some (.goto 79, 3) else none)) else
     (bif Nat.blt pc 48 then (bif Nat.beq pc 47 then some (.iload_n 1, 1) else none) else
      (bif Nat.beq pc 48 then some (.bipush 21, 2) else none))) else
    (bif Nat.blt pc 54 then (bif Nat.blt pc 53 then (bif Nat.beq pc 50 then some (.if_icmp .ne 29, 3) else none) else
      (bif Nat.beq pc 53 then some (.iload_n 2, 1) else none)) else
     (bif Nat.blt pc 57 then (bif Nat.beq pc 54 then some (.ifCond .eq 25, 3) else none) else
      (bif Nat.beq pc 57 then some (.aload_n 0, 1) else none)))))) else
 (bif Nat.blt pc 90 then (bif Nat.blt pc 73 then (bif Nat.blt pc 65 then (bif Nat.blt pc 61 then (bif Nat.beq pc 58 then some (.getfield 56, 3) else none) else
     (bif Nat.blt pc 64 then (bif Nat.beq pc 61 then some (.ifCond .ne 18, 3) else none) else
      (bif Nat.beq pc 64 then some (.aload_n 0, 1) else none))) else
    (bif Nat.blt pc 69 then (bif Nat.blt pc 66 then (bif Nat.beq pc 65 then some (.iconst 1, 1) else none) else
      (bif Nat.beq pc 66 then some (.putfield 56, 3) else none)) else
     (bif Nat.blt pc 70 then (bif Nat.beq pc 69 then some (.aload_n 0, 1) else none) else
      (bif Nat.beq pc 70 then some (.getfield 20, 3) else none)))) else
   (bif Nat.blt pc 82 then (bif Nat.blt pc 79 then (bif Nat.blt pc 76 then (bif Nat.beq pc 73 then some (.invokevirtual 85, 3) else none) else
      (bif Nat.beq pc 76 then some (.goto 47, 3) else none)) else
     (bif Nat.blt pc 80 then (bif Nat.beq pc 79 then some (.iload_n 1, 1) else none) else
      (bif Nat.beq pc 80 then some (.bipush 22, 2) else none))) else
    (bif Nat.blt pc 86 then (bif Nat.blt pc 85 then (bif Nat.beq pc 82 then some (.if_icmp .ne 36, 3) else none) else
      (bif Nat.beq pc 85 then some (.aload_n 0, 1) else none)) else
     (bif Nat.blt pc 89 then (bif Nat.beq pc 86 then some (.getfield 53, 3) else none) else
      (bif Nat.beq pc 89 then some (.iconst (-1), 1) else none))))) else
  (bif Nat.blt pc 108 then (bif Nat.blt pc 98 then (bif Nat.blt pc 94 then (bif Nat.blt pc 93 then (bif Nat.beq pc 90 then some (.if_icmp .eq 28, 3) else none) else
      (bif Nat.beq pc 93 then some (.iload_n 2, 1) else none)) else
     (bif Nat.blt pc 97 then (bif Nat.beq pc 94 then some (.ifCond .eq 10, 3) else none) else
      (bif Nat.beq pc 97 then some (.aload_n 0, 1) else none))) else
    (bif Nat.blt pc 104 then (bif Nat.blt pc 101 then (bif Nat.beq pc 98 then some (.getfield 56, 3) else none) else
      (bif Nat.beq pc 101 then some (.ifCond .eq 17, 3) else none)) else
     (bif Nat.blt pc 105 then (bif Nat.beq pc 104 then some (.aload_n 0, 1) else none) else
      (bif Nat.beq pc 105 then some (.invokevirtual 99, 3) else none)))) else
   (bif Nat.blt pc 118 then (bif Nat.blt pc 112 then (bif Nat.blt pc 109 then (bif Nat.beq pc 108 then some (.aload_n 0, 1) else none) else
      (bif Nat.beq pc 109 then some (.getfield 20, 3) else none)) else
     (bif Nat.blt pc 115 then (bif Nat.beq pc 112 then some (.invokevirtual 85, 3) else none) else
      (bif Nat.beq pc 115 then some (.goto 8, 3) else none))) else
    (bif Nat.blt pc 120 then (bif Nat.blt pc 119 then (bif Nat.beq pc 118 then some (.aload_n 0, 1) else none) else
      (bif Nat.beq pc 119 then some (.iconst 1, 1) else none)) else
     (bif Nat.blt pc 123 then (bif Nat.beq pc 120 then some (.invokevirtual 42, 3) else none) else
      (bif Nat.beq pc 123 then some (.return_, 1) else none))))))) else none
set_option maxRecDepth 10000 in
noncomputable def zc_31 (pc : Nat) : Option (Instr × Nat) :=
 bif Nat.blt pc 152 then (bif Nat.blt pc 75 then (bif Nat.blt pc 39 then (bif Nat.blt pc 19 then (bif Nat.blt pc 12 then (bif Nat.blt pc 4 then (bif Nat.blt pc 1 then (bif Nat.beq pc 0 then some (.aload_n 0, 1) else none) else
      (bif Nat.beq pc 1 then some (.getfield 45, 3) else none)) else
     (bif Nat.blt pc 7 then (bif Nat.beq pc 4 then some (.getfield 111, 3) else none) else
      (bif Nat.blt pc 9 then (bif Nat.beq pc 7 then some (.bipush 24, 2) else none) else
       (bif Nat.beq pc 9 then some (.if_icmp .lt 9, 3) else none)))) else
    (bif Nat.blt pc 14 then (bif Nat.blt pc 13 then (bif Nat.beq pc 12 then some (.aload_n 0, 1) else none) else
      (bif Nat.beq pc 13 then some (.iconst 3, 1) else none)) else
     (bif Nat.blt pc 17 then (bif Nat.beq pc 14 then some (.invokevirtual 42, 3) else none) else
      (bif Nat.blt pc 18 then (bif Nat.beq pc 17 then some (.return_, 1) else none) else
       (bif Nat.beq pc 18 then some (.aload_n 0, 1) else none))))) else
   (bif Nat.blt pc 28 then (bif Nat.blt pc 23 then (bif Nat.blt pc 22 then (bif Nat.beq pc 19 then some (.getfield 45, 3) else none) else
      (bif Nat.beq pc 22 then some (.iload_n 1, 1) else none)) else
     (bif Nat.blt pc 24 then (bif Nat.beq pc 23 then some (.aload_n 0, 1) else none) else
      (bif Nat.blt pc 27 then (bif Nat.beq pc 24 then some (.getfield 53, 3) else none) else
       (bif Nat.beq pc 27 then some (.aload_n 0, 1) else none)))) else
    (bif Nat.blt pc 34 then (bif Nat.blt pc 31 then (bif Nat.beq pc 28 then some (.getfield 56, 3) else none) else
      (bif Nat.beq pc 31 then some (.invokevirtual 114, 3) else none)) else
     (bif Nat.blt pc 35 then (bif Nat.beq pc 34 then some (.istore_n 2, 1) else none) else
      (bif Nat.blt pc 36 then (bif Nat.beq pc 35 then some (.aload_n 0, 1) else none) else
       (bif Nat.beq pc 36 then some (.getfield 20, 3) else none)))))) else
  (bif Nat.blt pc 57 then (bif Nat.blt pc 48 then (bif Nat.blt pc 43 then (bif Nat.blt pc 42 then (bif Nat.beq pc 39 then some (.invokevirtual 85, 3) else none) else
      (bif Nat.beq pc 42 then some (.iload_n 1, 1) else none)) else
     (bif Nat.blt pc 44 then (bif Nat.beq pc 43 then some (.iconst 3, 1) else none) else
      (bif Nat.blt pc 47 then (bif Nat.beq pc 44 then some (.if_icmp .ne 4, 3) else none) else
       (bif Nat.beq pc 47 then some (.return_, 1) else none)))) else
    (bif Nat.blt pc 52 then (bif Nat.blt pc 49 then (bif Nat.beq pc 48 then some (.iload_n 1, 1) else none) else
      (bif Nat.beq pc 49 then some (.ifCond .ne 22, 3) else none)) else
     (bif Nat.blt pc 53 then (bif Nat.beq pc 52 then some (.aload_n 0, 1) else none) else
      (bif Nat.blt pc 54 then (bif Nat.beq pc 53 then some (.iload_n 2, 1) else none) else
       (bif Nat.beq pc 54 then some (.invokevirtual 118, 3) else none))))) else
   (bif Nat.blt pc 64 then (bif Nat.blt pc 61 then (bif Nat.blt pc 58 then (bif Nat.beq pc 57 then some (.aload_n 0, 1) else none) else
      (bif Nat.beq pc 58 then some (.getfield 45, 3) else none)) else
     (bif Nat.blt pc 62 then (bif Nat.beq pc 61 then some (.iload_n 2, 1) else none) else
      (bif Nat.blt pc 63 then (bif Nat.beq pc 62 then some (.aload_n 0, 1) else none) else
       (bif Nat.beq pc 63 then some (.iconst 0, 1) else none)))) else
    (bif Nat.blt pc 70 then (bif Nat.blt pc 67 then (bif Nat.beq pc 64 then some (.invokevirtual 35, 3) else none) else
      (bif Nat.beq pc 67 then some (.invokevirtual 121, 3) else none)) else
     (bif Nat.blt pc 71 then (bif Nat.beq pc 70 then some (.return_, 1) else none) else
      (bif Nat.blt pc 72 then (bif Nat.beq pc 71 then some (.aload_n 0, 1) else none) else
       (bif Nat.beq pc 72 then some (.getfield 45, 3) else none))))))) else
 (bif Nat.blt pc 112 then (bif Nat.blt pc 92 then (bif Nat.blt pc 84 then (bif Nat.blt pc 77 then (bif Nat.blt pc 76 then (bif Nat.beq pc 75 then some (.iload_n 2, 1) else none) else
      (bif Nat.beq pc 76 then some (.aload_n 0, 1) else none)) else
     (bif Nat.blt pc 78 then (bif Nat.beq pc 77 then some (.iconst 1, 1) else none) else
      (bif Nat.blt pc 81 then (bif Nat.beq pc 78 then some (.invokevirtual 35, 3) else none) else
       (bif Nat.beq pc 81 then some (.invokevirtual 121, 3) else none)))) else
    (bif Nat.blt pc 86 then (bif Nat.blt pc 85 then (bif Nat.beq pc 84 then some (.iload_n 1, 1) else none) else
      (bif Nat.beq pc 85 then some (.iconst 2, 1) else none)) else
     (bif Nat.blt pc 89 then (bif Nat.beq pc 86 then some (.if_icmp .ne 55, 3) else none) else
      (bif Nat.blt pc 90 then (bif Nat.beq pc 89 then some (.aload_n 0, 1) else none) else
       (bif Nat.beq pc 90 then some (.bipush 23, 2) else none))))) else
   (bif Nat.blt pc 103 then (bif Nat.blt pc 96 then (bif Nat.blt pc 95 then (bif Nat.beq pc 92 then some (.invokevirtual 62, 3) else none) else
      (bif Nat.beq pc 95 then some (.aload_n 0, 1) else none)) else
     (bif Nat.blt pc 99 then (bif Nat.beq pc 96 then some (.getfield 49, 3) else none) else
      (bif Nat.blt pc 100 then (bif Nat.beq pc 99 then some (.aload_n 0, 1) else none) else
       (bif Nat.beq pc 100 then some (.getfield 45, 3) else none)))) else
    (bif Nat.blt pc 107 then (bif Nat.blt pc 104 then (bif Nat.beq pc 103 then some (.iload_n 2, 1) else none) else
      (bif Nat.beq pc 104 then some (.invokevirtual 125, 3) else none)) else
     (bif Nat.blt pc 108 then (bif Nat.beq pc 107 then some (.aload_n 0, 1) else none) else
      (bif Nat.blt pc 109 then (bif Nat.beq pc 108 then some (.iconst 1, 1) else none) else
       (bif Nat.beq pc 109 then some (.invokevirtual 35, 3) else none)))))) else
  (bif Nat.blt pc 133 then (bif Nat.blt pc 122 then (bif Nat.blt pc 116 then (bif Nat.blt pc 115 then (bif Nat.beq pc 112 then some (.invokevirtual 128, 3) else none) else
      (bif Nat.beq pc 115 then some (.aload_n 0, 1) else none)) else
     (bif Nat.blt pc 118 then (bif Nat.beq pc 116 then some (.bipush 24, 2) else none) else
      (bif Nat.blt pc 121 then (bif Nat.beq pc 118 then some (.invokevirtual 62, 3) else none) else
       (bif Nat.beq pc 121 then some (.aload_n 0, 1) else none)))) else
    (bif Nat.blt pc 126 then (bif Nat.blt pc 125 then (bif Nat.beq pc 122 then some (.getfield 49, 3) else none) else
      (bif Nat.beq pc 125 then some (.aload_n 0, 1) else none)) else
     (bif Nat.blt pc 129 then (bif Nat.beq pc 126 then some (.getfield 45, 3) else none) else
      (bif Nat.blt pc 130 then (bif Nat.beq pc 129 then some (.iload_n 2, 1) else none) else
       (bif Nat.beq pc 130 then some (.invokevirtual 125, 3) else none))))) else
   (bif Nat.blt pc 142 then (bif Nat.blt pc 135 then (bif Nat.blt pc 134 then (bif Nat.beq pc 133 then some (.aload_n 0, 1) else none) else
      (bif Nat.beq pc 134 then some (.iconst 0, 1) else none)) else
     (bif Nat.blt pc 138 then (bif Nat.beq pc 135 then some (.invokevirtual 35, 3) else none) else
      (bif Nat.blt pc 141 then (bif Nat.beq pc 138 then some (.invokevirtual 131, 3) else none) else
       (bif Nat.beq pc 141 then some (.aload_n 0, 1) else none)))) else
    (bif Nat.blt pc 147 then (bif Nat.blt pc 143 then (bif Nat.beq pc 142 then some (.iload_n 2, 1) else none) else
      (bif Nat.blt pc 146 then (bif Nat.beq pc 143 then some (.putfield 53, 3) else none) else
       (bif Nat.beq pc 146 then some (.aload_n 0, 1) else none))) else
     (bif Nat.blt pc 148 then (bif Nat.beq pc 147 then some (.iconst 0, 1) else none) else
      (bif Nat.blt pc 151 then (bif Nat.beq pc 148 then some (.putfield 56, 3) else none) else
       (bif Nat.beq pc 151 then some (.return_, 1) else none)))))))) else none
set_option maxRecDepth 10000 in
noncomputable def zc_32 (pc : Nat) : Option (Instr × Nat) :=
 bif Nat.blt pc 46 then (bif Nat.blt pc 25 then (bif Nat.blt pc 13 then (bif Nat.blt pc 4 then (bif Nat.blt pc 1 then (bif Nat.beq pc 0 then some (.aload_n 0, 1) else none) else
    (bif Nat.beq pc 1 then some (.getfield 20, 3) else none)) else
   (bif Nat.blt pc 7 then (bif Nat.beq pc 4 then some (.getfield 39, 3) else none) else
    (bif Nat.blt pc 10 then (bif Nat.beq pc 7 then some (.invokestatic 134, 3) else none) else
     (bif Nat.beq pc 10 then some (.ifCond .eq 30, 3) else none)))) else
  (bif Nat.blt pc 18 then (bif Nat.blt pc 14 then (bif Nat.beq pc 13 then some (.aload_n 0, 1) else none) else
    (bif Nat.blt pc 17 then (bif Nat.beq pc 14 then some (.getfield 45, 3) else none) else
     (bif Nat.beq pc 17 then some (.iload_n 1, 1) else none))) else
   (bif Nat.blt pc 19 then (bif Nat.beq pc 18 then some (.aload_n 0, 1) else none) else
    (bif Nat.blt pc 22 then (bif Nat.beq pc 19 then some (.getfield 20, 3) else none) else
     (bif Nat.beq pc 22 then some (.getfield 39, 3) else none))))) else
 (bif Nat.blt pc 34 then (bif Nat.blt pc 27 then (bif Nat.blt pc 26 then (bif Nat.beq pc 25 then some (.iconst 4, 1) else none) else
    (bif Nat.beq pc 26 then some (.isub, 1) else none)) else
   (bif Nat.blt pc 30 then (bif Nat.beq pc 27 then some (.invokevirtual 137, 3) else none) else
    (bif Nat.blt pc 31 then (bif Nat.beq pc 30 then some (.aload_n 0, 1) else none) else
     (bif Nat.beq pc 31 then some (.getfield 20, 3) else none)))) else
  (bif Nat.blt pc 41 then (bif Nat.blt pc 37 then (bif Nat.beq pc 34 then some (.invokevirtual 85, 3) else none) else
    (bif Nat.blt pc 40 then (bif Nat.beq pc 37 then some (.goto 8, 3) else none) else
     (bif Nat.beq pc 40 then some (.aload_n 0, 1) else none))) else
   (bif Nat.blt pc 42 then (bif Nat.beq pc 41 then some (.iconst 1, 1) else none) else
    (bif Nat.blt pc 45 then (bif Nat.beq pc 42 then some (.invokevirtual 42, 3) else none) else
     (bif Nat.beq pc 45 then some (.return_, 1) else none)))))) else none
set_option maxRecDepth 10000 in
noncomputable def zc_33 (pc : Nat) : Option (Instr × Nat) :=
 bif Nat.blt pc 80 then (bif Nat.blt pc 37 then (bif Nat.blt pc 20 then (bif Nat.blt pc 11 then (bif Nat.blt pc 4 then (bif Nat.blt pc 1 then (bif Nat.beq pc 0 then some (.aload_n 0, 1) else none) else
     (bif Nat.beq pc 1 then some (.getfield 45, 3) else none)) else
    (bif Nat.blt pc 5 then (bif Nat.beq pc 4 then some (.aload_n 0, 1) else none) else
     (bif Nat.blt pc 8 then (bif Nat.beq pc 5 then some (.getfield 53, 3) else none) else
      (bif Nat.beq pc 8 then some (.invokevirtual 102, 3) else none)))) else
   (bif Nat.blt pc 13 then (bif Nat.blt pc 12 then (bif Nat.beq pc 11 then some (.istore_n 1, 1) else none) else
     (bif Nat.beq pc 12 then some (.aload_n 0, 1) else none)) else
    (bif Nat.blt pc 16 then (bif Nat.beq pc 13 then some (.getfield 45, 3) else none) else
     (bif Nat.blt pc 17 then (bif Nat.beq pc 16 then some (.iload_n 1, 1) else none) else
      (bif Nat.beq pc 17 then some (.invokevirtual 105, 3) else none))))) else
  (bif Nat.blt pc 27 then (bif Nat.blt pc 22 then (bif Nat.blt pc 21 then (bif Nat.beq pc 20 then some (.istore_n 2, 1) else none) else
     (bif Nat.beq pc 21 then some (.aload_n 0, 1) else none)) else
    (bif Nat.blt pc 23 then (bif Nat.beq pc 22 then some (.iconst 0, 1) else none) else
     (bif Nat.blt pc 26 then (bif Nat.beq pc 23 then some (.putfield 56, 3) else none) else
      (bif Nat.beq pc 26 then some (.iconst 0, 1) else none)))) else
   (bif Nat.blt pc 31 then (bif Nat.blt pc 28 then (bif Nat.beq pc 27 then some (.istore_n 3, 1) else none) else
     (bif Nat.blt pc 29 then (bif Nat.beq pc 28 then some (.iload_n 2, 1) else none) else
      (bif Nat.beq pc 29 then some (.istore 4, 2) else none))) else
    (bif Nat.blt pc 32 then (bif Nat.beq pc 31 then some (.iload_n 3, 1) else none) else
     (bif Nat.blt pc 34 then (bif Nat.beq pc 32 then some (.bipush 24, 2) else none) else
      (bif Nat.beq pc 34 then some (.if_icmp .ge 40, 3) else none)))))) else
 (bif Nat.blt pc 57 then (bif Nat.blt pc 46 then (bif Nat.blt pc 40 then (bif Nat.blt pc 39 then (bif Nat.beq pc 37 then some (.iload 4, 2) else none) else
     (bif Nat.beq pc 39 then some (.iconst (-1), 1) else none)) else
    (bif Nat.blt pc 43 then (bif Nat.beq pc 40 then some (.if_icmp .eq 34, 3) else none) else
     (bif Nat.blt pc 45 then (bif Nat.beq pc 43 then some (.iload 4, 2) else none) else
      (bif Nat.beq pc 45 then some (.aload_n 0, 1) else none)))) else
   (bif Nat.blt pc 52 then (bif Nat.blt pc 49 then (bif Nat.beq pc 46 then some (.getfield 53, 3) else none) else
     (bif Nat.beq pc 49 then some (.if_icmp .ne 8, 3) else none)) else
    (bif Nat.blt pc 53 then (bif Nat.beq pc 52 then some (.aload_n 0, 1) else none) else
     (bif Nat.blt pc 54 then (bif Nat.beq pc 53 then some (.iconst 1, 1) else none) else
      (bif Nat.beq pc 54 then some (.putfield 56, 3) else none))))) else
  (bif Nat.blt pc 68 then (bif Nat.blt pc 61 then (bif Nat.blt pc 58 then (bif Nat.beq pc 57 then some (.aload_n 0, 1) else none) else
     (bif Nat.beq pc 58 then some (.getfield 45, 3) else none)) else
    (bif Nat.blt pc 63 then (bif Nat.beq pc 61 then some (.iload 4, 2) else none) else
     (bif Nat.blt pc 66 then (bif Nat.beq pc 63 then some (.invokevirtual 108, 3) else none) else
      (bif Nat.beq pc 66 then some (.istore 4, 2) else none)))) else
   (bif Nat.blt pc 75 then (bif Nat.blt pc 71 then (bif Nat.beq pc 68 then some (.iinc 3 1, 3) else none) else
     (bif Nat.blt pc 74 then (bif Nat.beq pc 71 then some (.goto (-40), 3) else none) else
      (bif Nat.beq pc 74 then some (.aload_n 0, 1) else none))) else
    (bif Nat.blt pc 76 then (bif Nat.beq pc 75 then some (.iload_n 1, 1) else none) else
     (bif Nat.blt pc 79 then (bif Nat.beq pc 76 then some (.putfield 53, 3) else none) else
      (bif Nat.beq pc 79 then some (.return_, 1) else none))))))) else none
set_option maxRecDepth 10000 in
noncomputable def zc_34 (pc : Nat) : Option (Instr × Nat) :=
 bif Nat.blt pc 25 then (bif Nat.blt pc 13 then (bif Nat.blt pc 5 then (bif Nat.blt pc 1 then (bif Nat.beq pc 0 then some (.aload_n 0, 1) else none) else
   (bif Nat.blt pc 2 then (bif Nat.beq pc 1 then some (.iload_n 1, 1) else none) else
    (bif Nat.beq pc 2 then some (.invokevirtual 35, 3) else none))) else
  (bif Nat.blt pc 7 then (bif Nat.blt pc 6 then (bif Nat.beq pc 5 then some (.astore_n 2, 1) else none) else
    (bif Nat.beq pc 6 then some (.aload_n 0, 1) else none)) else
   (bif Nat.blt pc 10 then (bif Nat.beq pc 7 then some (.getfield 20, 3) else none) else
    (bif Nat.beq pc 10 then some (.getfield 39, 3) else none)))) else
 (bif Nat.blt pc 19 then (bif Nat.blt pc 15 then (bif Nat.beq pc 13 then some (.bipush (-2), 2) else none) else
   (bif Nat.blt pc 18 then (bif Nat.beq pc 15 then some (.if_icmp .eq 8, 3) else none) else
    (bif Nat.beq pc 18 then some (.aload_n 0, 1) else none))) else
  (bif Nat.blt pc 23 then (bif Nat.blt pc 20 then (bif Nat.beq pc 19 then some (.iconst 1, 1) else none) else
    (bif Nat.beq pc 20 then some (.invokevirtual 42, 3) else none)) else
   (bif Nat.blt pc 24 then (bif Nat.beq pc 23 then some (.aload_n 2, 1) else none) else
    (bif Nat.beq pc 24 then some (.areturn, 1) else none))))) else none
set_option maxRecDepth 10000 in
noncomputable def zc_35 (pc : Nat) : Option (Instr × Nat) :=
 bif Nat.blt pc 112 then (bif Nat.blt pc 57 then (bif Nat.blt pc 28 then (bif Nat.blt pc 13 then (bif Nat.blt pc 5 then (bif Nat.blt pc 1 then (bif Nat.beq pc 0 then some (.aload_n 0, 1) else none) else
     (bif Nat.blt pc 4 then (bif Nat.beq pc 1 then some (.invokespecial 3, 3) else none) else
      (bif Nat.beq pc 4 then some (.aload_n 0, 1) else none))) else
    (bif Nat.blt pc 9 then (bif Nat.blt pc 7 then (bif Nat.beq pc 5 then some (.bipush 24, 2) else none) else
      (bif Nat.beq pc 7 then some (.newarray .int, 2) else none)) else
     (bif Nat.blt pc 12 then (bif Nat.beq pc 9 then some (.putfield 9, 3) else none) else
      (bif Nat.beq pc 12 then some (.aload_n 0, 1) else none)))) else
   (bif Nat.blt pc 20 then (bif Nat.blt pc 15 then (bif Nat.beq pc 13 then some (.bipush 24, 2) else none) else
     (bif Nat.blt pc 17 then (bif Nat.beq pc 15 then some (.newarray .int, 2) else none) else
      (bif Nat.beq pc 17 then some (.putfield 15, 3) else none))) else
    (bif Nat.blt pc 23 then (bif Nat.blt pc 21 then (bif Nat.beq pc 20 then some (.aload_n 0, 1) else none) else
      (bif Nat.beq pc 21 then some (.bipush 24, 2) else none)) else
     (bif Nat.blt pc 25 then (bif Nat.beq pc 23 then some (.newarray .int, 2) else none) else
      (bif Nat.beq pc 25 then some (.putfield 18, 3) else none))))) else
  (bif Nat.blt pc 41 then (bif Nat.blt pc 33 then (bif Nat.blt pc 29 then (bif Nat.beq pc 28 then some (.aload_n 0, 1) else none) else
     (bif Nat.blt pc 31 then (bif Nat.beq pc 29 then some (.bipush 24, 2) else none) else
      (bif Nat.beq pc 31 then some (.newarray .int, 2) else none))) else
    (bif Nat.blt pc 37 then (bif Nat.blt pc 36 then (bif Nat.beq pc 33 then some (.putfield 21, 3) else none) else
      (bif Nat.beq pc 36 then some (.aload_n 0, 1) else none)) else
     (bif Nat.blt pc 39 then (bif Nat.beq pc 37 then some (.bipush 24, 2) else none) else
      (bif Nat.beq pc 39 then some (.newarray .int, 2) else none)))) else
   (bif Nat.blt pc 49 then (bif Nat.blt pc 45 then (bif Nat.blt pc 44 then (bif Nat.beq pc 41 then some (.putfield 24, 3) else none) else
      (bif Nat.beq pc 44 then some (.aload_n 0, 1) else none)) else
     (bif Nat.blt pc 47 then (bif Nat.beq pc 45 then some (.bipush 24, 2) else none) else
      (bif Nat.beq pc 47 then some (.newarray .int, 2) else none))) else
    (bif Nat.blt pc 53 then (bif Nat.blt pc 52 then (bif Nat.beq pc 49 then some (.putfield 27, 3) else none) else
      (bif Nat.beq pc 52 then some (.aload_n 0, 1) else none)) else
     (bif Nat.blt pc 55 then (bif Nat.beq pc 53 then some (.bipush 24, 2) else none) else
      (bif Nat.beq pc 55 then some (.newarray .int, 2) else none)))))) else
 (bif Nat.blt pc 86 then (bif Nat.blt pc 71 then (bif Nat.blt pc 63 then (bif Nat.blt pc 60 then (bif Nat.beq pc 57 then some (.putfield 30, 3) else none) else
     (bif Nat.blt pc 61 then (bif Nat.beq pc 60 then some (.aload_n 0, 1) else none) else
      (bif Nat.beq pc 61 then some (.bipush 24, 2) else none))) else
    (bif Nat.blt pc 68 then (bif Nat.blt pc 65 then (bif Nat.beq pc 63 then some (.newarray .int, 2) else none) else
      (bif Nat.beq pc 65 then some (.putfield 33, 3) else none)) else
     (bif Nat.blt pc 69 then (bif Nat.beq pc 68 then some (.aload_n 0, 1) else none) else
      (bif Nat.beq pc 69 then some (.bipush 24, 2) else none)))) else
   (bif Nat.blt pc 77 then (bif Nat.blt pc 73 then (bif Nat.beq pc 71 then some (.newarray .int, 2) else none) else
     (bif Nat.blt pc 76 then (bif Nat.beq pc 73 then some (.putfield 36, 3) else none) else
      (bif Nat.beq pc 76 then some (.aload_n 0, 1) else none))) else
    (bif Nat.blt pc 82 then (bif Nat.blt pc 79 then (bif Nat.beq pc 77 then some (.bipush 24, 2) else none) else
      (bif Nat.beq pc 79 then some (.anewarray 39, 3) else none)) else
     (bif Nat.blt pc 85 then (bif Nat.beq pc 82 then some (.putfield 41, 3) else none) else
      (bif Nat.beq pc 85 then some (.aload_n 0, 1) else none))))) else
  (bif Nat.blt pc 98 then (bif Nat.blt pc 91 then (bif Nat.blt pc 87 then (bif Nat.beq pc 86 then some (.aload_n 1, 1) else none) else
     (bif Nat.blt pc 90 then (bif Nat.beq pc 87 then some (.putfield 45, 3) else none) else
      (bif Nat.beq pc 90 then some (.iconst 0, 1) else none))) else
    (bif Nat.blt pc 93 then (bif Nat.blt pc 92 then (bif Nat.beq pc 91 then some (.istore_n 2, 1) else none) else
      (bif Nat.beq pc 92 then some (.iload_n 2, 1) else none)) else
     (bif Nat.blt pc 95 then (bif Nat.beq pc 93 then some (.bipush 24, 2) else none) else
      (bif Nat.beq pc 95 then some (.if_icmp .ge 16, 3) else none)))) else
   (bif Nat.blt pc 104 then (bif Nat.blt pc 102 then (bif Nat.blt pc 99 then (bif Nat.beq pc 98 then some (.aload_n 0, 1) else none) else
      (bif Nat.beq pc 99 then some (.getfield 41, 3) else none)) else
     (bif Nat.blt pc 103 then (bif Nat.beq pc 102 then some (.iload_n 2, 1) else none) else
      (bif Nat.beq pc 103 then some (.aload_n 1, 1) else none))) else
    (bif Nat.blt pc 108 then (bif Nat.blt pc 105 then (bif Nat.beq pc 104 then some (.aastore, 1) else none) else
      (bif Nat.beq pc 105 then some (.iinc 2 1, 3) else none)) else
     (bif Nat.blt pc 111 then (bif Nat.beq pc 108 then some (.goto (-16), 3) else none) else
      (bif Nat.beq pc 111 then some (.return_, 1) else none))))))) else none
set_option maxRecDepth 10000 in
noncomputable def zc_36 (pc : Nat) : Option (Instr × Nat) :=
 bif Nat.blt pc 19 then (bif Nat.blt pc 9 then (bif Nat.blt pc 2 then (bif Nat.blt pc 1 then (bif Nat.beq pc 0 then some (.aload_n 0, 1) else none) else
   (bif Nat.beq pc 1 then some (.iload_n 1, 1) else none)) else
  (bif Nat.blt pc 5 then (bif Nat.beq pc 2 then some (.invokevirtual 53, 3) else none) else
   (bif Nat.blt pc 8 then (bif Nat.beq pc 5 then some (.ifCond .eq 12, 3) else none) else
    (bif Nat.beq pc 8 then some (.aload_n 0, 1) else none)))) else
 (bif Nat.blt pc 14 then (bif Nat.blt pc 12 then (bif Nat.beq pc 9 then some (.getfield 9, 3) else none) else
   (bif Nat.blt pc 13 then (bif Nat.beq pc 12 then some (.iload_n 1, 1) else none) else
    (bif Nat.beq pc 13 then some (.iaload, 1) else none))) else
  (bif Nat.blt pc 17 then (bif Nat.beq pc 14 then some (.goto 4, 3) else none) else
   (bif Nat.blt pc 18 then (bif Nat.beq pc 17 then some (.iconst (-1), 1) else none) else
    (bif Nat.beq pc 18 then some (.ireturn, 1) else none))))) else none
set_option maxRecDepth 10000 in
noncomputable def zc_37 (pc : Nat) : Option (Instr × Nat) :=
 bif Nat.blt pc 24 then (bif Nat.blt pc 12 then (bif Nat.blt pc 5 then (bif Nat.blt pc 1 then (bif Nat.beq pc 0 then some (.iload_n 1, 1) else none) else
   (bif Nat.blt pc 4 then (bif Nat.beq pc 1 then some (.ifCond .lt 21, 3) else none) else
    (bif Nat.beq pc 4 then some (.iload_n 1, 1) else none))) else
  (bif Nat.blt pc 6 then (bif Nat.beq pc 5 then some (.aload_n 0, 1) else none) else
   (bif Nat.blt pc 9 then (bif Nat.beq pc 6 then some (.getfield 49, 3) else none) else
    (bif Nat.beq pc 9 then some (.if_icmp .ge 13, 3) else none)))) else
 (bif Nat.blt pc 18 then (bif Nat.blt pc 13 then (bif Nat.beq pc 12 then some (.iload_n 1, 1) else none) else
   (bif Nat.blt pc 15 then (bif Nat.beq pc 13 then some (.bipush 24, 2) else none) else
    (bif Nat.beq pc 15 then some (.if_icmp .ge 7, 3) else none))) else
  (bif Nat.blt pc 22 then (bif Nat.blt pc 19 then (bif Nat.beq pc 18 then some (.iconst 1, 1) else none) else
    (bif Nat.beq pc 19 then some (.goto 4, 3) else none)) else
   (bif Nat.blt pc 23 then (bif Nat.beq pc 22 then some (.iconst 0, 1) else none) else
    (bif Nat.beq pc 23 then some (.ireturn, 1) else none))))) else none
set_option maxRecDepth 10000 in
noncomputable def zc_38 (pc : Nat) : Option (Instr × Nat) :=
 bif Nat.blt pc 202 then (bif Nat.blt pc 111 then (bif Nat.blt pc 54 then (bif Nat.blt pc 26 then (bif Nat.blt pc 16 then (bif Nat.blt pc 7 then (bif Nat.blt pc 1 then (bif Nat.beq pc 0 then some (.aload_n 0, 1) else none) else
      (bif Nat.blt pc 4 then (bif Nat.beq pc 1 then some (.getfield 49, 3) else none) else
       (bif Nat.beq pc 4 then some (.ifCond .lt 12, 3) else none))) else
     (bif Nat.blt pc 11 then (bif Nat.blt pc 8 then (bif Nat.beq pc 7 then some (.aload_n 0, 1) else none) else
       (bif Nat.beq pc 8 then some (.getfield 49, 3) else none)) else
      (bif Nat.blt pc 13 then (bif Nat.beq pc 11 then some (.bipush 24, 2) else none) else
       (bif Nat.beq pc 13 then some (.if_icmp .lt 5, 3) else none)))) else
    (bif Nat.blt pc 19 then (bif Nat.blt pc 17 then (bif Nat.beq pc 16 then some (.iconst (-1), 1) else none) else
      (bif Nat.blt pc 18 then (bif Nat.beq pc 17 then some (.ireturn, 1) else none) else
       (bif Nat.beq pc 18 then some (.aload_n 0, 1) else none))) else
     (bif Nat.blt pc 24 then (bif Nat.blt pc 22 then (bif Nat.beq pc 19 then some (.getfield 49, 3) else none) else
       (bif Nat.beq pc 22 then some (.istore 4, 2) else none)) else
      (bif Nat.blt pc 25 then (bif Nat.beq pc 24 then some (.aload_n 0, 1) else none) else
       (bif Nat.beq pc 25 then some (.iload_n 2, 1) else none))))) else
   (bif Nat.blt pc 41 then (bif Nat.blt pc 31 then (bif Nat.blt pc 27 then (bif Nat.beq pc 26 then some (.iconst (-1), 1) else none) else
      (bif Nat.blt pc 30 then (bif Nat.beq pc 27 then some (.if_icmp .ne 10, 3) else none) else
       (bif Nat.beq pc 30 then some (.aload_n 0, 1) else none))) else
     (bif Nat.blt pc 37 then (bif Nat.blt pc 34 then (bif Nat.beq pc 31 then some (.invokevirtual 79, 3) else none) else
       (bif Nat.beq pc 34 then some (.goto 20, 3) else none)) else
      (bif Nat.blt pc 38 then (bif Nat.beq pc 37 then some (.iload_n 3, 1) else none) else
       (bif Nat.beq pc 38 then some (.ifCond .eq 11, 3) else none)))) else
    (bif Nat.blt pc 46 then (bif Nat.blt pc 42 then (bif Nat.beq pc 41 then some (.aload_n 0, 1) else none) else
      (bif Nat.blt pc 43 then (bif Nat.beq pc 42 then some (.iload_n 2, 1) else none) else
       (bif Nat.beq pc 43 then some (.invokevirtual 76, 3) else none))) else
     (bif Nat.blt pc 50 then (bif Nat.blt pc 49 then (bif Nat.beq pc 46 then some (.goto 8, 3) else none) else
       (bif Nat.beq pc 49 then some (.aload_n 0, 1) else none)) else
      (bif Nat.blt pc 51 then (bif Nat.beq pc 50 then some (.iload_n 2, 1) else none) else
       (bif Nat.beq pc 51 then some (.invokevirtual 73, 3) else none)))))) else
  (bif Nat.blt pc 82 then (bif Nat.blt pc 69 then (bif Nat.blt pc 60 then (bif Nat.blt pc 57 then (bif Nat.beq pc 54 then some (.invokevirtual 83, 3) else none) else
      (bif Nat.blt pc 59 then (bif Nat.beq pc 57 then some (.istore 5, 2) else none) else
       (bif Nat.beq pc 59 then some (.aload_n 0, 1) else none))) else
     (bif Nat.blt pc 65 then (bif Nat.blt pc 62 then (bif Nat.beq pc 60 then some (.iload 5, 2) else none) else
       (bif Nat.beq pc 62 then some (.invokevirtual 53, 3) else none)) else
      (bif Nat.blt pc 68 then (bif Nat.beq pc 65 then some (.ifCond .eq 15, 3) else none) else
       (bif Nat.beq pc 68 then some (.aload_n 0, 1) else none)))) else
    (bif Nat.blt pc 76 then (bif Nat.blt pc 72 then (bif Nat.beq pc 69 then some (.getfield 24, 3) else none) else
      (bif Nat.blt pc 74 then (bif Nat.beq pc 72 then some (.iload 5, 2) else none) else
       (bif Nat.beq pc 74 then some (.iload 4, 2) else none))) else
     (bif Nat.blt pc 80 then (bif Nat.blt pc 77 then (bif Nat.beq pc 76 then some (.iastore, 1) else none) else
       (bif Nat.beq pc 77 then some (.goto 42, 3) else none)) else
      (bif Nat.blt pc 81 then (bif Nat.beq pc 80 then some (.aload_n 0, 1) else none) else
       (bif Nat.beq pc 81 then some (.iload_n 2, 1) else none))))) else
   (bif Nat.blt pc 97 then (bif Nat.blt pc 89 then (bif Nat.blt pc 85 then (bif Nat.beq pc 82 then some (.invokevirtual 53, 3) else none) else
      (bif Nat.blt pc 88 then (bif Nat.beq pc 85 then some (.ifCond .eq 18, 3) else none) else
       (bif Nat.beq pc 88 then some (.iload_n 3, 1) else none))) else
     (bif Nat.blt pc 93 then (bif Nat.blt pc 92 then (bif Nat.beq pc 89 then some (.ifCond .eq 14, 3) else none) else
       (bif Nat.beq pc 92 then some (.aload_n 0, 1) else none)) else
      (bif Nat.blt pc 96 then (bif Nat.beq pc 93 then some (.getfield 30, 3) else none) else
       (bif Nat.beq pc 96 then some (.iload_n 2, 1) else none)))) else
    (bif Nat.blt pc 103 then (bif Nat.blt pc 99 then (bif Nat.beq pc 97 then some (.iload 4, 2) else none) else
      (bif Nat.blt pc 100 then (bif Nat.beq pc 99 then some (.iastore, 1) else none) else
       (bif Nat.beq pc 100 then some (.goto 19, 3) else none))) else
     (bif Nat.blt pc 105 then (bif Nat.blt pc 104 then (bif Nat.beq pc 103 then some (.aload_n 0, 1) else none) else
       (bif Nat.beq pc 104 then some (.iload_n 2, 1) else none)) else
      (bif Nat.blt pc 108 then (bif Nat.beq pc 105 then some (.invokevirtual 53, 3) else none) else
       (bif Nat.beq pc 108 then some (.ifCond .eq 11, 3) else none))))))) else
 (bif Nat.blt pc 157 then (bif Nat.blt pc 134 then (bif Nat.blt pc 123 then (bif Nat.blt pc 116 then (bif Nat.blt pc 112 then (bif Nat.beq pc 111 then some (.aload_n 0, 1) else none) else
      (bif Nat.blt pc 115 then (bif Nat.beq pc 112 then some (.getfield 27, 3) else none) else
       (bif Nat.beq pc 115 then some (.iload_n 2, 1) else none))) else
     (bif Nat.blt pc 119 then (bif Nat.blt pc 118 then (bif Nat.beq pc 116 then some (.iload 4, 2) else none) else
       (bif Nat.beq pc 118 then some (.iastore, 1) else none)) else
      (bif Nat.blt pc 120 then (bif Nat.beq pc 119 then some (.aload_n 0, 1) else none) else
       (bif Nat.beq pc 120 then some (.getfield 9, 3) else none)))) else
    (bif Nat.blt pc 127 then (bif Nat.blt pc 125 then (bif Nat.beq pc 123 then some (.iload 4, 2) else none) else
      (bif Nat.blt pc 126 then (bif Nat.beq pc 125 then some (.iload_n 1, 1) else none) else
       (bif Nat.beq pc 126 then some (.iastore, 1) else none))) else
     (bif Nat.blt pc 131 then (bif Nat.blt pc 128 then (bif Nat.beq pc 127 then some (.aload_n 0, 1) else none) else
       (bif Nat.beq pc 128 then some (.getfield 15, 3) else none)) else
      (bif Nat.blt pc 133 then (bif Nat.beq pc 131 then some (.iload 4, 2) else none) else
       (bif Nat.beq pc 133 then some (.iconst (-1), 1) else none))))) else
   (bif Nat.blt pc 144 then (bif Nat.blt pc 139 then (bif Nat.blt pc 135 then (bif Nat.beq pc 134 then some (.iastore, 1) else none) else
      (bif Nat.blt pc 136 then (bif Nat.beq pc 135 then some (.aload_n 0, 1) else none) else
       (bif Nat.beq pc 136 then some (.getfield 18, 3) else none))) else
     (bif Nat.blt pc 142 then (bif Nat.blt pc 141 then (bif Nat.beq pc 139 then some (.iload 4, 2) else none) else
       (bif Nat.beq pc 141 then some (.iload_n 2, 1) else none)) else
      (bif Nat.blt pc 143 then (bif Nat.beq pc 142 then some (.iastore, 1) else none) else
       (bif Nat.beq pc 143 then some (.aload_n 0, 1) else none)))) else
    (bif Nat.blt pc 150 then (bif Nat.blt pc 147 then (bif Nat.beq pc 144 then some (.getfield 21, 3) else none) else
      (bif Nat.blt pc 149 then (bif Nat.beq pc 147 then some (.iload 4, 2) else none) else
       (bif Nat.beq pc 149 then some (.aload_n 0, 1) else none))) else
     (bif Nat.blt pc 153 then (bif Nat.blt pc 151 then (bif Nat.beq pc 150 then some (.iload_n 1, 1) else none) else
       (bif Nat.beq pc 151 then some (.iload 4, 2) else none)) else
      (bif Nat.blt pc 156 then (bif Nat.beq pc 153 then some (.invokevirtual 86, 3) else none) else
       (bif Nat.beq pc 156 then some (.iastore, 1) else none)))))) else
  (bif Nat.blt pc 180 then (bif Nat.blt pc 169 then (bif Nat.blt pc 163 then (bif Nat.blt pc 158 then (bif Nat.beq pc 157 then some (.aload_n 0, 1) else none) else
      (bif Nat.blt pc 161 then (bif Nat.beq pc 158 then some (.getfield 24, 3) else none) else
       (bif Nat.beq pc 161 then some (.iload 4, 2) else none))) else
     (bif Nat.blt pc 165 then (bif Nat.blt pc 164 then (bif Nat.beq pc 163 then some (.iconst (-1), 1) else none) else
       (bif Nat.beq pc 164 then some (.iastore, 1) else none)) else
      (bif Nat.blt pc 166 then (bif Nat.beq pc 165 then some (.aload_n 0, 1) else none) else
       (bif Nat.beq pc 166 then some (.getfield 27, 3) else none)))) else
    (bif Nat.blt pc 173 then (bif Nat.blt pc 171 then (bif Nat.beq pc 169 then some (.iload 4, 2) else none) else
      (bif Nat.blt pc 172 then (bif Nat.beq pc 171 then some (.iconst (-1), 1) else none) else
       (bif Nat.beq pc 172 then some (.iastore, 1) else none))) else
     (bif Nat.blt pc 177 then (bif Nat.blt pc 174 then (bif Nat.beq pc 173 then some (.aload_n 0, 1) else none) else
       (bif Nat.beq pc 174 then some (.getfield 30, 3) else none)) else
      (bif Nat.blt pc 179 then (bif Nat.beq pc 177 then some (.iload 4, 2) else none) else
       (bif Nat.beq pc 179 then some (.iconst (-1), 1) else none))))) else
   (bif Nat.blt pc 190 then (bif Nat.blt pc 185 then (bif Nat.blt pc 181 then (bif Nat.beq pc 180 then some (.iastore, 1) else none) else
      (bif Nat.blt pc 182 then (bif Nat.beq pc 181 then some (.aload_n 0, 1) else none) else
       (bif Nat.beq pc 182 then some (.getfield 33, 3) else none))) else
     (bif Nat.blt pc 188 then (bif Nat.blt pc 187 then (bif Nat.beq pc 185 then some (.iload 4, 2) else none) else
       (bif Nat.beq pc 187 then some (.iconst (-1), 1) else none)) else
      (bif Nat.blt pc 189 then (bif Nat.beq pc 188 then some (.iastore, 1) else none) else
       (bif Nat.beq pc 189 then some (.aload_n 0, 1) else none)))) else
    (bif Nat.blt pc 195 then (bif Nat.blt pc 191 then (bif Nat.beq pc 190 then some (.dup, 1) else none) else
      (bif Nat.blt pc 194 then (bif Nat.beq pc 191 then some (.getfield 49, 3) else none) else
       (bif Nat.beq pc 194 then some (.iconst 1, 1) else none))) else
     (bif Nat.blt pc 199 then (bif Nat.blt pc 196 then (bif Nat.beq pc 195 then some (.iadd, 1) else none) else
       (bif Nat.beq pc 196 then some (.putfield 49, 3) else none)) else
      (bif Nat.blt pc 201 then (bif Nat.beq pc 199 then some (.iload 4, 2) else none) else
       (bif Nat.beq pc 201 then some (.ireturn, 1) else none)))))))) else none
set_option maxRecDepth 10000 in
noncomputable def zc_39 (pc : Nat) : Option (Instr × Nat) :=
 bif Nat.blt pc 13 then (bif Nat.blt pc 7 then (bif Nat.blt pc 1 then (bif Nat.beq pc 0 then some (.aload_n 0, 1) else none) else
  (bif Nat.blt pc 4 then (bif Nat.beq pc 1 then some (.getfield 49, 3) else none) else
   (bif Nat.beq pc 4 then some (.ifCond .le 7, 3) else none))) else
 (bif Nat.blt pc 11 then (bif Nat.blt pc 8 then (bif Nat.beq pc 7 then some (.iconst 0, 1) else none) else
   (bif Nat.beq pc 8 then some (.goto 4, 3) else none)) else
  (bif Nat.blt pc 12 then (bif Nat.beq pc 11 then some (.iconst (-1), 1) else none) else
   (bif Nat.beq pc 12 then some (.ireturn, 1) else none)))) else none
set_option maxRecDepth 10000 in
noncomputable def zc_40 (pc : Nat) : Option (Instr × Nat) :=
 bif Nat.blt pc 19 then (bif Nat.blt pc 9 then (bif Nat.blt pc 2 then (bif Nat.blt pc 1 then (bif Nat.beq pc 0 then some (.aload_n 0, 1) else none) else
   (bif Nat.beq pc 1 then some (.iload_n 1, 1) else none)) else
  (bif Nat.blt pc 5 then (bif Nat.beq pc 2 then some (.invokevirtual 53, 3) else none) else
   (bif Nat.blt pc 8 then (bif Nat.beq pc 5 then some (.ifCond .eq 12, 3) else none) else
    (bif Nat.beq pc 8 then some (.aload_n 0, 1) else none)))) else
 (bif Nat.blt pc 14 then (bif Nat.blt pc 12 then (bif Nat.beq pc 9 then some (.getfield 30, 3) else none) else
   (bif Nat.blt pc 13 then (bif Nat.beq pc 12 then some (.iload_n 1, 1) else none) else
    (bif Nat.beq pc 13 then some (.iaload, 1) else none))) else
  (bif Nat.blt pc 17 then (bif Nat.beq pc 14 then some (.goto 4, 3) else none) else
   (bif Nat.blt pc 18 then (bif Nat.beq pc 17 then some (.iconst (-1), 1) else none) else
    (bif Nat.beq pc 18 then some (.ireturn, 1) else none))))) else none
set_option maxRecDepth 10000 in
noncomputable def zc_41 (pc : Nat) : Option (Instr × Nat) :=
 bif Nat.blt pc 19 then (bif Nat.blt pc 9 then (bif Nat.blt pc 2 then (bif Nat.blt pc 1 then (bif Nat.beq pc 0 then some (.aload_n 0, 1) else none) else
   (bif Nat.beq pc 1 then some (.iload_n 1, 1) else none)) else
  (bif Nat.blt pc 5 then (bif Nat.beq pc 2 then some (.invokevirtual 53, 3) else none) else
   (bif Nat.blt pc 8 then (bif Nat.beq pc 5 then some (.ifCond .eq 12, 3) else none) else
    (bif Nat.beq pc 8 then some (.aload_n 0, 1) else none)))) else
 (bif Nat.blt pc 14 then (bif Nat.blt pc 12 then (bif Nat.beq pc 9 then some (.getfield 27, 3) else none) else
   (bif Nat.blt pc 13 then (bif Nat.beq pc 12 then some (.iload_n 1, 1) else none) else
    (bif Nat.beq pc 13 then some (.iaload, 1) else none))) else
  (bif Nat.blt pc 17 then (bif Nat.beq pc 14 then some (.goto 4, 3) else none) else
   (bif Nat.blt pc 18 then (bif Nat.beq pc 17 then some (.iconst (-1), 1) else none) else
    (bif Nat.beq pc 18 then some (.ireturn, 1) else none))))) else none
set_option maxRecDepth 10000 in
noncomputable def zc_42 (pc : Nat) : Option (Instr × Nat) :=
 bif Nat.blt pc 41 then (bif Nat.blt pc 19 then (bif Nat.blt pc 7 then (bif Nat.blt pc 3 then (bif Nat.blt pc 1 then (bif Nat.beq pc 0 then some (.iconst (-1), 1) else none) else
    (bif Nat.blt pc 2 then (bif Nat.beq pc 1 then some (.istore_n 2, 1) else none) else
     (bif Nat.beq pc 2 then some (.iload_n 1, 1) else none))) else
   (bif Nat.blt pc 4 then (bif Nat.beq pc 3 then some (.istore_n 3, 1) else none) else
    (bif Nat.blt pc 5 then (bif Nat.beq pc 4 then some (.iconst 0, 1) else none) else
     (bif Nat.beq pc 5 then some (.istore 4, 2) else none)))) else
  (bif Nat.blt pc 14 then (bif Nat.blt pc 9 then (bif Nat.beq pc 7 then some (.iload 4, 2) else none) else
    (bif Nat.blt pc 11 then (bif Nat.beq pc 9 then some (.bipush 24, 2) else none) else
     (bif Nat.beq pc 11 then some (.if_icmp .ge 28, 3) else none))) else
   (bif Nat.blt pc 15 then (bif Nat.beq pc 14 then some (.iload_n 3, 1) else none) else
    (bif Nat.blt pc 18 then (bif Nat.beq pc 15 then some (.ifCond .lt 24, 3) else none) else
     (bif Nat.beq pc 18 then some (.iload_n 3, 1) else none))))) else
 (bif Nat.blt pc 30 then (bif Nat.blt pc 25 then (bif Nat.blt pc 21 then (bif Nat.beq pc 19 then some (.bipush 24, 2) else none) else
    (bif Nat.blt pc 24 then (bif Nat.beq pc 21 then some (.if_icmp .ge 18, 3) else none) else
     (bif Nat.beq pc 24 then some (.iload_n 3, 1) else none))) else
   (bif Nat.blt pc 26 then (bif Nat.beq pc 25 then some (.istore_n 2, 1) else none) else
    (bif Nat.blt pc 27 then (bif Nat.beq pc 26 then some (.aload_n 0, 1) else none) else
     (bif Nat.beq pc 27 then some (.getfield 24, 3) else none)))) else
  (bif Nat.blt pc 33 then (bif Nat.blt pc 31 then (bif Nat.beq pc 30 then some (.iload_n 3, 1) else none) else
    (bif Nat.blt pc 32 then (bif Nat.beq pc 31 then some (.iaload, 1) else none) else
     (bif Nat.beq pc 32 then some (.istore_n 3, 1) else none))) else
   (bif Nat.blt pc 39 then (bif Nat.blt pc 36 then (bif Nat.beq pc 33 then some (.iinc 4 1, 3) else none) else
     (bif Nat.beq pc 36 then some (.goto (-29), 3) else none)) else
    (bif Nat.blt pc 40 then (bif Nat.beq pc 39 then some (.iload_n 2, 1) else none) else
     (bif Nat.beq pc 40 then some (.ireturn, 1) else none)))))) else none
set_option maxRecDepth 10000 in
noncomputable def zc_43 (pc : Nat) : Option (Instr × Nat) :=
 bif Nat.blt pc 72 then (bif Nat.blt pc 38 then (bif Nat.blt pc 21 then (bif Nat.blt pc 9 then (bif Nat.blt pc 2 then (bif Nat.blt pc 1 then (bif Nat.beq pc 0 then some (.iload_n 1, 1) else none) else
     (bif Nat.beq pc 1 then some (.iconst 2, 1) else none)) else
    (bif Nat.blt pc 5 then (bif Nat.beq pc 2 then some (.if_icmp .ne 46, 3) else none) else
     (bif Nat.blt pc 6 then (bif Nat.beq pc 5 then some (.aload_n 0, 1) else none) else
      (bif Nat.beq pc 6 then some (.getfield 57, 3) else none)))) else
   (bif Nat.blt pc 13 then (bif Nat.blt pc 12 then (bif Nat.beq pc 9 then some (.ifCond .lt 39, 3) else none) else
     (bif Nat.beq pc 12 then some (.aload_n 0, 1) else none)) else
    (bif Nat.blt pc 16 then (bif Nat.beq pc 13 then some (.getfield 57, 3) else none) else
     (bif Nat.blt pc 18 then (bif Nat.beq pc 16 then some (.bipush 24, 2) else none) else
      (bif Nat.beq pc 18 then some (.if_icmp .ge 30, 3) else none))))) else
  (bif Nat.blt pc 30 then (bif Nat.blt pc 25 then (bif Nat.blt pc 22 then (bif Nat.beq pc 21 then some (.aload_n 0, 1) else none) else
     (bif Nat.beq pc 22 then some (.getfield 36, 3) else none)) else
    (bif Nat.blt pc 26 then (bif Nat.beq pc 25 then some (.aload_n 0, 1) else none) else
     (bif Nat.blt pc 29 then (bif Nat.beq pc 26 then some (.getfield 57, 3) else none) else
      (bif Nat.beq pc 29 then some (.iload_n 2, 1) else none)))) else
   (bif Nat.blt pc 33 then (bif Nat.blt pc 31 then (bif Nat.beq pc 30 then some (.iastore, 1) else none) else
     (bif Nat.blt pc 32 then (bif Nat.beq pc 31 then some (.aload_n 0, 1) else none) else
      (bif Nat.beq pc 32 then some (.dup, 1) else none))) else
    (bif Nat.blt pc 36 then (bif Nat.beq pc 33 then some (.getfield 57, 3) else none) else
     (bif Nat.blt pc 37 then (bif Nat.beq pc 36 then some (.iconst 1, 1) else none) else
      (bif Nat.beq pc 37 then some (.iadd, 1) else none)))))) else
 (bif Nat.blt pc 55 then (bif Nat.blt pc 47 then (bif Nat.blt pc 42 then (bif Nat.blt pc 41 then (bif Nat.beq pc 38 then some (.putfield 57, 3) else none) else
     (bif Nat.beq pc 41 then some (.aload_n 0, 1) else none)) else
    (bif Nat.blt pc 45 then (bif Nat.beq pc 42 then some (.getfield 57, 3) else none) else
     (bif Nat.blt pc 46 then (bif Nat.beq pc 45 then some (.iconst 1, 1) else none) else
      (bif Nat.beq pc 46 then some (.isub, 1) else none)))) else
   (bif Nat.blt pc 50 then (bif Nat.blt pc 48 then (bif Nat.beq pc 47 then some (.ireturn, 1) else none) else
     (bif Nat.blt pc 49 then (bif Nat.beq pc 48 then some (.iload_n 1, 1) else none) else
      (bif Nat.beq pc 49 then some (.iconst 3, 1) else none))) else
    (bif Nat.blt pc 53 then (bif Nat.beq pc 50 then some (.if_icmp .ne 20, 3) else none) else
     (bif Nat.blt pc 54 then (bif Nat.beq pc 53 then some (.aload_n 0, 1) else none) else
      (bif Nat.beq pc 54 then some (.dup, 1) else none))))) else
  (bif Nat.blt pc 64 then (bif Nat.blt pc 59 then (bif Nat.blt pc 58 then (bif Nat.beq pc 55 then some (.getfield 90, 3) else none) else
     (bif Nat.beq pc 58 then some (.iconst 1, 1) else none)) else
    (bif Nat.blt pc 60 then (bif Nat.beq pc 59 then some (.iadd, 1) else none) else
     (bif Nat.blt pc 63 then (bif Nat.beq pc 60 then some (.putfield 90, 3) else none) else
      (bif Nat.beq pc 63 then some (.aload_n 0, 1) else none)))) else
   (bif Nat.blt pc 69 then (bif Nat.blt pc 67 then (bif Nat.beq pc 64 then some (.getfield 90, 3) else none) else
     (bif Nat.blt pc 68 then (bif Nat.beq pc 67 then some (.iconst 1, 1) else none) else
      (bif Nat.beq pc 68 then some (.isub, 1) else none))) else
    (bif Nat.blt pc 70 then (bif Nat.beq pc 69 then some (.ireturn, 1) else none) else
     (bif Nat.blt pc 71 then (bif Nat.beq pc 70 then some (.iconst (-1), 1) else none) else
      (bif Nat.beq pc 71 then some (.ireturn, 1) else none))))))) else none
set_option maxRecDepth 10000 in
noncomputable def zc_44 (pc : Nat) : Option (Instr × Nat) :=
 bif Nat.blt pc 16 then (bif Nat.blt pc 9 then (bif Nat.blt pc 2 then (bif Nat.blt pc 1 then (bif Nat.beq pc 0 then some (.aload_n 0, 1) else none) else
   (bif Nat.beq pc 1 then some (.iload_n 1, 1) else none)) else
  (bif Nat.blt pc 5 then (bif Nat.beq pc 2 then some (.invokevirtual 53, 3) else none) else
   (bif Nat.blt pc 8 then (bif Nat.beq pc 5 then some (.ifCond .eq 10, 3) else none) else
    (bif Nat.beq pc 8 then some (.aload_n 0, 1) else none)))) else
 (bif Nat.blt pc 13 then (bif Nat.blt pc 12 then (bif Nat.beq pc 9 then some (.getfield 15, 3) else none) else
   (bif Nat.beq pc 12 then some (.iload_n 1, 1) else none)) else
  (bif Nat.blt pc 14 then (bif Nat.beq pc 13 then some (.iload_n 2, 1) else none) else
   (bif Nat.blt pc 15 then (bif Nat.beq pc 14 then some (.iastore, 1) else none) else
    (bif Nat.beq pc 15 then some (.return_, 1) else none))))) else none
set_option maxRecDepth 10000 in
noncomputable def zc_45 (pc : Nat) : Option (Instr × Nat) :=
 bif Nat.blt pc 16 then (bif Nat.blt pc 9 then (bif Nat.blt pc 2 then (bif Nat.blt pc 1 then (bif Nat.beq pc 0 then some (.aload_n 0, 1) else none) else
   (bif Nat.beq pc 1 then some (.iload_n 1, 1) else none)) else
  (bif Nat.blt pc 5 then (bif Nat.beq pc 2 then some (.invokevirtual 53, 3) else none) else
   (bif Nat.blt pc 8 then (bif Nat.beq pc 5 then some (.ifCond .eq 10, 3) else none) else
    (bif Nat.beq pc 8 then some (.aload_n 0, 1) else none)))) else
 (bif Nat.blt pc 13 then (bif Nat.blt pc 12 then (bif Nat.beq pc 9 then some (.getfield 41, 3) else none) else
   (bif Nat.beq pc 12 then some (.iload_n 1, 1) else none)) else
  (bif Nat.blt pc 14 then (bif Nat.beq pc 13 then some (.aload_n 2, 1) else none) else
   (bif Nat.blt pc 15 then (bif Nat.beq pc 14 then some (.aastore, 1) else none) else
    (bif Nat.beq pc 15 then some (.return_, 1) else none))))) else none
set_option maxRecDepth 10000 in
noncomputable def zc_46 (pc : Nat) : Option (Instr × Nat) :=
 bif Nat.blt pc 19 then (bif Nat.blt pc 9 then (bif Nat.blt pc 2 then (bif Nat.blt pc 1 then (bif Nat.beq pc 0 then some (.aload_n 0, 1) else none) else
   (bif Nat.beq pc 1 then some (.iload_n 1, 1) else none)) else
  (bif Nat.blt pc 5 then (bif Nat.beq pc 2 then some (.invokevirtual 53, 3) else none) else
   (bif Nat.blt pc 8 then (bif Nat.beq pc 5 then some (.ifCond .eq 12, 3) else none) else
    (bif Nat.beq pc 8 then some (.aload_n 0, 1) else none)))) else
 (bif Nat.blt pc 14 then (bif Nat.blt pc 12 then (bif Nat.beq pc 9 then some (.getfield 21, 3) else none) else
   (bif Nat.blt pc 13 then (bif Nat.beq pc 12 then some (.iload_n 1, 1) else none) else
    (bif Nat.beq pc 13 then some (.iaload, 1) else none))) else
  (bif Nat.blt pc 17 then (bif Nat.beq pc 14 then some (.goto 4, 3) else none) else
   (bif Nat.blt pc 18 then (bif Nat.beq pc 17 then some (.iconst (-1), 1) else none) else
    (bif Nat.beq pc 18 then some (.ireturn, 1) else none))))) else none
set_option maxRecDepth 10000 in
noncomputable def zc_47 (pc : Nat) : Option (Instr × Nat) :=
 bif Nat.blt pc 19 then (bif Nat.blt pc 9 then (bif Nat.blt pc 2 then (bif Nat.blt pc 1 then (bif Nat.beq pc 0 then some (.aload_n 0, 1) else none) else
   (bif Nat.beq pc 1 then some (.iload_n 1, 1) else none)) else
  (bif Nat.blt pc 5 then (bif Nat.beq pc 2 then some (.invokevirtual 53, 3) else none) else
   (bif Nat.blt pc 8 then (bif Nat.beq pc 5 then some (.ifCond .eq 12, 3) else none) else
    (bif Nat.beq pc 8 then some (.aload_n 0, 1) else none)))) else
 (bif Nat.blt pc 14 then (bif Nat.blt pc 12 then (bif Nat.beq pc 9 then some (.getfield 18, 3) else none) else
   (bif Nat.blt pc 13 then (bif Nat.beq pc 12 then some (.iload_n 1, 1) else none) else
    (bif Nat.beq pc 13 then some (.iaload, 1) else none))) else
  (bif Nat.blt pc 17 then (bif Nat.beq pc 14 then some (.goto 4, 3) else none) else
   (bif Nat.blt pc 18 then (bif Nat.beq pc 17 then some (.iconst (-1), 1) else none) else
    (bif Nat.beq pc 18 then some (.ireturn, 1) else none))))) else none
set_option maxRecDepth 10000 in
noncomputable def zc_48 (pc : Nat) : Option (Instr × Nat) :=
 bif Nat.blt pc 19 then (bif Nat.blt pc 9 then (bif Nat.blt pc 2 then (bif Nat.blt pc 1 then (bif Nat.beq pc 0 then some (.aload_n 0, 1) else none) else
   (bif Nat.beq pc 1 then some (.iload_n 1, 1) else none)) else
  (bif Nat.blt pc 5 then (bif Nat.beq pc 2 then some (.invokevirtual 53, 3) else none) else
   (bif Nat.blt pc 8 then (bif Nat.beq pc 5 then some (.ifCond .eq 12, 3) else none) else
    (bif Nat.beq pc 8 then some (.aload_n 0, 1) else none)))) else
 (bif Nat.blt pc 14 then (bif Nat.blt pc 12 then (bif Nat.beq pc 9 then some (.getfield 24, 3) else none) else
   (bif Nat.blt pc 13 then (bif Nat.beq pc 12 then some (.iload_n 1, 1) else none) else
    (bif Nat.beq pc 13 then some (.iaload, 1) else none))) else
  (bif Nat.blt pc 17 then (bif Nat.beq pc 14 then some (.goto 4, 3) else none) else
   (bif Nat.blt pc 18 then (bif Nat.beq pc 17 then some (.iconst (-1), 1) else none) else
    (bif Nat.beq pc 18 then some (.ireturn, 1) else none))))) else none
set_option maxRecDepth 10000 in
noncomputable def zc_49 (pc : Nat) : Option (Instr × Nat) :=
 bif Nat.blt pc 84 then (bif Nat.blt pc 41 then (bif Nat.blt pc 21 then (bif Nat.blt pc 10 then (bif Nat.blt pc 3 then (bif Nat.blt pc 1 then (bif Nat.beq pc 0 then some (.iconst 0, 1) else none) else
     (bif Nat.blt pc 2 then (bif Nat.beq pc 1 then some (.istore_n 1, 1) else none) else
      (bif Nat.beq pc 2 then some (.iload_n 1, 1) else none))) else
    (bif Nat.blt pc 4 then (bif Nat.beq pc 3 then some (.aload_n 0, 1) else none) else
     (bif Nat.blt pc 7 then (bif Nat.beq pc 4 then some (.getfield 49, 3) else none) else
      (bif Nat.beq pc 7 then some (.if_icmp .ge 76, 3) else none)))) else
   (bif Nat.blt pc 16 then (bif Nat.blt pc 11 then (bif Nat.beq pc 10 then some (.iload_n 1, 1) else none) else
     (bif Nat.blt pc 13 then (bif Nat.beq pc 11 then some (.bipush 24, 2) else none) else
      (bif Nat.beq pc 13 then some (.if_icmp .ge 70, 3) else none))) else
    (bif Nat.blt pc 17 then (bif Nat.beq pc 16 then some (.aload_n 0, 1) else none) else
     (bif Nat.blt pc 18 then (bif Nat.beq pc 17 then some (.iload_n 1, 1) else none) else
      (bif Nat.beq pc 18 then some (.invokevirtual 60, 3) else none))))) else
  (bif Nat.blt pc 29 then (bif Nat.blt pc 26 then (bif Nat.blt pc 22 then (bif Nat.beq pc 21 then some (.istore_n 2, 1) else none) else
     (bif Nat.blt pc 23 then (bif Nat.beq pc 22 then some (.aload_n 0, 1) else none) else
      (bif Nat.beq pc 23 then some (.getfield 24, 3) else none))) else
    (bif Nat.blt pc 27 then (bif Nat.beq pc 26 then some (.iload_n 1, 1) else none) else
     (bif Nat.blt pc 28 then (bif Nat.beq pc 27 then some (.iaload, 1) else none) else
      (bif Nat.beq pc 28 then some (.iconst (-1), 1) else none)))) else
   (bif Nat.blt pc 36 then (bif Nat.blt pc 32 then (bif Nat.beq pc 29 then some (.if_icmp .eq 18, 3) else none) else
     (bif Nat.blt pc 33 then (bif Nat.beq pc 32 then some (.aload_n 0, 1) else none) else
      (bif Nat.beq pc 33 then some (.getfield 33, 3) else none))) else
    (bif Nat.blt pc 37 then (bif Nat.beq pc 36 then some (.iload_n 1, 1) else none) else
     (bif Nat.blt pc 38 then (bif Nat.beq pc 37 then some (.aload_n 0, 1) else none) else
      (bif Nat.beq pc 38 then some (.getfield 24, 3) else none)))))) else
 (bif Nat.blt pc 61 then (bif Nat.blt pc 49 then (bif Nat.blt pc 44 then (bif Nat.blt pc 42 then (bif Nat.beq pc 41 then some (.iload_n 1, 1) else none) else
     (bif Nat.blt pc 43 then (bif Nat.beq pc 42 then some (.iaload, 1) else none) else
      (bif Nat.beq pc 43 then some (.iastore, 1) else none))) else
    (bif Nat.blt pc 47 then (bif Nat.beq pc 44 then some (.goto 33, 3) else none) else
     (bif Nat.blt pc 48 then (bif Nat.beq pc 47 then some (.aload_n 0, 1) else none) else
      (bif Nat.beq pc 48 then some (.iload_n 2, 1) else none)))) else
   (bif Nat.blt pc 56 then (bif Nat.blt pc 52 then (bif Nat.beq pc 49 then some (.invokevirtual 67, 3) else none) else
     (bif Nat.blt pc 53 then (bif Nat.beq pc 52 then some (.iconst 2, 1) else none) else
      (bif Nat.beq pc 53 then some (.if_icmp .ne 13, 3) else none))) else
    (bif Nat.blt pc 57 then (bif Nat.beq pc 56 then some (.aload_n 0, 1) else none) else
     (bif Nat.blt pc 60 then (bif Nat.beq pc 57 then some (.getfield 33, 3) else none) else
      (bif Nat.beq pc 60 then some (.iload_n 1, 1) else none))))) else
  (bif Nat.blt pc 71 then (bif Nat.blt pc 66 then (bif Nat.blt pc 62 then (bif Nat.beq pc 61 then some (.iload_n 2, 1) else none) else
     (bif Nat.blt pc 63 then (bif Nat.beq pc 62 then some (.iastore, 1) else none) else
      (bif Nat.beq pc 63 then some (.goto 14, 3) else none))) else
    (bif Nat.blt pc 67 then (bif Nat.beq pc 66 then some (.aload_n 0, 1) else none) else
     (bif Nat.blt pc 70 then (bif Nat.beq pc 67 then some (.getfield 33, 3) else none) else
      (bif Nat.beq pc 70 then some (.iload_n 1, 1) else none)))) else
   (bif Nat.blt pc 76 then (bif Nat.blt pc 72 then (bif Nat.beq pc 71 then some (.aload_n 0, 1) else none) else
     (bif Nat.blt pc 73 then (bif Nat.beq pc 72 then some (.iload_n 2, 1) else none) else
      (bif Nat.beq pc 73 then some (.invokevirtual 70, 3) else none))) else
    (bif Nat.blt pc 80 then (bif Nat.blt pc 77 then (bif Nat.beq pc 76 then some (.iastore, 1) else none) else
      (bif Nat.beq pc 77 then some (.iinc 1 1, 3) else none)) else
     (bif Nat.blt pc 83 then (bif Nat.beq pc 80 then some (.goto (-78), 3) else none) else
      (bif Nat.beq pc 83 then some (.return_, 1) else none))))))) else none
set_option maxRecDepth 10000 in
noncomputable def zc_50 (pc : Nat) : Option (Instr × Nat) :=
 bif Nat.blt pc 19 then (bif Nat.blt pc 9 then (bif Nat.blt pc 2 then (bif Nat.blt pc 1 then (bif Nat.beq pc 0 then some (.aload_n 0, 1) else none) else
   (bif Nat.beq pc 1 then some (.iload_n 1, 1) else none)) else
  (bif Nat.blt pc 5 then (bif Nat.beq pc 2 then some (.invokevirtual 53, 3) else none) else
   (bif Nat.blt pc 8 then (bif Nat.beq pc 5 then some (.ifCond .eq 12, 3) else none) else
    (bif Nat.beq pc 8 then some (.aload_n 0, 1) else none)))) else
 (bif Nat.blt pc 14 then (bif Nat.blt pc 12 then (bif Nat.beq pc 9 then some (.getfield 33, 3) else none) else
   (bif Nat.blt pc 13 then (bif Nat.beq pc 12 then some (.iload_n 1, 1) else none) else
    (bif Nat.beq pc 13 then some (.iaload, 1) else none))) else
  (bif Nat.blt pc 17 then (bif Nat.beq pc 14 then some (.goto 4, 3) else none) else
   (bif Nat.blt pc 18 then (bif Nat.beq pc 17 then some (.iconst (-1), 1) else none) else
    (bif Nat.beq pc 18 then some (.ireturn, 1) else none))))) else none
set_option maxRecDepth 10000 in
noncomputable def zc_51 (pc : Nat) : Option (Instr × Nat) :=
 bif Nat.blt pc 19 then (bif Nat.blt pc 9 then (bif Nat.blt pc 2 then (bif Nat.blt pc 1 then (bif Nat.beq pc 0 then some (.aload_n 0, 1) else none) else
   (bif Nat.beq pc 1 then some (.iload_n 1, 1) else none)) else
  (bif Nat.blt pc 5 then (bif Nat.beq pc 2 then some (.invokevirtual 53, 3) else none) else
   (bif Nat.blt pc 8 then (bif Nat.beq pc 5 then some (.ifCond .eq 12, 3) else none) else
    (bif Nat.beq pc 8 then some (.aload_n 0, 1) else none)))) else
 (bif Nat.blt pc 14 then (bif Nat.blt pc 12 then (bif Nat.beq pc 9 then some (.getfield 15, 3) else none) else
   (bif Nat.blt pc 13 then (bif Nat.beq pc 12 then some (.iload_n 1, 1) else none) else
    (bif Nat.beq pc 13 then some (.iaload, 1) else none))) else
  (bif Nat.blt pc 17 then (bif Nat.beq pc 14 then some (.goto 4, 3) else none) else
   (bif Nat.blt pc 18 then (bif Nat.beq pc 17 then some (.iconst (-1), 1) else none) else
    (bif Nat.beq pc 18 then some (.ireturn, 1) else none))))) else none
set_option maxRecDepth 10000 in
noncomputable def zc_52 (pc : Nat) : Option (Instr × Nat) :=
 bif Nat.blt pc 22 then (bif Nat.blt pc 12 then (bif Nat.blt pc 5 then (bif Nat.blt pc 1 then (bif Nat.beq pc 0 then some (.aload_n 0, 1) else none) else
   (bif Nat.blt pc 2 then (bif Nat.beq pc 1 then some (.iload_n 1, 1) else none) else
    (bif Nat.beq pc 2 then some (.invokevirtual 53, 3) else none))) else
  (bif Nat.blt pc 8 then (bif Nat.beq pc 5 then some (.ifCond .eq 12, 3) else none) else
   (bif Nat.blt pc 9 then (bif Nat.beq pc 8 then some (.aload_n 0, 1) else none) else
    (bif Nat.beq pc 9 then some (.getfield 41, 3) else none)))) else
 (bif Nat.blt pc 17 then (bif Nat.blt pc 13 then (bif Nat.beq pc 12 then some (.iload_n 1, 1) else none) else
   (bif Nat.blt pc 14 then (bif Nat.beq pc 13 then some (.aaload, 1) else none) else
    (bif Nat.beq pc 14 then some (.goto 7, 3) else none))) else
  (bif Nat.blt pc 18 then (bif Nat.beq pc 17 then some (.aload_n 0, 1) else none) else
   (bif Nat.blt pc 21 then (bif Nat.beq pc 18 then some (.getfield 45, 3) else none) else
    (bif Nat.beq pc 21 then some (.areturn, 1) else none))))) else none
set_option maxRecDepth 10000 in
noncomputable def zc_53 (pc : Nat) : Option (Instr × Nat) :=
 bif Nat.blt pc 29 then (bif Nat.blt pc 15 then (bif Nat.blt pc 6 then (bif Nat.blt pc 4 then (bif Nat.blt pc 1 then (bif Nat.beq pc 0 then some (.iload_n 1, 1) else none) else
    (bif Nat.beq pc 1 then some (.ifCond .lt 26, 3) else none)) else
   (bif Nat.blt pc 5 then (bif Nat.beq pc 4 then some (.iload_n 1, 1) else none) else
    (bif Nat.beq pc 5 then some (.aload_n 0, 1) else none))) else
  (bif Nat.blt pc 12 then (bif Nat.blt pc 9 then (bif Nat.beq pc 6 then some (.getfield 57, 3) else none) else
    (bif Nat.beq pc 9 then some (.if_icmp .ge 18, 3) else none)) else
   (bif Nat.blt pc 13 then (bif Nat.beq pc 12 then some (.iload_n 1, 1) else none) else
    (bif Nat.beq pc 13 then some (.bipush 24, 2) else none)))) else
 (bif Nat.blt pc 23 then (bif Nat.blt pc 19 then (bif Nat.blt pc 18 then (bif Nat.beq pc 15 then some (.if_icmp .ge 12, 3) else none) else
    (bif Nat.beq pc 18 then some (.aload_n 0, 1) else none)) else
   (bif Nat.blt pc 22 then (bif Nat.beq pc 19 then some (.getfield 36, 3) else none) else
    (bif Nat.beq pc 22 then some (.iload_n 1, 1) else none))) else
  (bif Nat.blt pc 27 then (bif Nat.blt pc 24 then (bif Nat.beq pc 23 then some (.iaload, 1) else none) else
    (bif Nat.beq pc 24 then some (.goto 4, 3) else none)) else
   (bif Nat.blt pc 28 then (bif Nat.beq pc 27 then some (.iconst (-1), 1) else none) else
    (bif Nat.beq pc 28 then some (.ireturn, 1) else none))))) else none
set_option maxRecDepth 10000 in
noncomputable def zc_54 (pc : Nat) : Option (Instr × Nat) :=
 bif Nat.blt pc 71 then (bif Nat.blt pc 36 then (bif Nat.blt pc 18 then (bif Nat.blt pc 9 then (bif Nat.blt pc 2 then (bif Nat.blt pc 1 then (bif Nat.beq pc 0 then some (.aload_n 0, 1) else none) else
     (bif Nat.beq pc 1 then some (.iload_n 1, 1) else none)) else
    (bif Nat.blt pc 5 then (bif Nat.beq pc 2 then some (.invokevirtual 67, 3) else none) else
     (bif Nat.blt pc 6 then (bif Nat.beq pc 5 then some (.iconst 2, 1) else none) else
      (bif Nat.beq pc 6 then some (.if_icmp .ne 32, 3) else none)))) else
   (bif Nat.blt pc 13 then (bif Nat.blt pc 10 then (bif Nat.beq pc 9 then some (.iload_n 2, 1) else none) else
     (bif Nat.beq pc 10 then some (.ifCond .ne 9, 3) else none)) else
    (bif Nat.blt pc 14 then (bif Nat.beq pc 13 then some (.aload_n 0, 1) else none) else
     (bif Nat.blt pc 15 then (bif Nat.beq pc 14 then some (.iload_n 1, 1) else none) else
      (bif Nat.beq pc 15 then some (.invokevirtual 70, 3) else none))))) else
  (bif Nat.blt pc 25 then (bif Nat.blt pc 20 then (bif Nat.blt pc 19 then (bif Nat.beq pc 18 then some (.ireturn, 1) else none) else
     (bif Nat.beq pc 19 then some (.aload_n 0, 1) else none)) else
    (bif Nat.blt pc 21 then (bif Nat.beq pc 20 then some (.iload_n 1, 1) else none) else
     (bif Nat.blt pc 24 then (bif Nat.beq pc 21 then some (.invokevirtual 73, 3) else none) else
      (bif Nat.beq pc 24 then some (.iconst (-1), 1) else none)))) else
   (bif Nat.blt pc 29 then (bif Nat.blt pc 28 then (bif Nat.beq pc 25 then some (.if_icmp .eq 11, 3) else none) else
     (bif Nat.beq pc 28 then some (.aload_n 0, 1) else none)) else
    (bif Nat.blt pc 30 then (bif Nat.beq pc 29 then some (.iload_n 1, 1) else none) else
     (bif Nat.blt pc 33 then (bif Nat.beq pc 30 then some (.invokevirtual 73, 3) else none) else
      (bif Nat.beq pc 33 then some (.goto 4, 3) else none)))))) else
 (bif Nat.blt pc 52 then (bif Nat.blt pc 43 then (bif Nat.blt pc 38 then (bif Nat.blt pc 37 then (bif Nat.beq pc 36 then some (.iload_n 1, 1) else none) else
     (bif Nat.beq pc 37 then some (.ireturn, 1) else none)) else
    (bif Nat.blt pc 39 then (bif Nat.beq pc 38 then some (.iload_n 2, 1) else none) else
     (bif Nat.blt pc 42 then (bif Nat.beq pc 39 then some (.ifCond .eq 11, 3) else none) else
      (bif Nat.beq pc 42 then some (.aload_n 0, 1) else none)))) else
   (bif Nat.blt pc 47 then (bif Nat.blt pc 44 then (bif Nat.beq pc 43 then some (.iload_n 1, 1) else none) else
     (bif Nat.beq pc 44 then some (.invokevirtual 73, 3) else none)) else
    (bif Nat.blt pc 50 then (bif Nat.beq pc 47 then some (.goto 8, 3) else none) else
     (bif Nat.blt pc 51 then (bif Nat.beq pc 50 then some (.aload_n 0, 1) else none) else
      (bif Nat.beq pc 51 then some (.iload_n 1, 1) else none))))) else
  (bif Nat.blt pc 61 then (bif Nat.blt pc 56 then (bif Nat.blt pc 55 then (bif Nat.beq pc 52 then some (.invokevirtual 76, 3) else none) else
     (bif Nat.beq pc 55 then some (.istore_n 3, 1) else none)) else
    (bif Nat.blt pc 57 then (bif Nat.beq pc 56 then some (.iload_n 3, 1) else none) else
     (bif Nat.blt pc 58 then (bif Nat.beq pc 57 then some (.iconst (-1), 1) else none) else
      (bif Nat.beq pc 58 then some (.if_icmp .eq 7, 3) else none)))) else
   (bif Nat.blt pc 66 then (bif Nat.blt pc 62 then (bif Nat.beq pc 61 then some (.iload_n 3, 1) else none) else
     (bif Nat.blt pc 65 then (bif Nat.beq pc 62 then some (.goto 8, 3) else none) else
      (bif Nat.beq pc 65 then some (.aload_n 0, 1) else none))) else
    (bif Nat.blt pc 67 then (bif Nat.beq pc 66 then some (.iload_n 1, 1) else none) else
     (bif Nat.blt pc 70 then (bif Nat.beq pc 67 then some (.invokevirtual 70, 3) else none) else
      (bif Nat.beq pc 70 then some (.ireturn, 1) else none))))))) else none
set_option maxRecDepth 10000 in
noncomputable def zc_55 (pc : Nat) : Option (Instr × Nat) :=
 bif Nat.blt pc 40 then (bif Nat.blt pc 18 then (bif Nat.blt pc 7 then (bif Nat.blt pc 2 then (bif Nat.blt pc 1 then (bif Nat.beq pc 0 then some (.iconst 0, 1) else none) else
    (bif Nat.beq pc 1 then some (.istore_n 2, 1) else none)) else
   (bif Nat.blt pc 3 then (bif Nat.beq pc 2 then some (.aload_n 0, 1) else none) else
    (bif Nat.blt pc 4 then (bif Nat.beq pc 3 then some (.iload_n 1, 1) else none) else
     (bif Nat.beq pc 4 then some (.invokevirtual 60, 3) else none)))) else
  (bif Nat.blt pc 11 then (bif Nat.blt pc 8 then (bif Nat.beq pc 7 then some (.istore_n 3, 1) else none) else
    (bif Nat.blt pc 9 then (bif Nat.beq pc 8 then some (.iconst 0, 1) else none) else
     (bif Nat.beq pc 9 then some (.istore 4, 2) else none))) else
   (bif Nat.blt pc 13 then (bif Nat.beq pc 11 then some (.iload 4, 2) else none) else
    (bif Nat.blt pc 15 then (bif Nat.beq pc 13 then some (.bipush 24, 2) else none) else
     (bif Nat.beq pc 15 then some (.if_icmp .ge 23, 3) else none))))) else
 (bif Nat.blt pc 28 then (bif Nat.blt pc 23 then (bif Nat.blt pc 19 then (bif Nat.beq pc 18 then some (.iload_n 3, 1) else none) else
    (bif Nat.blt pc 20 then (bif Nat.beq pc 19 then some (.iconst (-1), 1) else none) else
     (bif Nat.beq pc 20 then some (.if_icmp .eq 18, 3) else none))) else
   (bif Nat.blt pc 26 then (bif Nat.beq pc 23 then some (.iinc 2 1, 3) else none) else
    (bif Nat.blt pc 27 then (bif Nat.beq pc 26 then some (.aload_n 0, 1) else none) else
     (bif Nat.beq pc 27 then some (.iload_n 3, 1) else none)))) else
  (bif Nat.blt pc 35 then (bif Nat.blt pc 31 then (bif Nat.beq pc 28 then some (.invokevirtual 60, 3) else none) else
    (bif Nat.blt pc 32 then (bif Nat.beq pc 31 then some (.istore_n 3, 1) else none) else
     (bif Nat.beq pc 32 then some (.iinc 4 1, 3) else none))) else
   (bif Nat.blt pc 38 then (bif Nat.beq pc 35 then some (.goto (-24), 3) else none) else
    (bif Nat.blt pc 39 then (bif Nat.beq pc 38 then some (.iload_n 2, 1) else none) else
     (bif Nat.beq pc 39 then some (.ireturn, 1) else none)))))) else none
set_option maxRecDepth 10000 in
noncomputable def zc_56 (pc : Nat) : Option (Instr × Nat) :=
 bif Nat.blt pc 36 then (bif Nat.blt pc 15 then (bif Nat.blt pc 5 then (bif Nat.blt pc 2 then (bif Nat.blt pc 1 then (bif Nat.beq pc 0 then some (.iconst 0, 1) else none) else
    (bif Nat.beq pc 1 then some (.istore_n 2, 1) else none)) else
   (bif Nat.blt pc 3 then (bif Nat.beq pc 2 then some (.iload_n 1, 1) else none) else
    (bif Nat.blt pc 4 then (bif Nat.beq pc 3 then some (.istore_n 3, 1) else none) else
     (bif Nat.beq pc 4 then some (.iconst 0, 1) else none)))) else
  (bif Nat.blt pc 9 then (bif Nat.blt pc 7 then (bif Nat.beq pc 5 then some (.istore 4, 2) else none) else
    (bif Nat.beq pc 7 then some (.iload 4, 2) else none)) else
   (bif Nat.blt pc 11 then (bif Nat.beq pc 9 then some (.bipush 24, 2) else none) else
    (bif Nat.blt pc 14 then (bif Nat.beq pc 11 then some (.if_icmp .ge 23, 3) else none) else
     (bif Nat.beq pc 14 then some (.iload_n 3, 1) else none))))) else
 (bif Nat.blt pc 24 then (bif Nat.blt pc 19 then (bif Nat.blt pc 16 then (bif Nat.beq pc 15 then some (.iconst (-1), 1) else none) else
    (bif Nat.beq pc 16 then some (.if_icmp .eq 18, 3) else none)) else
   (bif Nat.blt pc 22 then (bif Nat.beq pc 19 then some (.iinc 2 1, 3) else none) else
    (bif Nat.blt pc 23 then (bif Nat.beq pc 22 then some (.aload_n 0, 1) else none) else
     (bif Nat.beq pc 23 then some (.iload_n 3, 1) else none)))) else
  (bif Nat.blt pc 31 then (bif Nat.blt pc 27 then (bif Nat.beq pc 24 then some (.invokevirtual 64, 3) else none) else
    (bif Nat.blt pc 28 then (bif Nat.beq pc 27 then some (.istore_n 3, 1) else none) else
     (bif Nat.beq pc 28 then some (.iinc 4 1, 3) else none))) else
   (bif Nat.blt pc 34 then (bif Nat.beq pc 31 then some (.goto (-24), 3) else none) else
    (bif Nat.blt pc 35 then (bif Nat.beq pc 34 then some (.iload_n 2, 1) else none) else
     (bif Nat.beq pc 35 then some (.ireturn, 1) else none)))))) else none
set_option maxRecDepth 10000 in
noncomputable def zc_57 (pc : Nat) : Option (Instr × Nat) :=
 bif Nat.blt pc 35 then (bif Nat.blt pc 18 then (bif Nat.blt pc 8 then (bif Nat.blt pc 4 then (bif Nat.blt pc 1 then (bif Nat.beq pc 0 then some (.aload_n 0, 1) else none) else
    (bif Nat.beq pc 1 then some (.invokespecial 3, 3) else none)) else
   (bif Nat.blt pc 5 then (bif Nat.beq pc 4 then some (.aload_n 0, 1) else none) else
    (bif Nat.beq pc 5 then some (.sipush 1536, 3) else none))) else
  (bif Nat.blt pc 13 then (bif Nat.blt pc 10 then (bif Nat.beq pc 8 then some (.newarray .int, 2) else none) else
    (bif Nat.beq pc 10 then some (.putfield 9, 3) else none)) else
   (bif Nat.blt pc 14 then (bif Nat.beq pc 13 then some (.aload_n 0, 1) else none) else
    (bif Nat.blt pc 16 then (bif Nat.beq pc 14 then some (.bipush 64, 2) else none) else
     (bif Nat.beq pc 16 then some (.newarray .int, 2) else none))))) else
 (bif Nat.blt pc 26 then (bif Nat.blt pc 22 then (bif Nat.blt pc 21 then (bif Nat.beq pc 18 then some (.putfield 15, 3) else none) else
    (bif Nat.beq pc 21 then some (.aload_n 0, 1) else none)) else
   (bif Nat.blt pc 24 then (bif Nat.beq pc 22 then some (.bipush 24, 2) else none) else
    (bif Nat.beq pc 24 then some (.newarray .long, 2) else none))) else
  (bif Nat.blt pc 30 then (bif Nat.blt pc 29 then (bif Nat.beq pc 26 then some (.putfield 18, 3) else none) else
    (bif Nat.beq pc 29 then some (.aload_n 0, 1) else none)) else
   (bif Nat.blt pc 31 then (bif Nat.beq pc 30 then some (.aload_n 1, 1) else none) else
    (bif Nat.blt pc 34 then (bif Nat.beq pc 31 then some (.putfield 22, 3) else none) else
     (bif Nat.beq pc 34 then some (.return_, 1) else none)))))) else none
set_option maxRecDepth 10000 in
noncomputable def zc_58 (pc : Nat) : Option (Instr × Nat) :=
 bif Nat.blt pc 61 then (bif Nat.blt pc 29 then (bif Nat.blt pc 14 then (bif Nat.blt pc 6 then (bif Nat.blt pc 2 then (bif Nat.blt pc 1 then (bif Nat.beq pc 0 then some (.aload_n 0, 1) else none) else
     (bif Nat.beq pc 1 then some (.aload_n 1, 1) else none)) else
    (bif Nat.blt pc 5 then (bif Nat.beq pc 2 then some (.putfield 26, 3) else none) else
     (bif Nat.beq pc 5 then some (.aload_n 0, 1) else none))) else
   (bif Nat.blt pc 10 then (bif Nat.blt pc 7 then (bif Nat.beq pc 6 then some (.aload_n 2, 1) else none) else
     (bif Nat.beq pc 7 then some (.putfield 30, 3) else none)) else
    (bif Nat.blt pc 11 then (bif Nat.beq pc 10 then some (.aload_n 0, 1) else none) else
     (bif Nat.beq pc 11 then some (.getfield 26, 3) else none)))) else
  (bif Nat.blt pc 23 then (bif Nat.blt pc 19 then (bif Nat.blt pc 17 then (bif Nat.beq pc 14 then some (.getfield 34, 3) else none) else
     (bif Nat.beq pc 17 then some (.bipush 24, 2) else none)) else
    (bif Nat.blt pc 22 then (bif Nat.beq pc 19 then some (.invokestatic 40, 3) else none) else
     (bif Nat.beq pc 22 then some (.iconst 1, 1) else none))) else
   (bif Nat.blt pc 25 then (bif Nat.blt pc 24 then (bif Nat.beq pc 23 then some (.isub, 1) else none) else
     (bif Nat.beq pc 24 then some (.istore_n 3, 1) else none)) else
    (bif Nat.blt pc 26 then (bif Nat.beq pc 25 then some (.iload_n 3, 1) else none) else
     (bif Nat.beq pc 26 then some (.ifCond .lt 34, 3) else none))))) else
 (bif Nat.blt pc 43 then (bif Nat.blt pc 37 then (bif Nat.blt pc 33 then (bif Nat.blt pc 30 then (bif Nat.beq pc 29 then some (.aload_n 0, 1) else none) else
     (bif Nat.beq pc 30 then some (.getfield 26, 3) else none)) else
    (bif Nat.blt pc 34 then (bif Nat.beq pc 33 then some (.iload_n 3, 1) else none) else
     (bif Nat.beq pc 34 then some (.invokevirtual 46, 3) else none))) else
   (bif Nat.blt pc 41 then (bif Nat.blt pc 38 then (bif Nat.beq pc 37 then some (.iconst 2, 1) else none) else
     (bif Nat.beq pc 38 then some (.if_icmp .ne 11, 3) else none)) else
    (bif Nat.blt pc 42 then (bif Nat.beq pc 41 then some (.aload_n 0, 1) else none) else
     (bif Nat.beq pc 42 then some (.iload_n 3, 1) else none)))) else
  (bif Nat.blt pc 51 then (bif Nat.blt pc 49 then (bif Nat.blt pc 46 then (bif Nat.beq pc 43 then some (.invokevirtual 50, 3) else none) else
     (bif Nat.beq pc 46 then some (.goto 8, 3) else none)) else
    (bif Nat.blt pc 50 then (bif Nat.beq pc 49 then some (.aload_n 0, 1) else none) else
     (bif Nat.beq pc 50 then some (.iload_n 3, 1) else none))) else
   (bif Nat.blt pc 57 then (bif Nat.blt pc 54 then (bif Nat.beq pc 51 then some (.invokevirtual 54, 3) else none) else
     (bif Nat.beq pc 54 then some (.iinc 3 (-1), 3) else none)) else
    (bif Nat.blt pc 60 then (bif Nat.beq pc 57 then some (.goto (-32), 3) else none) else
     (bif Nat.beq pc 60 then some (.return_, 1) else none)))))) else none
set_option maxRecDepth 10000 in
noncomputable def zc_59 (pc : Nat) : Option (Instr × Nat) :=
 bif Nat.blt pc 167 then (bif Nat.blt pc 82 then (bif Nat.blt pc 40 then (bif Nat.blt pc 18 then (bif Nat.blt pc 8 then (bif Nat.blt pc 2 then (bif Nat.blt pc 1 then (bif Nat.beq pc 0 then some (.iconst 0, 1) else none) else
      (bif Nat.beq pc 1 then some (.istore_n 2, 1) else none)) else
     (bif Nat.blt pc 3 then (bif Nat.beq pc 2 then some (.iload_n 2, 1) else none) else
      (bif Nat.blt pc 5 then (bif Nat.beq pc 3 then some (.bipush 64, 2) else none) else
       (bif Nat.beq pc 5 then some (.if_icmp .ge 46, 3) else none)))) else
    (bif Nat.blt pc 13 then (bif Nat.blt pc 9 then (bif Nat.beq pc 8 then some (.aload_n 0, 1) else none) else
      (bif Nat.blt pc 12 then (bif Nat.beq pc 9 then some (.getfield 22, 3) else none) else
       (bif Nat.beq pc 12 then some (.iload_n 1, 1) else none))) else
     (bif Nat.blt pc 14 then (bif Nat.beq pc 13 then some (.iload_n 2, 1) else none) else
      (bif Nat.blt pc 17 then (bif Nat.beq pc 14 then some (.invokevirtual 66, 3) else none) else
       (bif Nat.beq pc 17 then some (.istore_n 3, 1) else none))))) else
   (bif Nat.blt pc 28 then (bif Nat.blt pc 23 then (bif Nat.blt pc 19 then (bif Nat.beq pc 18 then some (.aload_n 0, 1) else none) else
      (bif Nat.blt pc 22 then (bif Nat.beq pc 19 then some (.getfield 15, 3) else none) else
       (bif Nat.beq pc 22 then some (.iload_n 2, 1) else none))) else
     (bif Nat.blt pc 24 then (bif Nat.beq pc 23 then some (.iload_n 3, 1) else none) else
      (bif Nat.blt pc 27 then (bif Nat.beq pc 24 then some (.ifCond .eq 19, 3) else none) else
       (bif Nat.beq pc 27 then some (.aload_n 0, 1) else none)))) else
    (bif Nat.blt pc 33 then (bif Nat.blt pc 29 then (bif Nat.beq pc 28 then some (.aload_n 0, 1) else none) else
      (bif Nat.blt pc 32 then (bif Nat.beq pc 29 then some (.getfield 26, 3) else none) else
       (bif Nat.beq pc 32 then some (.iload_n 1, 1) else none))) else
     (bif Nat.blt pc 36 then (bif Nat.beq pc 33 then some (.invokevirtual 70, 3) else none) else
      (bif Nat.blt pc 37 then (bif Nat.beq pc 36 then some (.iload_n 2, 1) else none) else
       (bif Nat.beq pc 37 then some (.invokevirtual 73, 3) else none)))))) else
  (bif Nat.blt pc 61 then (bif Nat.blt pc 52 then (bif Nat.blt pc 45 then (bif Nat.blt pc 43 then (bif Nat.beq pc 40 then some (.goto 4, 3) else none) else
      (bif Nat.blt pc 44 then (bif Nat.beq pc 43 then some (.iload_n 2, 1) else none) else
       (bif Nat.beq pc 44 then some (.iastore, 1) else none))) else
     (bif Nat.blt pc 48 then (bif Nat.beq pc 45 then some (.iinc 2 1, 3) else none) else
      (bif Nat.blt pc 51 then (bif Nat.beq pc 48 then some (.goto (-46), 3) else none) else
       (bif Nat.beq pc 51 then some (.iconst 1, 1) else none)))) else
    (bif Nat.blt pc 56 then (bif Nat.blt pc 53 then (bif Nat.beq pc 52 then some (.istore_n 2, 1) else none) else
      (bif Nat.blt pc 54 then (bif Nat.beq pc 53 then some (.iload_n 2, 1) else none) else
       (bif Nat.beq pc 54 then some (.bipush 64, 2) else none))) else
     (bif Nat.blt pc 59 then (bif Nat.beq pc 56 then some (.if_icmp .ge 61, 3) else none) else
      (bif Nat.blt pc 60 then (bif Nat.beq pc 59 then some (.iconst 0, 1) else none) else
       (bif Nat.beq pc 60 then some (.istore_n 3, 1) else none))))) else
   (bif Nat.blt pc 72 then (bif Nat.blt pc 67 then (bif Nat.blt pc 62 then (bif Nat.beq pc 61 then some (.iload_n 3, 1) else none) else
      (bif Nat.blt pc 64 then (bif Nat.beq pc 62 then some (.bipush 64, 2) else none) else
       (bif Nat.beq pc 64 then some (.if_icmp .ge 46, 3) else none))) else
     (bif Nat.blt pc 68 then (bif Nat.beq pc 67 then some (.aload_n 0, 1) else none) else
      (bif Nat.blt pc 71 then (bif Nat.beq pc 68 then some (.getfield 15, 3) else none) else
       (bif Nat.beq pc 71 then some (.iload_n 3, 1) else none)))) else
    (bif Nat.blt pc 76 then (bif Nat.blt pc 73 then (bif Nat.beq pc 72 then some (.iaload, 1) else none) else
      (bif Nat.blt pc 75 then (bif Nat.beq pc 73 then some (.istore 4, 2) else none) else
       (bif Nat.beq pc 75 then some (.aload_n 0, 1) else none))) else
     (bif Nat.blt pc 79 then (bif Nat.beq pc 76 then some (.getfield 15, 3) else none) else
      (bif Nat.blt pc 80 then (bif Nat.beq pc 79 then some (.iload_n 3, 1) else none) else
       (bif Nat.beq pc 80 then some (.iload 4, 2) else none))))))) else
 (bif Nat.blt pc 125 then (bif Nat.blt pc 104 then (bif Nat.blt pc 93 then (bif Nat.blt pc 87 then (bif Nat.blt pc 85 then (bif Nat.beq pc 82 then some (.ifCond .lt 20, 3) else none) else
      (bif Nat.beq pc 85 then some (.iload 4, 2) else none)) else
     (bif Nat.blt pc 89 then (bif Nat.beq pc 87 then some (.bipush 64, 2) else none) else
      (bif Nat.blt pc 92 then (bif Nat.beq pc 89 then some (.if_icmp .ge 13, 3) else none) else
       (bif Nat.beq pc 92 then some (.aload_n 0, 1) else none)))) else
    (bif Nat.blt pc 99 then (bif Nat.blt pc 96 then (bif Nat.beq pc 93 then some (.getfield 15, 3) else none) else
      (bif Nat.blt pc 98 then (bif Nat.beq pc 96 then some (.iload 4, 2) else none) else
       (bif Nat.beq pc 98 then some (.iaload, 1) else none))) else
     (bif Nat.blt pc 102 then (bif Nat.beq pc 99 then some (.goto 4, 3) else none) else
      (bif Nat.blt pc 103 then (bif Nat.beq pc 102 then some (.iconst (-1), 1) else none) else
       (bif Nat.beq pc 103 then some (.iastore, 1) else none))))) else
   (bif Nat.blt pc 114 then (bif Nat.blt pc 111 then (bif Nat.blt pc 107 then (bif Nat.beq pc 104 then some (.iinc 3 1, 3) else none) else
      (bif Nat.blt pc 110 then (bif Nat.beq pc 107 then some (.goto (-46), 3) else none) else
       (bif Nat.beq pc 110 then some (.iload_n 2, 1) else none))) else
     (bif Nat.blt pc 112 then (bif Nat.beq pc 111 then some (.iconst 2, 1) else none) else
      (bif Nat.blt pc 113 then (bif Nat.beq pc 112 then some (.imul, 1) else none) else
       (bif Nat.beq pc 113 then some (.istore_n 2, 1) else none)))) else
    (bif Nat.blt pc 119 then (bif Nat.blt pc 117 then (bif Nat.beq pc 114 then some (.goto (-61), 3) else none) else
      (bif Nat.blt pc 118 then (bif Nat.beq pc 117 then some (.iconst 0, 1) else none) else
       (bif Nat.beq pc 118 then some (.istore_n 2, 1) else none))) else
     (bif Nat.blt pc 120 then (bif Nat.beq pc 119 then some (.iload_n 2, 1) else none) else
      (bif Nat.blt pc 122 then (bif Nat.beq pc 120 then some (.bipush 64, 2) else none) else
       (bif Nat.beq pc 122 then some (.if_icmp .ge 44, 3) else none)))))) else
  (bif Nat.blt pc 141 then (bif Nat.blt pc 133 then (bif Nat.blt pc 130 then (bif Nat.blt pc 126 then (bif Nat.beq pc 125 then some (.aload_n 0, 1) else none) else
      (bif Nat.blt pc 129 then (bif Nat.beq pc 126 then some (.getfield 15, 3) else none) else
       (bif Nat.beq pc 129 then some (.iload_n 2, 1) else none))) else
     (bif Nat.blt pc 131 then (bif Nat.beq pc 130 then some (.iaload, 1) else none) else
      (bif Nat.blt pc 132 then (bif Nat.beq pc 131 then some (.istore_n 3, 1) else none) else
       (bif Nat.beq pc 132 then some (.aload_n 0, 1) else none)))) else
    (bif Nat.blt pc 136 then (bif Nat.blt pc 134 then (bif Nat.beq pc 133 then some (.iload_n 1, 1) else none) else
      (bif Nat.blt pc 135 then (bif Nat.beq pc 134 then some (.iload_n 2, 1) else none) else
       (bif Nat.beq pc 135 then some (.iload_n 3, 1) else none))) else
     (bif Nat.blt pc 137 then (bif Nat.beq pc 136 then some (.iconst (-1), 1) else none) else
      (bif Nat.blt pc 140 then (bif Nat.beq pc 137 then some (.if_icmp .eq 15, 3) else none) else
       (bif Nat.beq pc 140 then some (.aload_n 0, 1) else none))))) else
   (bif Nat.blt pc 153 then (bif Nat.blt pc 146 then (bif Nat.blt pc 144 then (bif Nat.beq pc 141 then some (.getfield 22, 3) else none) else
      (bif Nat.blt pc 145 then (bif Nat.beq pc 144 then some (.iload_n 1, 1) else none) else
       (bif Nat.beq pc 145 then some (.iload_n 3, 1) else none))) else
     (bif Nat.blt pc 149 then (bif Nat.beq pc 146 then some (.invokevirtual 66, 3) else none) else
      (bif Nat.blt pc 152 then (bif Nat.beq pc 149 then some (.ifCond .eq 7, 3) else none) else
       (bif Nat.beq pc 152 then some (.iconst (-1), 1) else none)))) else
    (bif Nat.blt pc 160 then (bif Nat.blt pc 156 then (bif Nat.beq pc 153 then some (.goto 4, 3) else none) else
      (bif Nat.blt pc 157 then (bif Nat.beq pc 156 then some (.iload_n 3, 1) else none) else
       (bif Nat.beq pc 157 then some (.invokevirtual 62, 3) else none))) else
     (bif Nat.blt pc 163 then (bif Nat.beq pc 160 then some (.iinc 2 1, 3) else none) else
      (bif Nat.blt pc 166 then (bif Nat.beq pc 163 then some (.goto (-44), 3) else none) else
       (bif Nat.beq pc 166 then some (.return_, 1) else none)))))))) else none
set_option maxRecDepth 10000 in
noncomputable def zc_60 (pc : Nat) : Option (Instr × Nat) :=
 bif Nat.blt pc 70 then (bif Nat.blt pc 37 then (bif Nat.blt pc 15 then (bif Nat.blt pc 5 then (bif Nat.blt pc 2 then (bif Nat.blt pc 1 then (bif Nat.beq pc 0 then some (.iload_n 2, 1) else none) else
     (bif Nat.beq pc 1 then some (.istore_n 3, 1) else none)) else
    (bif Nat.blt pc 3 then (bif Nat.beq pc 2 then some (.iload_n 1, 1) else none) else
     (bif Nat.beq pc 3 then some (.istore 4, 2) else none))) else
   (bif Nat.blt pc 8 then (bif Nat.blt pc 6 then (bif Nat.beq pc 5 then some (.iconst 0, 1) else none) else
     (bif Nat.beq pc 6 then some (.istore 5, 2) else none)) else
    (bif Nat.blt pc 10 then (bif Nat.beq pc 8 then some (.iload 5, 2) else none) else
     (bif Nat.blt pc 12 then (bif Nat.beq pc 10 then some (.bipush 24, 2) else none) else
      (bif Nat.beq pc 12 then some (.if_icmp .ge 56, 3) else none))))) else
  (bif Nat.blt pc 27 then (bif Nat.blt pc 19 then (bif Nat.blt pc 16 then (bif Nat.beq pc 15 then some (.aload_n 0, 1) else none) else
     (bif Nat.beq pc 16 then some (.getfield 26, 3) else none)) else
    (bif Nat.blt pc 21 then (bif Nat.beq pc 19 then some (.iload 4, 2) else none) else
     (bif Nat.blt pc 24 then (bif Nat.beq pc 21 then some (.invokevirtual 79, 3) else none) else
      (bif Nat.beq pc 24 then some (.ifCond .eq 44, 3) else none)))) else
   (bif Nat.blt pc 31 then (bif Nat.blt pc 28 then (bif Nat.beq pc 27 then some (.iload_n 3, 1) else none) else
     (bif Nat.beq pc 28 then some (.ifCond .lt 40, 3) else none)) else
    (bif Nat.blt pc 32 then (bif Nat.beq pc 31 then some (.iload_n 3, 1) else none) else
     (bif Nat.blt pc 34 then (bif Nat.beq pc 32 then some (.bipush 64, 2) else none) else
      (bif Nat.beq pc 34 then some (.if_icmp .ge 34, 3) else none)))))) else
 (bif Nat.blt pc 50 then (bif Nat.blt pc 45 then (bif Nat.blt pc 41 then (bif Nat.blt pc 38 then (bif Nat.beq pc 37 then some (.aload_n 0, 1) else none) else
     (bif Nat.beq pc 38 then some (.getfield 9, 3) else none)) else
    (bif Nat.blt pc 43 then (bif Nat.beq pc 41 then some (.iload 4, 2) else none) else
     (bif Nat.beq pc 43 then some (.bipush 64, 2) else none))) else
   (bif Nat.blt pc 47 then (bif Nat.blt pc 46 then (bif Nat.beq pc 45 then some (.imul, 1) else none) else
     (bif Nat.beq pc 46 then some (.iload_n 3, 1) else none)) else
    (bif Nat.blt pc 48 then (bif Nat.beq pc 47 then some (.iadd, 1) else none) else
     (bif Nat.blt pc 49 then (bif Nat.beq pc 48 then some (.iaload, 1) else none) else
      (bif Nat.beq pc 49 then some (.istore_n 3, 1) else none))))) else
  (bif Nat.blt pc 60 then (bif Nat.blt pc 54 then (bif Nat.blt pc 51 then (bif Nat.beq pc 50 then some (.aload_n 0, 1) else none) else
     (bif Nat.beq pc 51 then some (.getfield 26, 3) else none)) else
    (bif Nat.blt pc 57 then (bif Nat.beq pc 54 then some (.getfield 83, 3) else none) else
     (bif Nat.blt pc 59 then (bif Nat.beq pc 57 then some (.iload 4, 2) else none) else
      (bif Nat.beq pc 59 then some (.iaload, 1) else none)))) else
   (bif Nat.blt pc 65 then (bif Nat.blt pc 62 then (bif Nat.beq pc 60 then some (.istore 4, 2) else none) else
     (bif Nat.beq pc 62 then some (.iinc 5 1, 3) else none)) else
    (bif Nat.blt pc 68 then (bif Nat.beq pc 65 then some (.goto (-57), 3) else none) else
     (bif Nat.blt pc 69 then (bif Nat.beq pc 68 then some (.iload_n 3, 1) else none) else
      (bif Nat.beq pc 69 then some (.ireturn, 1) else none))))))) else none
set_option maxRecDepth 10000 in
noncomputable def zc_61 (pc : Nat) : Option (Instr × Nat) :=
 bif Nat.blt pc 32 then (bif Nat.blt pc 15 then (bif Nat.blt pc 5 then (bif Nat.blt pc 3 then (bif Nat.blt pc 1 then (bif Nat.beq pc 0 then some (.iload_n 1, 1) else none) else
    (bif Nat.beq pc 1 then some (.bipush 64, 2) else none)) else
   (bif Nat.blt pc 4 then (bif Nat.beq pc 3 then some (.imul, 1) else none) else
    (bif Nat.beq pc 4 then some (.iload_n 2, 1) else none))) else
  (bif Nat.blt pc 8 then (bif Nat.blt pc 6 then (bif Nat.beq pc 5 then some (.iadd, 1) else none) else
    (bif Nat.beq pc 6 then some (.istore 4, 2) else none)) else
   (bif Nat.blt pc 10 then (bif Nat.beq pc 8 then some (.iload 4, 2) else none) else
    (bif Nat.blt pc 13 then (bif Nat.beq pc 10 then some (.ifCond .lt 21, 3) else none) else
     (bif Nat.beq pc 13 then some (.iload 4, 2) else none))))) else
 (bif Nat.blt pc 24 then (bif Nat.blt pc 19 then (bif Nat.blt pc 16 then (bif Nat.beq pc 15 then some (.aload_n 0, 1) else none) else
    (bif Nat.beq pc 16 then some (.getfield 9, 3) else none)) else
   (bif Nat.blt pc 20 then (bif Nat.beq pc 19 then some (.arraylength, 1) else none) else
    (bif Nat.blt pc 23 then (bif Nat.beq pc 20 then some (.if_icmp .ge 11, 3) else none) else
     (bif Nat.beq pc 23 then some (.aload_n 0, 1) else none)))) else
  (bif Nat.blt pc 29 then (bif Nat.blt pc 27 then (bif Nat.beq pc 24 then some (.getfield 9, 3) else none) else
    (bif Nat.beq pc 27 then some (.iload 4, 2) else none)) else
   (bif Nat.blt pc 30 then (bif Nat.beq pc 29 then some (.iload_n 3, 1) else none) else
    (bif Nat.blt pc 31 then (bif Nat.beq pc 30 then some (.iastore, 1) else none) else
     (bif Nat.beq pc 31 then some (.return_, 1) else none)))))) else none
set_option maxRecDepth 10000 in
noncomputable def zc_62 (pc : Nat) : Option (Instr × Nat) :=
 bif Nat.blt pc 108 then (bif Nat.blt pc 52 then (bif Nat.blt pc 23 then (bif Nat.blt pc 13 then (bif Nat.blt pc 5 then (bif Nat.blt pc 1 then (bif Nat.beq pc 0 then some (.aload_n 0, 1) else none) else
     (bif Nat.blt pc 4 then (bif Nat.beq pc 1 then some (.getfield 26, 3) else none) else
      (bif Nat.beq pc 4 then some (.iload_n 1, 1) else none))) else
    (bif Nat.blt pc 9 then (bif Nat.blt pc 8 then (bif Nat.beq pc 5 then some (.invokevirtual 46, 3) else none) else
      (bif Nat.beq pc 8 then some (.iconst 1, 1) else none)) else
     (bif Nat.blt pc 12 then (bif Nat.beq pc 9 then some (.if_icmp .ne 7, 3) else none) else
      (bif Nat.beq pc 12 then some (.iconst 1, 1) else none)))) else
   (bif Nat.blt pc 18 then (bif Nat.blt pc 16 then (bif Nat.beq pc 13 then some (.goto 4, 3) else none) else
     (bif Nat.blt pc 17 then (bif Nat.beq pc 16 then some (.iconst 0, 1) else none) else
      (bif Nat.beq pc 17 then some (.istore_n 2, 1) else none))) else
    (bif Nat.blt pc 20 then (bif Nat.blt pc 19 then (bif Nat.beq pc 18 then some (.iconst 0, 1) else none) else
      (bif Nat.beq pc 19 then some (.istore_n 3, 1) else none)) else
     (bif Nat.blt pc 21 then (bif Nat.beq pc 20 then some (.iload_n 3, 1) else none) else
      (bif Nat.beq pc 21 then some (.bipush 64, 2) else none))))) else
  (bif Nat.blt pc 34 then (bif Nat.blt pc 30 then (bif Nat.blt pc 26 then (bif Nat.beq pc 23 then some (.if_icmp .ge 84, 3) else none) else
     (bif Nat.blt pc 27 then (bif Nat.beq pc 26 then some (.iload_n 2, 1) else none) else
      (bif Nat.beq pc 27 then some (.ifCond .ne 21, 3) else none))) else
    (bif Nat.blt pc 32 then (bif Nat.blt pc 31 then (bif Nat.beq pc 30 then some (.aload_n 0, 1) else none) else
      (bif Nat.beq pc 31 then some (.iload_n 1, 1) else none)) else
     (bif Nat.blt pc 33 then (bif Nat.beq pc 32 then some (.iload_n 3, 1) else none) else
      (bif Nat.beq pc 33 then some (.aload_n 0, 1) else none)))) else
   (bif Nat.blt pc 42 then (bif Nat.blt pc 38 then (bif Nat.blt pc 37 then (bif Nat.beq pc 34 then some (.getfield 22, 3) else none) else
      (bif Nat.beq pc 37 then some (.iload_n 1, 1) else none)) else
     (bif Nat.blt pc 39 then (bif Nat.beq pc 38 then some (.iload_n 3, 1) else none) else
      (bif Nat.beq pc 39 then some (.invokevirtual 57, 3) else none))) else
    (bif Nat.blt pc 48 then (bif Nat.blt pc 45 then (bif Nat.beq pc 42 then some (.invokevirtual 62, 3) else none) else
      (bif Nat.beq pc 45 then some (.goto 56, 3) else none)) else
     (bif Nat.blt pc 49 then (bif Nat.beq pc 48 then some (.aload_n 0, 1) else none) else
      (bif Nat.beq pc 49 then some (.getfield 22, 3) else none)))))) else
 (bif Nat.blt pc 79 then (bif Nat.blt pc 63 then (bif Nat.blt pc 57 then (bif Nat.blt pc 53 then (bif Nat.beq pc 52 then some (.iload_n 1, 1) else none) else
     (bif Nat.blt pc 54 then (bif Nat.beq pc 53 then some (.iload_n 3, 1) else none) else
      (bif Nat.beq pc 54 then some (.invokevirtual 66, 3) else none))) else
    (bif Nat.blt pc 61 then (bif Nat.blt pc 60 then (bif Nat.beq pc 57 then some (.ifCond .eq 25, 3) else none) else
      (bif Nat.beq pc 60 then some (.aload_n 0, 1) else none)) else
     (bif Nat.blt pc 62 then (bif Nat.beq pc 61 then some (.iload_n 1, 1) else none) else
      (bif Nat.beq pc 62 then some (.iload_n 3, 1) else none)))) else
   (bif Nat.blt pc 69 then (bif Nat.blt pc 65 then (bif Nat.blt pc 64 then (bif Nat.beq pc 63 then some (.aload_n 0, 1) else none) else
      (bif Nat.beq pc 64 then some (.aload_n 0, 1) else none)) else
     (bif Nat.blt pc 68 then (bif Nat.beq pc 65 then some (.getfield 26, 3) else none) else
      (bif Nat.beq pc 68 then some (.iload_n 1, 1) else none))) else
    (bif Nat.blt pc 73 then (bif Nat.blt pc 72 then (bif Nat.beq pc 69 then some (.invokevirtual 70, 3) else none) else
      (bif Nat.beq pc 72 then some (.iload_n 3, 1) else none)) else
     (bif Nat.blt pc 76 then (bif Nat.beq pc 73 then some (.invokevirtual 73, 3) else none) else
      (bif Nat.beq pc 76 then some (.invokevirtual 62, 3) else none))))) else
  (bif Nat.blt pc 90 then (bif Nat.blt pc 84 then (bif Nat.blt pc 82 then (bif Nat.beq pc 79 then some (.goto 22, 3) else none) else
     (bif Nat.blt pc 83 then (bif Nat.beq pc 82 then some (.aload_n 0, 1) else none) else
      (bif Nat.beq pc 83 then some (.iload_n 1, 1) else none))) else
    (bif Nat.blt pc 86 then (bif Nat.blt pc 85 then (bif Nat.beq pc 84 then some (.iload_n 3, 1) else none) else
      (bif Nat.beq pc 85 then some (.aload_n 0, 1) else none)) else
     (bif Nat.blt pc 87 then (bif Nat.beq pc 86 then some (.aload_n 0, 1) else none) else
      (bif Nat.beq pc 87 then some (.getfield 26, 3) else none)))) else
   (bif Nat.blt pc 98 then (bif Nat.blt pc 94 then (bif Nat.blt pc 91 then (bif Nat.beq pc 90 then some (.iload_n 1, 1) else none) else
      (bif Nat.beq pc 91 then some (.invokevirtual 76, 3) else none)) else
     (bif Nat.blt pc 95 then (bif Nat.beq pc 94 then some (.iload_n 3, 1) else none) else
      (bif Nat.beq pc 95 then some (.invokevirtual 73, 3) else none))) else
    (bif Nat.blt pc 104 then (bif Nat.blt pc 101 then (bif Nat.beq pc 98 then some (.invokevirtual 62, 3) else none) else
      (bif Nat.beq pc 101 then some (.iinc 3 1, 3) else none)) else
     (bif Nat.blt pc 107 then (bif Nat.beq pc 104 then some (.goto (-84), 3) else none) else
      (bif Nat.beq pc 107 then some (.return_, 1) else none))))))) else none
set_option maxRecDepth 10000 in
noncomputable def zc_63 (pc : Nat) : Option (Instr × Nat) :=
 bif Nat.blt pc 35 then (bif Nat.blt pc 16 then (bif Nat.blt pc 6 then (bif Nat.blt pc 3 then (bif Nat.blt pc 1 then (bif Nat.beq pc 0 then some (.iload_n 1, 1) else none) else
    (bif Nat.beq pc 1 then some (.bipush 64, 2) else none)) else
   (bif Nat.blt pc 4 then (bif Nat.beq pc 3 then some (.imul, 1) else none) else
    (bif Nat.blt pc 5 then (bif Nat.beq pc 4 then some (.iload_n 2, 1) else none) else
     (bif Nat.beq pc 5 then some (.iadd, 1) else none)))) else
  (bif Nat.blt pc 11 then (bif Nat.blt pc 7 then (bif Nat.beq pc 6 then some (.istore_n 3, 1) else none) else
    (bif Nat.blt pc 8 then (bif Nat.beq pc 7 then some (.iload_n 2, 1) else none) else
     (bif Nat.beq pc 8 then some (.ifCond .lt 25, 3) else none))) else
   (bif Nat.blt pc 12 then (bif Nat.beq pc 11 then some (.iload_n 3, 1) else none) else
    (bif Nat.blt pc 15 then (bif Nat.beq pc 12 then some (.ifCond .lt 21, 3) else none) else
     (bif Nat.beq pc 15 then some (.iload_n 3, 1) else none))))) else
 (bif Nat.blt pc 25 then (bif Nat.blt pc 20 then (bif Nat.blt pc 17 then (bif Nat.beq pc 16 then some (.aload_n 0, 1) else none) else
    (bif Nat.beq pc 17 then some (.getfield 9, 3) else none)) else
   (bif Nat.blt pc 21 then (bif Nat.beq pc 20 then some (.arraylength, 1) else none) else
    (bif Nat.blt pc 24 then (bif Nat.beq pc 21 then some (.if_icmp .ge 12, 3) else none) else
     (bif Nat.beq pc 24 then some (.aload_n 0, 1) else none)))) else
  (bif Nat.blt pc 30 then (bif Nat.blt pc 28 then (bif Nat.beq pc 25 then some (.getfield 9, 3) else none) else
    (bif Nat.blt pc 29 then (bif Nat.beq pc 28 then some (.iload_n 3, 1) else none) else
     (bif Nat.beq pc 29 then some (.iaload, 1) else none))) else
   (bif Nat.blt pc 33 then (bif Nat.beq pc 30 then some (.goto 4, 3) else none) else
    (bif Nat.blt pc 34 then (bif Nat.beq pc 33 then some (.iconst (-1), 1) else none) else
     (bif Nat.beq pc 34 then some (.ireturn, 1) else none)))))) else none
set_option maxRecDepth 10000 in
noncomputable def zc_64 (pc : Nat) : Option (Instr × Nat) :=
 bif Nat.blt pc 60 then (bif Nat.blt pc 30 then (bif Nat.blt pc 11 then (bif Nat.blt pc 4 then (bif Nat.blt pc 2 then (bif Nat.blt pc 1 then (bif Nat.beq pc 0 then some (.lconst 0, 1) else none) else
     (bif Nat.beq pc 1 then some (.lstore_n 1, 1) else none)) else
    (bif Nat.blt pc 3 then (bif Nat.beq pc 2 then some (.iconst 0, 1) else none) else
     (bif Nat.beq pc 3 then some (.istore_n 3, 1) else none))) else
   (bif Nat.blt pc 7 then (bif Nat.blt pc 5 then (bif Nat.beq pc 4 then some (.iload_n 3, 1) else none) else
     (bif Nat.beq pc 5 then some (.bipush 64, 2) else none)) else
    (bif Nat.blt pc 10 then (bif Nat.beq pc 7 then some (.if_icmp .ge 43, 3) else none) else
     (bif Nat.beq pc 10 then some (.aload_n 0, 1) else none)))) else
  (bif Nat.blt pc 19 then (bif Nat.blt pc 15 then (bif Nat.blt pc 12 then (bif Nat.beq pc 11 then some (.iload_n 3, 1) else none) else
     (bif Nat.beq pc 12 then some (.invokevirtual 97, 3) else none)) else
    (bif Nat.blt pc 17 then (bif Nat.beq pc 15 then some (.istore 4, 2) else none) else
     (bif Nat.beq pc 17 then some (.iload 4, 2) else none))) else
   (bif Nat.blt pc 23 then (bif Nat.blt pc 20 then (bif Nat.beq pc 19 then some (.iconst (-1), 1) else none) else
     (bif Nat.beq pc 20 then some (.if_icmp .eq 18, 3) else none)) else
    (bif Nat.blt pc 24 then (bif Nat.beq pc 23 then some (.aload_n 0, 1) else none) else
     (bif Nat.blt pc 27 then (bif Nat.beq pc 24 then some (.getfield 22, 3) else none) else
      (bif Nat.beq pc 27 then some (.getfield 162, 3) else none)))))) else
 (bif Nat.blt pc 43 then (bif Nat.blt pc 39 then (bif Nat.blt pc 35 then (bif Nat.blt pc 32 then (bif Nat.beq pc 30 then some (.iload 4, 2) else none) else
     (bif Nat.beq pc 32 then some (.invokestatic 94, 3) else none)) else
    (bif Nat.blt pc 38 then (bif Nat.beq pc 35 then some (.ifCond .ne 9, 3) else none) else
     (bif Nat.beq pc 38 then some (.lload_n 1, 1) else none))) else
   (bif Nat.blt pc 41 then (bif Nat.blt pc 40 then (bif Nat.beq pc 39 then some (.lconst 1, 1) else none) else
     (bif Nat.beq pc 40 then some (.iload_n 3, 1) else none)) else
    (bif Nat.blt pc 42 then (bif Nat.beq pc 41 then some (.lshl, 1) else none) else
     (bif Nat.beq pc 42 then some (.lor, 1) else none)))) else
  (bif Nat.blt pc 51 then (bif Nat.blt pc 47 then (bif Nat.blt pc 44 then (bif Nat.beq pc 43 then some (.lstore_n 1, 1) else none) else
     (bif Nat.beq pc 44 then some (.iinc 3 1, 3) else none)) else
    (bif Nat.blt pc 50 then (bif Nat.beq pc 47 then some (.goto (-43), 3) else none) else
     (bif Nat.beq pc 50 then some (.lload_n 1, 1) else none))) else
   (bif Nat.blt pc 55 then (bif Nat.blt pc 52 then (bif Nat.beq pc 51 then some (.aload_n 0, 1) else none) else
     (bif Nat.beq pc 52 then some (.getfield 22, 3) else none)) else
    (bif Nat.blt pc 58 then (bif Nat.beq pc 55 then some (.getfield 90, 3) else none) else
     (bif Nat.blt pc 59 then (bif Nat.beq pc 58 then some (.land, 1) else none) else
      (bif Nat.beq pc 59 then some (.lreturn, 1) else none))))))) else none
set_option maxRecDepth 10000 in
noncomputable def zc_65 (pc : Nat) : Option (Instr × Nat) :=
 bif Nat.blt pc 13 then (bif Nat.blt pc 5 then (bif Nat.blt pc 1 then (bif Nat.beq pc 0 then some (.aload_n 0, 1) else none) else
  (bif Nat.blt pc 2 then (bif Nat.beq pc 1 then some (.aload_n 0, 1) else none) else
   (bif Nat.beq pc 2 then some (.getfield 26, 3) else none))) else
 (bif Nat.blt pc 9 then (bif Nat.blt pc 8 then (bif Nat.beq pc 5 then some (.invokevirtual 86, 3) else none) else
   (bif Nat.beq pc 8 then some (.iload_n 1, 1) else none)) else
  (bif Nat.blt pc 12 then (bif Nat.beq pc 9 then some (.invokevirtual 73, 3) else none) else
   (bif Nat.beq pc 12 then some (.ireturn, 1) else none)))) else none
set_option maxRecDepth 10000 in
noncomputable def zc_66 (pc : Nat) : Option (Instr × Nat) :=
 bif Nat.blt pc 51 then (bif Nat.blt pc 23 then (bif Nat.blt pc 8 then (bif Nat.blt pc 4 then (bif Nat.blt pc 1 then (bif Nat.beq pc 0 then some (.iconst (-1), 1) else none) else
    (bif Nat.blt pc 2 then (bif Nat.beq pc 1 then some (.istore_n 1, 1) else none) else
     (bif Nat.beq pc 2 then some (.ldc 149, 2) else none))) else
   (bif Nat.blt pc 6 then (bif Nat.blt pc 5 then (bif Nat.beq pc 4 then some (.fstore_n 2, 1) else none) else
     (bif Nat.beq pc 5 then some (.iconst 0, 1) else none)) else
    (bif Nat.blt pc 7 then (bif Nat.beq pc 6 then some (.istore_n 3, 1) else none) else
     (bif Nat.beq pc 7 then some (.iload_n 3, 1) else none)))) else
  (bif Nat.blt pc 15 then (bif Nat.blt pc 13 then (bif Nat.blt pc 10 then (bif Nat.beq pc 8 then some (.bipush 64, 2) else none) else
     (bif Nat.beq pc 10 then some (.if_icmp .ge 39, 3) else none)) else
    (bif Nat.blt pc 14 then (bif Nat.beq pc 13 then some (.aload_n 0, 1) else none) else
     (bif Nat.beq pc 14 then some (.iload_n 3, 1) else none))) else
   (bif Nat.blt pc 21 then (bif Nat.blt pc 18 then (bif Nat.beq pc 15 then some (.invokevirtual 150, 3) else none) else
     (bif Nat.beq pc 18 then some (.ifCond .eq 25, 3) else none)) else
    (bif Nat.blt pc 22 then (bif Nat.beq pc 21 then some (.aload_n 0, 1) else none) else
     (bif Nat.beq pc 22 then some (.iload_n 3, 1) else none))))) else
 (bif Nat.blt pc 37 then (bif Nat.blt pc 31 then (bif Nat.blt pc 27 then (bif Nat.blt pc 24 then (bif Nat.beq pc 23 then some (.iconst (-1), 1) else none) else
     (bif Nat.beq pc 24 then some (.invokevirtual 145, 3) else none)) else
    (bif Nat.blt pc 28 then (bif Nat.beq pc 27 then some (.aload_n 0, 1) else none) else
     (bif Nat.beq pc 28 then some (.getfield 116, 3) else none))) else
   (bif Nat.blt pc 33 then (bif Nat.blt pc 32 then (bif Nat.beq pc 31 then some (.fload_n 2, 1) else none) else
     (bif Nat.beq pc 32 then some (.fcmp .l, 1) else none)) else
    (bif Nat.blt pc 36 then (bif Nat.beq pc 33 then some (.ifCond .le 10, 3) else none) else
     (bif Nat.beq pc 36 then some (.aload_n 0, 1) else none)))) else
  (bif Nat.blt pc 43 then (bif Nat.blt pc 41 then (bif Nat.blt pc 40 then (bif Nat.beq pc 37 then some (.getfield 116, 3) else none) else
     (bif Nat.beq pc 40 then some (.fstore_n 2, 1) else none)) else
    (bif Nat.blt pc 42 then (bif Nat.beq pc 41 then some (.iload_n 3, 1) else none) else
     (bif Nat.beq pc 42 then some (.istore_n 1, 1) else none))) else
   (bif Nat.blt pc 49 then (bif Nat.blt pc 46 then (bif Nat.beq pc 43 then some (.iinc 3 1, 3) else none) else
     (bif Nat.beq pc 46 then some (.goto (-39), 3) else none)) else
    (bif Nat.blt pc 50 then (bif Nat.beq pc 49 then some (.iload_n 1, 1) else none) else
     (bif Nat.beq pc 50 then some (.ireturn, 1) else none)))))) else none
set_option maxRecDepth 10000 in
noncomputable def zc_67 (pc : Nat) : Option (Instr × Nat) :=
 bif Nat.blt pc 29 then (bif Nat.blt pc 15 then (bif Nat.blt pc 7 then (bif Nat.blt pc 1 then (bif Nat.beq pc 0 then some (.aload_n 0, 1) else none) else
   (bif Nat.blt pc 4 then (bif Nat.beq pc 1 then some (.getfield 22, 3) else none) else
    (bif Nat.beq pc 4 then some (.getfield 90, 3) else none))) else
  (bif Nat.blt pc 11 then (bif Nat.blt pc 8 then (bif Nat.beq pc 7 then some (.iload_n 1, 1) else none) else
    (bif Nat.beq pc 8 then some (.invokestatic 94, 3) else none)) else
   (bif Nat.blt pc 14 then (bif Nat.beq pc 11 then some (.ifCond .eq 16, 3) else none) else
    (bif Nat.beq pc 14 then some (.aload_n 0, 1) else none)))) else
 (bif Nat.blt pc 23 then (bif Nat.blt pc 19 then (bif Nat.blt pc 16 then (bif Nat.beq pc 15 then some (.iload_n 1, 1) else none) else
    (bif Nat.beq pc 16 then some (.invokevirtual 97, 3) else none)) else
   (bif Nat.blt pc 20 then (bif Nat.beq pc 19 then some (.iconst (-1), 1) else none) else
    (bif Nat.beq pc 20 then some (.if_icmp .eq 7, 3) else none))) else
  (bif Nat.blt pc 27 then (bif Nat.blt pc 24 then (bif Nat.beq pc 23 then some (.iconst 1, 1) else none) else
    (bif Nat.beq pc 24 then some (.goto 4, 3) else none)) else
   (bif Nat.blt pc 28 then (bif Nat.beq pc 27 then some (.iconst 0, 1) else none) else
    (bif Nat.beq pc 28 then some (.ireturn, 1) else none))))) else none
set_option maxRecDepth 10000 in
noncomputable def zc_68 (pc : Nat) : Option (Instr × Nat) :=
 bif Nat.blt pc 128 then (bif Nat.blt pc 60 then (bif Nat.blt pc 29 then (bif Nat.blt pc 12 then (bif Nat.blt pc 6 then (bif Nat.blt pc 2 then (bif Nat.blt pc 1 then (bif Nat.beq pc 0 then some (.aload_n 0, 1) else none) else
      (bif Nat.beq pc 1 then some (.iconst 0, 1) else none)) else
     (bif Nat.blt pc 5 then (bif Nat.beq pc 2 then some (.putfield 113, 3) else none) else
      (bif Nat.beq pc 5 then some (.aload_n 0, 1) else none))) else
    (bif Nat.blt pc 10 then (bif Nat.blt pc 7 then (bif Nat.beq pc 6 then some (.fconst 0, 1) else none) else
      (bif Nat.beq pc 7 then some (.putfield 116, 3) else none)) else
     (bif Nat.blt pc 11 then (bif Nat.beq pc 10 then some (.aload_n 0, 1) else none) else
      (bif Nat.beq pc 11 then some (.iconst 0, 1) else none)))) else
   (bif Nat.blt pc 20 then (bif Nat.blt pc 16 then (bif Nat.blt pc 15 then (bif Nat.beq pc 12 then some (.putfield 120, 3) else none) else
      (bif Nat.beq pc 15 then some (.aload_n 0, 1) else none)) else
     (bif Nat.blt pc 17 then (bif Nat.beq pc 16 then some (.iconst 0, 1) else none) else
      (bif Nat.beq pc 17 then some (.putfield 123, 3) else none))) else
    (bif Nat.blt pc 22 then (bif Nat.blt pc 21 then (bif Nat.beq pc 20 then some (.iload_n 1, 1) else none) else
      (bif Nat.beq pc 21 then some (.istore_n 3, 1) else none)) else
     (bif Nat.blt pc 23 then (bif Nat.beq pc 22 then some (.aload_n 0, 1) else none) else
      (bif Nat.blt pc 26 then (bif Nat.beq pc 23 then some (.getfield 26, 3) else none) else
       (bif Nat.beq pc 26 then some (.invokevirtual 86, 3) else none)))))) else
  (bif Nat.blt pc 45 then (bif Nat.blt pc 36 then (bif Nat.blt pc 32 then (bif Nat.blt pc 31 then (bif Nat.beq pc 29 then some (.istore 4, 2) else none) else
      (bif Nat.beq pc 31 then some (.iconst 0, 1) else none)) else
     (bif Nat.blt pc 34 then (bif Nat.beq pc 32 then some (.istore 5, 2) else none) else
      (bif Nat.beq pc 34 then some (.iload 5, 2) else none))) else
    (bif Nat.blt pc 42 then (bif Nat.blt pc 39 then (bif Nat.beq pc 36 then some (.sipush 1536, 3) else none) else
      (bif Nat.beq pc 39 then some (.if_icmp .ge 88, 3) else none)) else
     (bif Nat.blt pc 44 then (bif Nat.beq pc 42 then some (.iload 4, 2) else none) else
      (bif Nat.beq pc 44 then some (.iconst (-1), 1) else none)))) else
   (bif Nat.blt pc 53 then (bif Nat.blt pc 49 then (bif Nat.blt pc 48 then (bif Nat.beq pc 45 then some (.if_icmp .eq 82, 3) else none) else
      (bif Nat.beq pc 48 then some (.aload_n 0, 1) else none)) else
     (bif Nat.blt pc 50 then (bif Nat.beq pc 49 then some (.dup, 1) else none) else
      (bif Nat.beq pc 50 then some (.getfield 113, 3) else none))) else
    (bif Nat.blt pc 55 then (bif Nat.blt pc 54 then (bif Nat.beq pc 53 then some (.iconst 1, 1) else none) else
      (bif Nat.beq pc 54 then some (.iadd, 1) else none)) else
     (bif Nat.blt pc 58 then (bif Nat.beq pc 55 then some (.putfield 113, 3) else none) else
      (bif Nat.blt pc 59 then (bif Nat.beq pc 58 then some (.aload_n 0, 1) else none) else
       (bif Nat.beq pc 59 then some (.aload_n 0, 1) else none))))))) else
 (bif Nat.blt pc 93 then (bif Nat.blt pc 76 then (bif Nat.blt pc 69 then (bif Nat.blt pc 64 then (bif Nat.blt pc 63 then (bif Nat.beq pc 60 then some (.getfield 116, 3) else none) else
      (bif Nat.beq pc 63 then some (.aload_n 0, 1) else none)) else
     (bif Nat.blt pc 67 then (bif Nat.beq pc 64 then some (.getfield 30, 3) else none) else
      (bif Nat.beq pc 67 then some (.iload 4, 2) else none))) else
    (bif Nat.blt pc 73 then (bif Nat.blt pc 72 then (bif Nat.beq pc 69 then some (.invokevirtual 126, 3) else none) else
      (bif Nat.beq pc 72 then some (.i2f, 1) else none)) else
     (bif Nat.blt pc 75 then (bif Nat.beq pc 73 then some (.ldc 131, 2) else none) else
      (bif Nat.beq pc 75 then some (.fdiv, 1) else none)))) else
   (bif Nat.blt pc 83 then (bif Nat.blt pc 80 then (bif Nat.blt pc 77 then (bif Nat.beq pc 76 then some (.fadd, 1) else none) else
      (bif Nat.beq pc 77 then some (.putfield 116, 3) else none)) else
     (bif Nat.blt pc 82 then (bif Nat.beq pc 80 then some (.iload 4, 2) else none) else
      (bif Nat.beq pc 82 then some (.iload_n 2, 1) else none))) else
    (bif Nat.blt pc 87 then (bif Nat.blt pc 86 then (bif Nat.beq pc 83 then some (.if_icmp .ne 17, 3) else none) else
      (bif Nat.beq pc 86 then some (.aload_n 0, 1) else none)) else
     (bif Nat.blt pc 88 then (bif Nat.beq pc 87 then some (.aload_n 0, 1) else none) else
      (bif Nat.blt pc 91 then (bif Nat.beq pc 88 then some (.getfield 22, 3) else none) else
       (bif Nat.beq pc 91 then some (.iload 4, 2) else none)))))) else
  (bif Nat.blt pc 110 then (bif Nat.blt pc 101 then (bif Nat.blt pc 97 then (bif Nat.blt pc 94 then (bif Nat.beq pc 93 then some (.iload_n 3, 1) else none) else
      (bif Nat.beq pc 94 then some (.invokevirtual 66, 3) else none)) else
     (bif Nat.blt pc 100 then (bif Nat.beq pc 97 then some (.invokevirtual 132, 3) else none) else
      (bif Nat.beq pc 100 then some (.aload_n 0, 1) else none))) else
    (bif Nat.blt pc 104 then (bif Nat.blt pc 103 then (bif Nat.beq pc 101 then some (.iload 4, 2) else none) else
      (bif Nat.beq pc 103 then some (.iload_n 3, 1) else none)) else
     (bif Nat.blt pc 107 then (bif Nat.beq pc 104 then some (.invokevirtual 136, 3) else none) else
      (bif Nat.blt pc 109 then (bif Nat.beq pc 107 then some (.istore 6, 2) else none) else
       (bif Nat.beq pc 109 then some (.aload_n 0, 1) else none))))) else
   (bif Nat.blt pc 117 then (bif Nat.blt pc 113 then (bif Nat.blt pc 112 then (bif Nat.beq pc 110 then some (.iload 4, 2) else none) else
      (bif Nat.beq pc 112 then some (.iload_n 3, 1) else none)) else
     (bif Nat.blt pc 116 then (bif Nat.beq pc 113 then some (.invokevirtual 139, 3) else none) else
      (bif Nat.beq pc 116 then some (.istore_n 3, 1) else none))) else
    (bif Nat.blt pc 121 then (bif Nat.blt pc 119 then (bif Nat.beq pc 117 then some (.iload 6, 2) else none) else
      (bif Nat.beq pc 119 then some (.istore 4, 2) else none)) else
     (bif Nat.blt pc 124 then (bif Nat.beq pc 121 then some (.iinc 5 1, 3) else none) else
      (bif Nat.blt pc 127 then (bif Nat.beq pc 124 then some (.goto (-90), 3) else none) else
       (bif Nat.beq pc 127 then some (.return_, 1) else none)))))))) else none
set_option maxRecDepth 10000 in
noncomputable def zc_69 (pc : Nat) : Option (Instr × Nat) :=
 bif Nat.blt pc 34 then (bif Nat.blt pc 15 then (bif Nat.blt pc 6 then (bif Nat.blt pc 2 then (bif Nat.blt pc 1 then (bif Nat.beq pc 0 then some (.aload_n 0, 1) else none) else
    (bif Nat.beq pc 1 then some (.iload_n 1, 1) else none)) else
   (bif Nat.blt pc 5 then (bif Nat.beq pc 2 then some (.ifCond .eq 12, 3) else none) else
    (bif Nat.beq pc 5 then some (.aload_n 0, 1) else none))) else
  (bif Nat.blt pc 10 then (bif Nat.blt pc 9 then (bif Nat.beq pc 6 then some (.getfield 120, 3) else none) else
    (bif Nat.beq pc 9 then some (.iconst 1, 1) else none)) else
   (bif Nat.blt pc 11 then (bif Nat.beq pc 10 then some (.iadd, 1) else none) else
    (bif Nat.blt pc 14 then (bif Nat.beq pc 11 then some (.goto 4, 3) else none) else
     (bif Nat.beq pc 14 then some (.iconst 0, 1) else none))))) else
 (bif Nat.blt pc 23 then (bif Nat.blt pc 19 then (bif Nat.blt pc 18 then (bif Nat.beq pc 15 then some (.putfield 120, 3) else none) else
    (bif Nat.beq pc 18 then some (.aload_n 0, 1) else none)) else
   (bif Nat.blt pc 20 then (bif Nat.beq pc 19 then some (.aload_n 0, 1) else none) else
    (bif Nat.beq pc 20 then some (.getfield 123, 3) else none))) else
  (bif Nat.blt pc 27 then (bif Nat.blt pc 24 then (bif Nat.beq pc 23 then some (.aload_n 0, 1) else none) else
    (bif Nat.beq pc 24 then some (.getfield 120, 3) else none)) else
   (bif Nat.blt pc 30 then (bif Nat.beq pc 27 then some (.invokestatic 142, 3) else none) else
    (bif Nat.blt pc 33 then (bif Nat.beq pc 30 then some (.putfield 123, 3) else none) else
     (bif Nat.beq pc 33 then some (.return_, 1) else none)))))) else none
set_option maxRecDepth 10000 in
noncomputable def zc_70 (pc : Nat) : Option (Instr × Nat) :=
 bif Nat.blt pc 37 then (bif Nat.blt pc 17 then (bif Nat.blt pc 8 then (bif Nat.blt pc 2 then (bif Nat.blt pc 1 then (bif Nat.beq pc 0 then some (.aload_n 0, 1) else none) else
    (bif Nat.beq pc 1 then some (.iload_n 1, 1) else none)) else
   (bif Nat.blt pc 5 then (bif Nat.beq pc 2 then some (.invokevirtual 100, 3) else none) else
    (bif Nat.beq pc 5 then some (.ifCond .eq 23, 3) else none))) else
  (bif Nat.blt pc 12 then (bif Nat.blt pc 9 then (bif Nat.beq pc 8 then some (.aload_n 0, 1) else none) else
    (bif Nat.beq pc 9 then some (.getfield 26, 3) else none)) else
   (bif Nat.blt pc 13 then (bif Nat.beq pc 12 then some (.iload_n 1, 1) else none) else
    (bif Nat.blt pc 14 then (bif Nat.beq pc 13 then some (.aload_n 0, 1) else none) else
     (bif Nat.beq pc 14 then some (.getfield 22, 3) else none))))) else
 (bif Nat.blt pc 28 then (bif Nat.blt pc 19 then (bif Nat.blt pc 18 then (bif Nat.beq pc 17 then some (.iload_n 1, 1) else none) else
    (bif Nat.beq pc 18 then some (.iload_n 2, 1) else none)) else
   (bif Nat.blt pc 22 then (bif Nat.beq pc 19 then some (.invokevirtual 66, 3) else none) else
    (bif Nat.blt pc 25 then (bif Nat.beq pc 22 then some (.invokevirtual 103, 3) else none) else
     (bif Nat.beq pc 25 then some (.goto 11, 3) else none)))) else
  (bif Nat.blt pc 32 then (bif Nat.blt pc 29 then (bif Nat.beq pc 28 then some (.aload_n 0, 1) else none) else
    (bif Nat.beq pc 29 then some (.getfield 26, 3) else none)) else
   (bif Nat.blt pc 33 then (bif Nat.beq pc 32 then some (.iload_n 1, 1) else none) else
    (bif Nat.blt pc 36 then (bif Nat.beq pc 33 then some (.invokevirtual 107, 3) else none) else
     (bif Nat.beq pc 36 then some (.ireturn, 1) else none)))))) else none
set_option maxRecDepth 10000 in
noncomputable def zc_71 (pc : Nat) : Option (Instr × Nat) :=
 bif Nat.blt pc 25 then (bif Nat.blt pc 11 then (bif Nat.blt pc 5 then (bif Nat.blt pc 1 then (bif Nat.beq pc 0 then some (.aload_n 0, 1) else none) else
   (bif Nat.blt pc 4 then (bif Nat.beq pc 1 then some (.getfield 26, 3) else none) else
    (bif Nat.beq pc 4 then some (.iload_n 1, 1) else none))) else
  (bif Nat.blt pc 9 then (bif Nat.blt pc 8 then (bif Nat.beq pc 5 then some (.invokevirtual 46, 3) else none) else
    (bif Nat.beq pc 8 then some (.istore_n 2, 1) else none)) else
   (bif Nat.blt pc 10 then (bif Nat.beq pc 9 then some (.iload_n 2, 1) else none) else
    (bif Nat.beq pc 10 then some (.iconst 1, 1) else none)))) else
 (bif Nat.blt pc 19 then (bif Nat.blt pc 15 then (bif Nat.blt pc 14 then (bif Nat.beq pc 11 then some (.if_icmp .eq 8, 3) else none) else
    (bif Nat.beq pc 14 then some (.iload_n 2, 1) else none)) else
   (bif Nat.blt pc 16 then (bif Nat.beq pc 15 then some (.iconst 2, 1) else none) else
    (bif Nat.beq pc 16 then some (.if_icmp .ne 7, 3) else none))) else
  (bif Nat.blt pc 23 then (bif Nat.blt pc 20 then (bif Nat.beq pc 19 then some (.iconst 1, 1) else none) else
    (bif Nat.beq pc 20 then some (.goto 4, 3) else none)) else
   (bif Nat.blt pc 24 then (bif Nat.beq pc 23 then some (.iconst 0, 1) else none) else
    (bif Nat.beq pc 24 then some (.ireturn, 1) else none))))) else none
set_option maxRecDepth 10000 in
noncomputable def zc_72 (pc : Nat) : Option (Instr × Nat) :=
 bif Nat.blt pc 19 then (bif Nat.blt pc 9 then (bif Nat.blt pc 2 then (bif Nat.blt pc 1 then (bif Nat.beq pc 0 then some (.aload_n 0, 1) else none) else
   (bif Nat.beq pc 1 then some (.iload_n 1, 1) else none)) else
  (bif Nat.blt pc 5 then (bif Nat.beq pc 2 then some (.invokevirtual 100, 3) else none) else
   (bif Nat.blt pc 8 then (bif Nat.beq pc 5 then some (.ifCond .eq 7, 3) else none) else
    (bif Nat.beq pc 8 then some (.iload_n 2, 1) else none)))) else
 (bif Nat.blt pc 14 then (bif Nat.blt pc 12 then (bif Nat.beq pc 9 then some (.goto 9, 3) else none) else
   (bif Nat.blt pc 13 then (bif Nat.beq pc 12 then some (.aload_n 0, 1) else none) else
    (bif Nat.beq pc 13 then some (.iload_n 1, 1) else none))) else
  (bif Nat.blt pc 15 then (bif Nat.beq pc 14 then some (.iload_n 2, 1) else none) else
   (bif Nat.blt pc 18 then (bif Nat.beq pc 15 then some (.invokevirtual 110, 3) else none) else
    (bif Nat.beq pc 18 then some (.ireturn, 1) else none))))) else none
set_option maxRecDepth 10000 in
noncomputable def zc_73 (pc : Nat) : Option (Instr × Nat) :=
 bif Nat.blt pc 60 then (bif Nat.blt pc 30 then (bif Nat.blt pc 11 then (bif Nat.blt pc 4 then (bif Nat.blt pc 2 then (bif Nat.blt pc 1 then (bif Nat.beq pc 0 then some (.dconst 0, 1) else none) else
     (bif Nat.beq pc 1 then some (.dstore_n 1, 1) else none)) else
    (bif Nat.blt pc 3 then (bif Nat.beq pc 2 then some (.iconst 0, 1) else none) else
     (bif Nat.beq pc 3 then some (.istore_n 3, 1) else none))) else
   (bif Nat.blt pc 7 then (bif Nat.blt pc 5 then (bif Nat.beq pc 4 then some (.iconst 0, 1) else none) else
     (bif Nat.beq pc 5 then some (.istore 4, 2) else none)) else
    (bif Nat.blt pc 9 then (bif Nat.beq pc 7 then some (.iload 4, 2) else none) else
     (bif Nat.beq pc 9 then some (.bipush 64, 2) else none)))) else
  (bif Nat.blt pc 20 then (bif Nat.blt pc 15 then (bif Nat.blt pc 14 then (bif Nat.beq pc 11 then some (.if_icmp .ge 36, 3) else none) else
     (bif Nat.beq pc 14 then some (.aload_n 0, 1) else none)) else
    (bif Nat.blt pc 17 then (bif Nat.beq pc 15 then some (.iload 4, 2) else none) else
     (bif Nat.beq pc 17 then some (.invokevirtual 150, 3) else none))) else
   (bif Nat.blt pc 24 then (bif Nat.blt pc 23 then (bif Nat.beq pc 20 then some (.ifCond .eq 21, 3) else none) else
     (bif Nat.beq pc 23 then some (.aload_n 0, 1) else none)) else
    (bif Nat.blt pc 26 then (bif Nat.beq pc 24 then some (.iload 4, 2) else none) else
     (bif Nat.blt pc 27 then (bif Nat.beq pc 26 then some (.iconst (-1), 1) else none) else
      (bif Nat.beq pc 27 then some (.invokevirtual 145, 3) else none)))))) else
 (bif Nat.blt pc 47 then (bif Nat.blt pc 36 then (bif Nat.blt pc 32 then (bif Nat.blt pc 31 then (bif Nat.beq pc 30 then some (.dload_n 1, 1) else none) else
     (bif Nat.beq pc 31 then some (.aload_n 0, 1) else none)) else
    (bif Nat.blt pc 35 then (bif Nat.beq pc 32 then some (.getfield 116, 3) else none) else
     (bif Nat.beq pc 35 then some (.f2d, 1) else none))) else
   (bif Nat.blt pc 38 then (bif Nat.blt pc 37 then (bif Nat.beq pc 36 then some (.dadd, 1) else none) else
     (bif Nat.beq pc 37 then some (.dstore_n 1, 1) else none)) else
    (bif Nat.blt pc 41 then (bif Nat.beq pc 38 then some (.iinc 3 1, 3) else none) else
     (bif Nat.blt pc 44 then (bif Nat.beq pc 41 then some (.iinc 4 1, 3) else none) else
      (bif Nat.beq pc 44 then some (.goto (-37), 3) else none))))) else
  (bif Nat.blt pc 55 then (bif Nat.blt pc 51 then (bif Nat.blt pc 48 then (bif Nat.beq pc 47 then some (.iload_n 3, 1) else none) else
     (bif Nat.beq pc 48 then some (.ifCond .ne 7, 3) else none)) else
    (bif Nat.blt pc 52 then (bif Nat.beq pc 51 then some (.dconst 0, 1) else none) else
     (bif Nat.beq pc 52 then some (.goto 7, 3) else none))) else
   (bif Nat.blt pc 57 then (bif Nat.blt pc 56 then (bif Nat.beq pc 55 then some (.dload_n 1, 1) else none) else
     (bif Nat.beq pc 56 then some (.iload_n 3, 1) else none)) else
    (bif Nat.blt pc 58 then (bif Nat.beq pc 57 then some (.i2d, 1) else none) else
     (bif Nat.blt pc 59 then (bif Nat.beq pc 58 then some (.ddiv, 1) else none) else
      (bif Nat.beq pc 59 then some (.dreturn, 1) else none))))))) else none
set_option maxRecDepth 10000 in
noncomputable def zc_74 (pc : Nat) : Option (Instr × Nat) :=
 bif Nat.blt pc 106 then (bif Nat.blt pc 53 then (bif Nat.blt pc 26 then (bif Nat.blt pc 9 then (bif Nat.blt pc 3 then (bif Nat.blt pc 1 then (bif Nat.beq pc 0 then some (.dload_n 0, 1) else none) else
     (bif Nat.blt pc 2 then (bif Nat.beq pc 1 then some (.dconst 0, 1) else none) else
      (bif Nat.beq pc 2 then some (.dcmp .g, 1) else none))) else
    (bif Nat.blt pc 7 then (bif Nat.blt pc 6 then (bif Nat.beq pc 3 then some (.ifCond .gt 5, 3) else none) else
      (bif Nat.beq pc 6 then some (.lconst 0, 1) else none)) else
     (bif Nat.blt pc 8 then (bif Nat.beq pc 7 then some (.lreturn, 1) else none) else
      (bif Nat.beq pc 8 then some (.dload_n 0, 1) else none)))) else
   (bif Nat.blt pc 16 then (bif Nat.blt pc 13 then (bif Nat.blt pc 10 then (bif Nat.beq pc 9 then some (.dstore_n 2, 1) else none) else
      (bif Nat.beq pc 10 then some (.ldc2_w 167, 3) else none)) else
     (bif Nat.blt pc 15 then (bif Nat.beq pc 13 then some (.lstore 4, 2) else none) else
      (bif Nat.beq pc 15 then some (.iconst 0, 1) else none))) else
    (bif Nat.blt pc 20 then (bif Nat.blt pc 18 then (bif Nat.beq pc 16 then some (.istore 6, 2) else none) else
      (bif Nat.beq pc 18 then some (.iload 6, 2) else none)) else
     (bif Nat.blt pc 23 then (bif Nat.beq pc 20 then some (.sipush 2000, 3) else none) else
      (bif Nat.beq pc 23 then some (.if_icmp .ge 29, 3) else none))))) else
  (bif Nat.blt pc 39 then (bif Nat.blt pc 31 then (bif Nat.blt pc 27 then (bif Nat.beq pc 26 then some (.dload_n 2, 1) else none) else
     (bif Nat.blt pc 30 then (bif Nat.beq pc 27 then some (.ldc2_w 169, 3) else none) else
      (bif Nat.beq pc 30 then some (.dcmp .l, 1) else none))) else
    (bif Nat.blt pc 35 then (bif Nat.blt pc 34 then (bif Nat.beq pc 31 then some (.ifCond .lt 21, 3) else none) else
      (bif Nat.beq pc 34 then some (.dload_n 2, 1) else none)) else
     (bif Nat.blt pc 38 then (bif Nat.beq pc 35 then some (.ldc2_w 169, 3) else none) else
      (bif Nat.beq pc 38 then some (.ddiv, 1) else none)))) else
   (bif Nat.blt pc 44 then (bif Nat.blt pc 42 then (bif Nat.blt pc 40 then (bif Nat.beq pc 39 then some (.dstore_n 2, 1) else none) else
      (bif Nat.beq pc 40 then some (.lload 4, 2) else none)) else
     (bif Nat.blt pc 43 then (bif Nat.beq pc 42 then some (.lconst 1, 1) else none) else
      (bif Nat.beq pc 43 then some (.ladd, 1) else none))) else
    (bif Nat.blt pc 49 then (bif Nat.blt pc 46 then (bif Nat.beq pc 44 then some (.lstore 4, 2) else none) else
      (bif Nat.beq pc 46 then some (.iinc 6 1, 3) else none)) else
     (bif Nat.blt pc 52 then (bif Nat.beq pc 49 then some (.goto (-31), 3) else none) else
      (bif Nat.beq pc 52 then some (.iconst 0, 1) else none)))))) else
 (bif Nat.blt pc 79 then (bif Nat.blt pc 66 then (bif Nat.blt pc 60 then (bif Nat.blt pc 55 then (bif Nat.beq pc 53 then some (.istore 6, 2) else none) else
     (bif Nat.blt pc 57 then (bif Nat.beq pc 55 then some (.iload 6, 2) else none) else
      (bif Nat.beq pc 57 then some (.sipush 2000, 3) else none))) else
    (bif Nat.blt pc 64 then (bif Nat.blt pc 63 then (bif Nat.beq pc 60 then some (.if_icmp .ge 27, 3) else none) else
      (bif Nat.beq pc 63 then some (.dload_n 2, 1) else none)) else
     (bif Nat.blt pc 65 then (bif Nat.beq pc 64 then some (.dconst 1, 1) else none) else
      (bif Nat.beq pc 65 then some (.dcmp .g, 1) else none)))) else
   (bif Nat.blt pc 74 then (bif Nat.blt pc 70 then (bif Nat.blt pc 69 then (bif Nat.beq pc 66 then some (.ifCond .ge 21, 3) else none) else
      (bif Nat.beq pc 69 then some (.dload_n 2, 1) else none)) else
     (bif Nat.blt pc 73 then (bif Nat.beq pc 70 then some (.ldc2_w 169, 3) else none) else
      (bif Nat.beq pc 73 then some (.dmul, 1) else none))) else
    (bif Nat.blt pc 77 then (bif Nat.blt pc 75 then (bif Nat.beq pc 74 then some (.dstore_n 2, 1) else none) else
      (bif Nat.beq pc 75 then some (.lload 4, 2) else none)) else
     (bif Nat.blt pc 78 then (bif Nat.beq pc 77 then some (.lconst 1, 1) else none) else
      (bif Nat.beq pc 78 then some (.lsub, 1) else none))))) else
  (bif Nat.blt pc 94 then (bif Nat.blt pc 88 then (bif Nat.blt pc 84 then (bif Nat.blt pc 81 then (bif Nat.beq pc 79 then some (.lstore 4, 2) else none) else
      (bif Nat.beq pc 81 then some (.iinc 6 1, 3) else none)) else
     (bif Nat.blt pc 87 then (bif Nat.beq pc 84 then some (.goto (-29), 3) else none) else
      (bif Nat.beq pc 87 then some (.dload_n 2, 1) else none))) else
    (bif Nat.blt pc 90 then (bif Nat.blt pc 89 then (bif Nat.beq pc 88 then some (.dconst 1, 1) else none) else
      (bif Nat.beq pc 89 then some (.dsub, 1) else none)) else
     (bif Nat.blt pc 93 then (bif Nat.beq pc 90 then some (.ldc2_w 171, 3) else none) else
      (bif Nat.beq pc 93 then some (.dmul, 1) else none)))) else
   (bif Nat.blt pc 101 then (bif Nat.blt pc 97 then (bif Nat.blt pc 95 then (bif Nat.beq pc 94 then some (.d2l, 1) else none) else
      (bif Nat.beq pc 95 then some (.lstore 6, 2) else none)) else
     (bif Nat.blt pc 99 then (bif Nat.beq pc 97 then some (.lload 4, 2) else none) else
      (bif Nat.beq pc 99 then some (.bipush 52, 2) else none))) else
    (bif Nat.blt pc 104 then (bif Nat.blt pc 102 then (bif Nat.beq pc 101 then some (.lshl, 1) else none) else
      (bif Nat.beq pc 102 then some (.lload 6, 2) else none)) else
     (bif Nat.blt pc 105 then (bif Nat.beq pc 104 then some (.lor, 1) else none) else
      (bif Nat.beq pc 105 then some (.lreturn, 1) else none))))))) else none
set_option maxRecDepth 10000 in
noncomputable def zc_75 (pc : Nat) : Option (Instr × Nat) :=
 bif Nat.blt pc 22 then (bif Nat.blt pc 11 then (bif Nat.blt pc 5 then (bif Nat.blt pc 1 then (bif Nat.beq pc 0 then some (.aload_n 0, 1) else none) else
   (bif Nat.blt pc 2 then (bif Nat.beq pc 1 then some (.iload_n 1, 1) else none) else
    (bif Nat.beq pc 2 then some (.invokevirtual 97, 3) else none))) else
  (bif Nat.blt pc 9 then (bif Nat.blt pc 6 then (bif Nat.beq pc 5 then some (.iconst (-1), 1) else none) else
    (bif Nat.beq pc 6 then some (.if_icmp .ne 5, 3) else none)) else
   (bif Nat.blt pc 10 then (bif Nat.beq pc 9 then some (.iconst (-1), 1) else none) else
    (bif Nat.beq pc 10 then some (.ireturn, 1) else none)))) else
 (bif Nat.blt pc 14 then (bif Nat.blt pc 12 then (bif Nat.beq pc 11 then some (.aload_n 0, 1) else none) else
   (bif Nat.blt pc 13 then (bif Nat.beq pc 12 then some (.iload_n 1, 1) else none) else
    (bif Nat.beq pc 13 then some (.iconst (-1), 1) else none))) else
  (bif Nat.blt pc 18 then (bif Nat.blt pc 17 then (bif Nat.beq pc 14 then some (.invokevirtual 145, 3) else none) else
    (bif Nat.beq pc 17 then some (.aload_n 0, 1) else none)) else
   (bif Nat.blt pc 21 then (bif Nat.beq pc 18 then some (.getfield 113, 3) else none) else
    (bif Nat.beq pc 21 then some (.ireturn, 1) else none))))) else none
set_option maxRecDepth 10000 in
noncomputable def zc_76 (pc : Nat) : Option (Instr × Nat) :=
 bif Nat.blt pc 23 then (bif Nat.blt pc 12 then (bif Nat.blt pc 5 then (bif Nat.blt pc 1 then (bif Nat.beq pc 0 then some (.aload_n 0, 1) else none) else
   (bif Nat.blt pc 2 then (bif Nat.beq pc 1 then some (.iload_n 1, 1) else none) else
    (bif Nat.beq pc 2 then some (.invokevirtual 97, 3) else none))) else
  (bif Nat.blt pc 9 then (bif Nat.blt pc 6 then (bif Nat.beq pc 5 then some (.iconst (-1), 1) else none) else
    (bif Nat.beq pc 6 then some (.if_icmp .ne 6, 3) else none)) else
   (bif Nat.blt pc 11 then (bif Nat.beq pc 9 then some (.ldc 149, 2) else none) else
    (bif Nat.beq pc 11 then some (.freturn, 1) else none)))) else
 (bif Nat.blt pc 15 then (bif Nat.blt pc 13 then (bif Nat.beq pc 12 then some (.aload_n 0, 1) else none) else
   (bif Nat.blt pc 14 then (bif Nat.beq pc 13 then some (.iload_n 1, 1) else none) else
    (bif Nat.beq pc 14 then some (.iconst (-1), 1) else none))) else
  (bif Nat.blt pc 19 then (bif Nat.blt pc 18 then (bif Nat.beq pc 15 then some (.invokevirtual 145, 3) else none) else
    (bif Nat.beq pc 18 then some (.aload_n 0, 1) else none)) else
   (bif Nat.blt pc 22 then (bif Nat.beq pc 19 then some (.getfield 116, 3) else none) else
    (bif Nat.beq pc 22 then some (.freturn, 1) else none))))) else none
set_option maxRecDepth 10000 in
noncomputable def zc_77 (pc : Nat) : Option (Instr × Nat) :=
 bif Nat.blt pc 108 then (bif Nat.blt pc 54 then (bif Nat.blt pc 24 then (bif Nat.blt pc 10 then (bif Nat.blt pc 6 then (bif Nat.blt pc 2 then (bif Nat.blt pc 1 then (bif Nat.beq pc 0 then some (.fload_n 0, 1) else none) else
      (bif Nat.beq pc 1 then some (.fconst 0, 1) else none)) else
     (bif Nat.blt pc 3 then (bif Nat.beq pc 2 then some (.fcmp .l, 1) else none) else
      (bif Nat.beq pc 3 then some (.ifCond .ne 5, 3) else none))) else
    (bif Nat.blt pc 8 then (bif Nat.blt pc 7 then (bif Nat.beq pc 6 then some (.iconst 0, 1) else none) else
      (bif Nat.beq pc 7 then some (.ireturn, 1) else none)) else
     (bif Nat.blt pc 9 then (bif Nat.beq pc 8 then some (.fload_n 0, 1) else none) else
      (bif Nat.beq pc 9 then some (.fconst 0, 1) else none)))) else
   (bif Nat.blt pc 16 then (bif Nat.blt pc 14 then (bif Nat.blt pc 11 then (bif Nat.beq pc 10 then some (.fcmp .g, 1) else none) else
      (bif Nat.beq pc 11 then some (.ifCond .ge 8, 3) else none)) else
     (bif Nat.blt pc 15 then (bif Nat.beq pc 14 then some (.fload_n 0, 1) else none) else
      (bif Nat.beq pc 15 then some (.fneg, 1) else none))) else
    (bif Nat.blt pc 20 then (bif Nat.blt pc 19 then (bif Nat.beq pc 16 then some (.goto 4, 3) else none) else
      (bif Nat.beq pc 19 then some (.fload_n 0, 1) else none)) else
     (bif Nat.blt pc 21 then (bif Nat.beq pc 20 then some (.fstore_n 1, 1) else none) else
      (bif Nat.blt pc 23 then (bif Nat.beq pc 21 then some (.bipush 127, 2) else none) else
       (bif Nat.beq pc 23 then some (.istore_n 2, 1) else none)))))) else
  (bif Nat.blt pc 39 then (bif Nat.blt pc 30 then (bif Nat.blt pc 26 then (bif Nat.blt pc 25 then (bif Nat.beq pc 24 then some (.iconst 0, 1) else none) else
      (bif Nat.beq pc 25 then some (.istore_n 3, 1) else none)) else
     (bif Nat.blt pc 27 then (bif Nat.beq pc 26 then some (.iload_n 3, 1) else none) else
      (bif Nat.beq pc 27 then some (.sipush 2000, 3) else none))) else
    (bif Nat.blt pc 34 then (bif Nat.blt pc 33 then (bif Nat.beq pc 30 then some (.if_icmp .ge 22, 3) else none) else
      (bif Nat.beq pc 33 then some (.fload_n 1, 1) else none)) else
     (bif Nat.blt pc 35 then (bif Nat.beq pc 34 then some (.fconst 2, 1) else none) else
      (bif Nat.blt pc 36 then (bif Nat.beq pc 35 then some (.fcmp .l, 1) else none) else
       (bif Nat.beq pc 36 then some (.ifCond .lt 16, 3) else none))))) else
   (bif Nat.blt pc 43 then (bif Nat.blt pc 41 then (bif Nat.blt pc 40 then (bif Nat.beq pc 39 then some (.fload_n 1, 1) else none) else
      (bif Nat.beq pc 40 then some (.fconst 2, 1) else none)) else
     (bif Nat.blt pc 42 then (bif Nat.beq pc 41 then some (.fdiv, 1) else none) else
      (bif Nat.beq pc 42 then some (.fstore_n 1, 1) else none))) else
    (bif Nat.blt pc 49 then (bif Nat.blt pc 46 then (bif Nat.beq pc 43 then some (.iinc 2 1, 3) else none) else
      (bif Nat.beq pc 46 then some (.iinc 3 1, 3) else none)) else
     (bif Nat.blt pc 52 then (bif Nat.beq pc 49 then some (.goto (-23), 3) else none) else
      (bif Nat.blt pc 53 then (bif Nat.beq pc 52 then some (.iconst 0, 1) else none) else
       (bif Nat.beq pc 53 then some (.istore_n 3, 1) else none))))))) else
 (bif Nat.blt pc 83 then (bif Nat.blt pc 68 then (bif Nat.blt pc 62 then (bif Nat.blt pc 58 then (bif Nat.blt pc 55 then (bif Nat.beq pc 54 then some (.iload_n 3, 1) else none) else
      (bif Nat.beq pc 55 then some (.sipush 2000, 3) else none)) else
     (bif Nat.blt pc 61 then (bif Nat.beq pc 58 then some (.if_icmp .ge 22, 3) else none) else
      (bif Nat.beq pc 61 then some (.fload_n 1, 1) else none))) else
    (bif Nat.blt pc 64 then (bif Nat.blt pc 63 then (bif Nat.beq pc 62 then some (.fconst 1, 1) else none) else
      (bif Nat.beq pc 63 then some (.fcmp .g, 1) else none)) else
     (bif Nat.blt pc 67 then (bif Nat.beq pc 64 then some (.ifCond .ge 16, 3) else none) else
      (bif Nat.beq pc 67 then some (.fload_n 1, 1) else none)))) else
   (bif Nat.blt pc 74 then (bif Nat.blt pc 70 then (bif Nat.blt pc 69 then (bif Nat.beq pc 68 then some (.fconst 2, 1) else none) else
      (bif Nat.beq pc 69 then some (.fmul, 1) else none)) else
     (bif Nat.blt pc 71 then (bif Nat.beq pc 70 then some (.fstore_n 1, 1) else none) else
      (bif Nat.beq pc 71 then some (.iinc 2 (-1), 3) else none))) else
    (bif Nat.blt pc 80 then (bif Nat.blt pc 77 then (bif Nat.beq pc 74 then some (.iinc 3 1, 3) else none) else
      (bif Nat.beq pc 77 then some (.goto (-23), 3) else none)) else
     (bif Nat.blt pc 81 then (bif Nat.beq pc 80 then some (.fload_n 1, 1) else none) else
      (bif Nat.blt pc 82 then (bif Nat.beq pc 81 then some (.fconst 1, 1) else none) else
       (bif Nat.beq pc 82 then some (.fsub, 1) else none)))))) else
  (bif Nat.blt pc 96 then (bif Nat.blt pc 88 then (bif Nat.blt pc 86 then (bif Nat.blt pc 85 then (bif Nat.beq pc 83 then some (.ldc 165, 2) else none) else
      (bif Nat.beq pc 85 then some (.fmul, 1) else none)) else
     (bif Nat.blt pc 87 then (bif Nat.beq pc 86 then some (.f2i, 1) else none) else
      (bif Nat.beq pc 87 then some (.istore_n 3, 1) else none))) else
    (bif Nat.blt pc 90 then (bif Nat.blt pc 89 then (bif Nat.beq pc 88 then some (.fload_n 0, 1) else none) else
      (bif Nat.beq pc 89 then some (.fconst 0, 1) else none)) else
     (bif Nat.blt pc 91 then (bif Nat.beq pc 90 then some (.fcmp .g, 1) else none) else
      (bif Nat.blt pc 94 then (bif Nat.beq pc 91 then some (.ifCond .ge 8, 3) else none) else
       (bif Nat.beq pc 94 then some (.ldc 166, 2) else none))))) else
   (bif Nat.blt pc 103 then (bif Nat.blt pc 100 then (bif Nat.blt pc 99 then (bif Nat.beq pc 96 then some (.goto 4, 3) else none) else
      (bif Nat.beq pc 99 then some (.iconst 0, 1) else none)) else
     (bif Nat.blt pc 101 then (bif Nat.beq pc 100 then some (.iload_n 2, 1) else none) else
      (bif Nat.beq pc 101 then some (.bipush 23, 2) else none))) else
    (bif Nat.blt pc 105 then (bif Nat.blt pc 104 then (bif Nat.beq pc 103 then some (.ishl, 1) else none) else
      (bif Nat.beq pc 104 then some (.ior, 1) else none)) else
     (bif Nat.blt pc 106 then (bif Nat.beq pc 105 then some (.iload_n 3, 1) else none) else
      (bif Nat.blt pc 107 then (bif Nat.beq pc 106 then some (.ior, 1) else none) else
       (bif Nat.beq pc 107 then some (.ireturn, 1) else none)))))))) else none
set_option maxRecDepth 10000 in
noncomputable def zc_78 (pc : Nat) : Option (Instr × Nat) :=
 bif Nat.blt pc 120 then (bif Nat.blt pc 59 then (bif Nat.blt pc 26 then (bif Nat.blt pc 11 then (bif Nat.blt pc 5 then (bif Nat.blt pc 1 then (bif Nat.beq pc 0 then some (.aload_n 0, 1) else none) else
     (bif Nat.blt pc 4 then (bif Nat.beq pc 1 then some (.getfield 18, 3) else none) else
      (bif Nat.beq pc 4 then some (.lconst 0, 1) else none))) else
    (bif Nat.blt pc 9 then (bif Nat.blt pc 8 then (bif Nat.beq pc 5 then some (.invokestatic 153, 3) else none) else
      (bif Nat.beq pc 8 then some (.iconst 0, 1) else none)) else
     (bif Nat.blt pc 10 then (bif Nat.beq pc 9 then some (.istore_n 2, 1) else none) else
      (bif Nat.beq pc 10 then some (.iload_n 2, 1) else none)))) else
   (bif Nat.blt pc 18 then (bif Nat.blt pc 16 then (bif Nat.blt pc 13 then (bif Nat.beq pc 11 then some (.bipush 64, 2) else none) else
      (bif Nat.beq pc 13 then some (.if_icmp .ge 86, 3) else none)) else
     (bif Nat.blt pc 17 then (bif Nat.beq pc 16 then some (.iload_n 2, 1) else none) else
      (bif Nat.beq pc 17 then some (.istore_n 3, 1) else none))) else
    (bif Nat.blt pc 22 then (bif Nat.blt pc 19 then (bif Nat.beq pc 18 then some (.aload_n 0, 1) else none) else
      (bif Nat.beq pc 19 then some (.getfield 22, 3) else none)) else
     (bif Nat.blt pc 25 then (bif Nat.beq pc 22 then some (.getfield 90, 3) else none) else
      (bif Nat.beq pc 25 then some (.iload_n 2, 1) else none))))) else
  (bif Nat.blt pc 43 then (bif Nat.blt pc 33 then (bif Nat.blt pc 29 then (bif Nat.beq pc 26 then some (.invokestatic 94, 3) else none) else
     (bif Nat.blt pc 32 then (bif Nat.beq pc 29 then some (.ifCond .eq 13, 3) else none) else
      (bif Nat.beq pc 32 then some (.aload_n 0, 1) else none))) else
    (bif Nat.blt pc 39 then (bif Nat.blt pc 36 then (bif Nat.beq pc 33 then some (.getfield 26, 3) else none) else
      (bif Nat.beq pc 36 then some (.invokevirtual 86, 3) else none)) else
     (bif Nat.blt pc 42 then (bif Nat.beq pc 39 then some (.goto 4, 3) else none) else
      (bif Nat.beq pc 42 then some (.iconst (-1), 1) else none)))) else
   (bif Nat.blt pc 50 then (bif Nat.blt pc 46 then (bif Nat.blt pc 45 then (bif Nat.beq pc 43 then some (.istore 4, 2) else none) else
      (bif Nat.beq pc 45 then some (.iconst 0, 1) else none)) else
     (bif Nat.blt pc 48 then (bif Nat.beq pc 46 then some (.istore 5, 2) else none) else
      (bif Nat.beq pc 48 then some (.iload 5, 2) else none))) else
    (bif Nat.blt pc 56 then (bif Nat.blt pc 53 then (bif Nat.beq pc 50 then some (.sipush 1536, 3) else none) else
      (bif Nat.beq pc 53 then some (.if_icmp .gt 40, 3) else none)) else
     (bif Nat.blt pc 57 then (bif Nat.beq pc 56 then some (.aload_n 0, 1) else none) else
      (bif Nat.beq pc 57 then some (.iload 4, 2) else none)))))) else
 (bif Nat.blt pc 87 then (bif Nat.blt pc 73 then (bif Nat.blt pc 66 then (bif Nat.blt pc 60 then (bif Nat.beq pc 59 then some (.iload_n 3, 1) else none) else
     (bif Nat.blt pc 63 then (bif Nat.beq pc 60 then some (.invokevirtual 159, 3) else none) else
      (bif Nat.beq pc 63 then some (.ifCond .eq 30, 3) else none))) else
    (bif Nat.blt pc 69 then (bif Nat.blt pc 67 then (bif Nat.beq pc 66 then some (.aload_n 0, 1) else none) else
      (bif Nat.beq pc 67 then some (.iload 4, 2) else none)) else
     (bif Nat.blt pc 70 then (bif Nat.beq pc 69 then some (.iload_n 3, 1) else none) else
      (bif Nat.beq pc 70 then some (.invokevirtual 136, 3) else none)))) else
   (bif Nat.blt pc 79 then (bif Nat.blt pc 76 then (bif Nat.blt pc 75 then (bif Nat.beq pc 73 then some (.istore 6, 2) else none) else
      (bif Nat.beq pc 75 then some (.aload_n 0, 1) else none)) else
     (bif Nat.blt pc 78 then (bif Nat.beq pc 76 then some (.iload 4, 2) else none) else
      (bif Nat.beq pc 78 then some (.iload_n 3, 1) else none))) else
    (bif Nat.blt pc 83 then (bif Nat.blt pc 82 then (bif Nat.beq pc 79 then some (.invokevirtual 139, 3) else none) else
      (bif Nat.beq pc 82 then some (.istore_n 3, 1) else none)) else
     (bif Nat.blt pc 85 then (bif Nat.beq pc 83 then some (.iload 6, 2) else none) else
      (bif Nat.beq pc 85 then some (.istore 4, 2) else none))))) else
  (bif Nat.blt pc 106 then (bif Nat.blt pc 99 then (bif Nat.blt pc 93 then (bif Nat.blt pc 90 then (bif Nat.beq pc 87 then some (.iinc 5 1, 3) else none) else
      (bif Nat.beq pc 90 then some (.goto (-42), 3) else none)) else
     (bif Nat.blt pc 96 then (bif Nat.beq pc 93 then some (.iinc 2 1, 3) else none) else
      (bif Nat.beq pc 96 then some (.goto (-86), 3) else none))) else
    (bif Nat.blt pc 103 then (bif Nat.blt pc 100 then (bif Nat.beq pc 99 then some (.iload_n 1, 1) else none) else
      (bif Nat.beq pc 100 then some (.ifCond .lt 18, 3) else none)) else
     (bif Nat.blt pc 104 then (bif Nat.beq pc 103 then some (.iload_n 1, 1) else none) else
      (bif Nat.beq pc 104 then some (.bipush 24, 2) else none)))) else
   (bif Nat.blt pc 114 then (bif Nat.blt pc 110 then (bif Nat.blt pc 109 then (bif Nat.beq pc 106 then some (.if_icmp .ge 12, 3) else none) else
      (bif Nat.beq pc 109 then some (.aload_n 0, 1) else none)) else
     (bif Nat.blt pc 113 then (bif Nat.beq pc 110 then some (.getfield 18, 3) else none) else
      (bif Nat.beq pc 113 then some (.iload_n 1, 1) else none))) else
    (bif Nat.blt pc 118 then (bif Nat.blt pc 115 then (bif Nat.beq pc 114 then some (.laload, 1) else none) else
      (bif Nat.beq pc 115 then some (.goto 4, 3) else none)) else
     (bif Nat.blt pc 119 then (bif Nat.beq pc 118 then some (.lconst 0, 1) else none) else
      (bif Nat.beq pc 119 then some (.lreturn, 1) else none))))))) else none
set_option maxRecDepth 10000 in
noncomputable def zc_79 (pc : Nat) : Option (Instr × Nat) :=
 bif Nat.blt pc 39 then (bif Nat.blt pc 24 then (bif Nat.blt pc 11 then (bif Nat.blt pc 5 then (bif Nat.blt pc 1 then (bif Nat.beq pc 0 then some (.iload_n 1, 1) else none) else
    (bif Nat.blt pc 4 then (bif Nat.beq pc 1 then some (.ifCond .lt 22, 3) else none) else
     (bif Nat.beq pc 4 then some (.iload_n 1, 1) else none))) else
   (bif Nat.blt pc 7 then (bif Nat.beq pc 5 then some (.bipush 24, 2) else none) else
    (bif Nat.blt pc 10 then (bif Nat.beq pc 7 then some (.if_icmp .ge 16, 3) else none) else
     (bif Nat.beq pc 10 then some (.aload_n 0, 1) else none)))) else
  (bif Nat.blt pc 16 then (bif Nat.blt pc 14 then (bif Nat.beq pc 11 then some (.getfield 18, 3) else none) else
    (bif Nat.blt pc 15 then (bif Nat.beq pc 14 then some (.iload_n 1, 1) else none) else
     (bif Nat.beq pc 15 then some (.laload, 1) else none))) else
   (bif Nat.blt pc 20 then (bif Nat.blt pc 17 then (bif Nat.beq pc 16 then some (.iload_n 2, 1) else none) else
     (bif Nat.beq pc 17 then some (.invokestatic 94, 3) else none)) else
    (bif Nat.blt pc 23 then (bif Nat.beq pc 20 then some (.ifCond .eq 5, 3) else none) else
     (bif Nat.beq pc 23 then some (.iconst 0, 1) else none))))) else
 (bif Nat.blt pc 32 then (bif Nat.blt pc 29 then (bif Nat.blt pc 25 then (bif Nat.beq pc 24 then some (.ireturn, 1) else none) else
    (bif Nat.blt pc 26 then (bif Nat.beq pc 25 then some (.aload_n 0, 1) else none) else
     (bif Nat.beq pc 26 then some (.getfield 18, 3) else none))) else
   (bif Nat.blt pc 30 then (bif Nat.beq pc 29 then some (.iload_n 1, 1) else none) else
    (bif Nat.blt pc 31 then (bif Nat.beq pc 30 then some (.dup2, 1) else none) else
     (bif Nat.beq pc 31 then some (.laload, 1) else none)))) else
  (bif Nat.blt pc 35 then (bif Nat.blt pc 33 then (bif Nat.beq pc 32 then some (.lconst 1, 1) else none) else
    (bif Nat.blt pc 34 then (bif Nat.beq pc 33 then some (.iload_n 2, 1) else none) else
     (bif Nat.beq pc 34 then some (.lshl, 1) else none))) else
   (bif Nat.blt pc 37 then (bif Nat.blt pc 36 then (bif Nat.beq pc 35 then some (.lor, 1) else none) else
     (bif Nat.beq pc 36 then some (.lastore, 1) else none)) else
    (bif Nat.blt pc 38 then (bif Nat.beq pc 37 then some (.iconst 1, 1) else none) else
     (bif Nat.beq pc 38 then some (.ireturn, 1) else none)))))) else none
set_option maxRecDepth 10000 in
noncomputable def zc_80 (pc : Nat) : Option (Instr × Nat) :=
 bif Nat.blt pc 6 then (bif Nat.blt pc 2 then (bif Nat.blt pc 1 then (bif Nat.beq pc 0 then some (.aload_n 0, 1) else none) else
  (bif Nat.beq pc 1 then some (.aload_n 1, 1) else none)) else
 (bif Nat.blt pc 5 then (bif Nat.beq pc 2 then some (.invokespecial 7, 3) else none) else
  (bif Nat.beq pc 5 then some (.return_, 1) else none))) else none
set_option maxRecDepth 10000 in
noncomputable def zc_81 (pc : Nat) : Option (Instr × Nat) :=
 bif Nat.blt pc 28 then (bif Nat.blt pc 14 then (bif Nat.blt pc 5 then (bif Nat.blt pc 1 then (bif Nat.beq pc 0 then some (.aload_n 0, 1) else none) else
   (bif Nat.blt pc 4 then (bif Nat.beq pc 1 then some (.invokespecial 3, 3) else none) else
    (bif Nat.beq pc 4 then some (.aload_n 0, 1) else none))) else
  (bif Nat.blt pc 10 then (bif Nat.blt pc 8 then (bif Nat.beq pc 5 then some (.sipush 402, 3) else none) else
    (bif Nat.beq pc 8 then some (.newarray .int, 2) else none)) else
   (bif Nat.blt pc 13 then (bif Nat.beq pc 10 then some (.putfield 11, 3) else none) else
    (bif Nat.beq pc 13 then some (.aload_n 0, 1) else none)))) else
 (bif Nat.blt pc 22 then (bif Nat.blt pc 17 then (bif Nat.beq pc 14 then some (.sipush 402, 3) else none) else
   (bif Nat.blt pc 19 then (bif Nat.beq pc 17 then some (.newarray .int, 2) else none) else
    (bif Nat.beq pc 19 then some (.putfield 15, 3) else none))) else
  (bif Nat.blt pc 24 then (bif Nat.blt pc 23 then (bif Nat.beq pc 22 then some (.aload_n 0, 1) else none) else
    (bif Nat.beq pc 23 then some (.aload_n 1, 1) else none)) else
   (bif Nat.blt pc 27 then (bif Nat.beq pc 24 then some (.putfield 18, 3) else none) else
    (bif Nat.beq pc 27 then some (.return_, 1) else none))))) else none
set_option maxRecDepth 10000 in
noncomputable def zc_82 (pc : Nat) : Option (Instr × Nat) :=
 bif Nat.blt pc 105 then (bif Nat.blt pc 52 then (bif Nat.blt pc 24 then (bif Nat.blt pc 13 then (bif Nat.blt pc 3 then (bif Nat.blt pc 1 then (bif Nat.beq pc 0 then some (.aload_n 0, 1) else none) else
     (bif Nat.blt pc 2 then (bif Nat.beq pc 1 then some (.iload_n 1, 1) else none) else
      (bif Nat.beq pc 2 then some (.aload_n 0, 1) else none))) else
    (bif Nat.blt pc 7 then (bif Nat.blt pc 6 then (bif Nat.beq pc 3 then some (.getfield 18, 3) else none) else
      (bif Nat.beq pc 6 then some (.arraylength, 1) else none)) else
     (bif Nat.blt pc 10 then (bif Nat.beq pc 7 then some (.invokestatic 22, 3) else none) else
      (bif Nat.beq pc 10 then some (.putfield 28, 3) else none)))) else
   (bif Nat.blt pc 18 then (bif Nat.blt pc 14 then (bif Nat.beq pc 13 then some (.aload_n 0, 1) else none) else
     (bif Nat.blt pc 15 then (bif Nat.beq pc 14 then some (.iconst (-1), 1) else none) else
      (bif Nat.beq pc 15 then some (.putfield 32, 3) else none))) else
    (bif Nat.blt pc 20 then (bif Nat.blt pc 19 then (bif Nat.beq pc 18 then some (.aload_n 0, 1) else none) else
      (bif Nat.beq pc 19 then some (.iconst 0, 1) else none)) else
     (bif Nat.blt pc 23 then (bif Nat.beq pc 20 then some (.putfield 35, 3) else none) else
      (bif Nat.beq pc 23 then some (.aload_n 0, 1) else none))))) else
  (bif Nat.blt pc 37 then (bif Nat.blt pc 29 then (bif Nat.blt pc 25 then (bif Nat.beq pc 24 then some (.iconst 0, 1) else none) else
     (bif Nat.blt pc 28 then (bif Nat.beq pc 25 then some (.putfield 38, 3) else none) else
      (bif Nat.beq pc 28 then some (.iconst 0, 1) else none))) else
    (bif Nat.blt pc 31 then (bif Nat.blt pc 30 then (bif Nat.beq pc 29 then some (.istore_n 2, 1) else none) else
      (bif Nat.beq pc 30 then some (.iload_n 2, 1) else none)) else
     (bif Nat.blt pc 34 then (bif Nat.beq pc 31 then some (.sipush 402, 3) else none) else
      (bif Nat.beq pc 34 then some (.if_icmp .ge 61, 3) else none)))) else
   (bif Nat.blt pc 43 then (bif Nat.blt pc 38 then (bif Nat.beq pc 37 then some (.aload_n 0, 1) else none) else
     (bif Nat.blt pc 41 then (bif Nat.beq pc 38 then some (.getfield 32, 3) else none) else
      (bif Nat.beq pc 41 then some (.bipush (-2), 2) else none))) else
    (bif Nat.blt pc 47 then (bif Nat.blt pc 46 then (bif Nat.beq pc 43 then some (.if_icmp .eq 52, 3) else none) else
      (bif Nat.beq pc 46 then some (.aload_n 0, 1) else none)) else
     (bif Nat.blt pc 50 then (bif Nat.beq pc 47 then some (.getfield 32, 3) else none) else
      (bif Nat.beq pc 50 then some (.bipush (-3), 2) else none)))))) else
 (bif Nat.blt pc 78 then (bif Nat.blt pc 65 then (bif Nat.blt pc 59 then (bif Nat.blt pc 55 then (bif Nat.beq pc 52 then some (.if_icmp .eq 43, 3) else none) else
     (bif Nat.blt pc 56 then (bif Nat.beq pc 55 then some (.aload_n 0, 1) else none) else
      (bif Nat.beq pc 56 then some (.invokevirtual 41, 3) else none))) else
    (bif Nat.blt pc 63 then (bif Nat.blt pc 60 then (bif Nat.beq pc 59 then some (.aload_n 0, 1) else none) else
      (bif Nat.beq pc 60 then some (.getfield 11, 3) else none)) else
     (bif Nat.blt pc 64 then (bif Nat.beq pc 63 then some (.iload_n 2, 1) else none) else
      (bif Nat.beq pc 64 then some (.aload_n 0, 1) else none)))) else
   (bif Nat.blt pc 70 then (bif Nat.blt pc 68 then (bif Nat.beq pc 65 then some (.getfield 32, 3) else none) else
     (bif Nat.blt pc 69 then (bif Nat.beq pc 68 then some (.iastore, 1) else none) else
      (bif Nat.beq pc 69 then some (.aload_n 0, 1) else none))) else
    (bif Nat.blt pc 74 then (bif Nat.blt pc 73 then (bif Nat.beq pc 70 then some (.getfield 15, 3) else none) else
      (bif Nat.beq pc 73 then some (.iload_n 2, 1) else none)) else
     (bif Nat.blt pc 75 then (bif Nat.beq pc 74 then some (.aload_n 0, 1) else none) else
      (bif Nat.beq pc 75 then some (.getfield 44, 3) else none))))) else
  (bif Nat.blt pc 89 then (bif Nat.blt pc 81 then (bif Nat.blt pc 79 then (bif Nat.beq pc 78 then some (.iastore, 1) else none) else
     (bif Nat.blt pc 80 then (bif Nat.beq pc 79 then some (.aload_n 0, 1) else none) else
      (bif Nat.beq pc 80 then some (.dup, 1) else none))) else
    (bif Nat.blt pc 85 then (bif Nat.blt pc 84 then (bif Nat.beq pc 81 then some (.getfield 38, 3) else none) else
      (bif Nat.beq pc 84 then some (.iconst 1, 1) else none)) else
     (bif Nat.blt pc 86 then (bif Nat.beq pc 85 then some (.iadd, 1) else none) else
      (bif Nat.beq pc 86 then some (.putfield 38, 3) else none)))) else
   (bif Nat.blt pc 97 then (bif Nat.blt pc 95 then (bif Nat.blt pc 92 then (bif Nat.beq pc 89 then some (.iinc 2 1, 3) else none) else
      (bif Nat.beq pc 92 then some (.goto (-62), 3) else none)) else
     (bif Nat.blt pc 96 then (bif Nat.beq pc 95 then some (.aload_n 0, 1) else none) else
      (bif Nat.beq pc 96 then some (.iconst 0, 1) else none))) else
    (bif Nat.blt pc 101 then (bif Nat.blt pc 100 then (bif Nat.beq pc 97 then some (.putfield 47, 3) else none) else
      (bif Nat.beq pc 100 then some (.aload_n 0, 1) else none)) else
     (bif Nat.blt pc 104 then (bif Nat.beq pc 101 then some (.invokevirtual 50, 3) else none) else
      (bif Nat.beq pc 104 then some (.return_, 1) else none))))))) else none
set_option maxRecDepth 10000 in
noncomputable def zc_83 (pc : Nat) : Option (Instr × Nat) :=
 bif Nat.blt pc 150 then (bif Nat.blt pc 73 then (bif Nat.blt pc 34 then (bif Nat.blt pc 14 then (bif Nat.blt pc 6 then (bif Nat.blt pc 4 then (bif Nat.blt pc 1 then (bif Nat.beq pc 0 then some (.aload_n 0, 1) else none) else
      (bif Nat.beq pc 1 then some (.getfield 35, 3) else none)) else
     (bif Nat.blt pc 5 then (bif Nat.beq pc 4 then some (.istore_n 1, 1) else none) else
      (bif Nat.beq pc 5 then some (.aload_n 0, 1) else none))) else
    (bif Nat.blt pc 8 then (bif Nat.blt pc 7 then (bif Nat.beq pc 6 then some (.aload_n 0, 1) else none) else
      (bif Nat.beq pc 7 then some (.iload_n 1, 1) else none)) else
     (bif Nat.blt pc 11 then (bif Nat.beq pc 8 then some (.invokevirtual 53, 3) else none) else
      (bif Nat.beq pc 11 then some (.putfield 44, 3) else none)))) else
   (bif Nat.blt pc 22 then (bif Nat.blt pc 18 then (bif Nat.blt pc 15 then (bif Nat.beq pc 14 then some (.aload_n 0, 1) else none) else
      (bif Nat.beq pc 15 then some (.getfield 44, 3) else none)) else
     (bif Nat.blt pc 19 then (bif Nat.beq pc 18 then some (.aload_n 0, 1) else none) else
      (bif Nat.beq pc 19 then some (.getfield 28, 3) else none))) else
    (bif Nat.blt pc 26 then (bif Nat.blt pc 25 then (bif Nat.beq pc 22 then some (.if_icmp .lt 12, 3) else none) else
      (bif Nat.beq pc 25 then some (.aload_n 0, 1) else none)) else
     (bif Nat.blt pc 28 then (bif Nat.beq pc 26 then some (.bipush (-2), 2) else none) else
      (bif Nat.blt pc 31 then (bif Nat.beq pc 28 then some (.putfield 32, 3) else none) else
       (bif Nat.beq pc 31 then some (.goto 118, 3) else none)))))) else
  (bif Nat.blt pc 52 then (bif Nat.blt pc 42 then (bif Nat.blt pc 38 then (bif Nat.blt pc 35 then (bif Nat.beq pc 34 then some (.aload_n 0, 1) else none) else
      (bif Nat.beq pc 35 then some (.getfield 44, 3) else none)) else
     (bif Nat.blt pc 39 then (bif Nat.beq pc 38 then some (.iload_n 1, 1) else none) else
      (bif Nat.beq pc 39 then some (.if_icmp .ne 19, 3) else none))) else
    (bif Nat.blt pc 46 then (bif Nat.blt pc 43 then (bif Nat.beq pc 42 then some (.aload_n 0, 1) else none) else
      (bif Nat.beq pc 43 then some (.getfield 38, 3) else none)) else
     (bif Nat.blt pc 49 then (bif Nat.beq pc 46 then some (.ifCond .le 12, 3) else none) else
      (bif Nat.blt pc 50 then (bif Nat.beq pc 49 then some (.aload_n 0, 1) else none) else
       (bif Nat.beq pc 50 then some (.bipush (-3), 2) else none))))) else
   (bif Nat.blt pc 60 then (bif Nat.blt pc 58 then (bif Nat.blt pc 55 then (bif Nat.beq pc 52 then some (.putfield 32, 3) else none) else
      (bif Nat.beq pc 55 then some (.goto 94, 3) else none)) else
     (bif Nat.blt pc 59 then (bif Nat.beq pc 58 then some (.aload_n 0, 1) else none) else
      (bif Nat.beq pc 59 then some (.aload_n 0, 1) else none))) else
    (bif Nat.blt pc 66 then (bif Nat.blt pc 63 then (bif Nat.beq pc 60 then some (.getfield 44, 3) else none) else
      (bif Nat.beq pc 63 then some (.invokevirtual 57, 3) else none)) else
     (bif Nat.blt pc 69 then (bif Nat.beq pc 66 then some (.invokestatic 60, 3) else none) else
      (bif Nat.blt pc 72 then (bif Nat.beq pc 69 then some (.ifCond .eq 37, 3) else none) else
       (bif Nat.beq pc 72 then some (.aload_n 0, 1) else none))))))) else
 (bif Nat.blt pc 111 then (bif Nat.blt pc 90 then (bif Nat.blt pc 81 then (bif Nat.blt pc 75 then (bif Nat.blt pc 74 then (bif Nat.beq pc 73 then some (.aload_n 0, 1) else none) else
      (bif Nat.beq pc 74 then some (.aload_n 0, 1) else none)) else
     (bif Nat.blt pc 78 then (bif Nat.beq pc 75 then some (.getfield 44, 3) else none) else
      (bif Nat.beq pc 78 then some (.invokevirtual 64, 3) else none))) else
    (bif Nat.blt pc 85 then (bif Nat.blt pc 84 then (bif Nat.beq pc 81 then some (.putfield 35, 3) else none) else
      (bif Nat.beq pc 84 then some (.aload_n 0, 1) else none)) else
     (bif Nat.blt pc 86 then (bif Nat.beq pc 85 then some (.aload_n 0, 1) else none) else
      (bif Nat.blt pc 89 then (bif Nat.beq pc 86 then some (.getfield 18, 3) else none) else
       (bif Nat.beq pc 89 then some (.aload_n 0, 1) else none))))) else
   (bif Nat.blt pc 100 then (bif Nat.blt pc 94 then (bif Nat.blt pc 93 then (bif Nat.beq pc 90 then some (.getfield 44, 3) else none) else
      (bif Nat.beq pc 93 then some (.aload_n 0, 1) else none)) else
     (bif Nat.blt pc 97 then (bif Nat.beq pc 94 then some (.getfield 35, 3) else none) else
      (bif Nat.beq pc 97 then some (.invokestatic 67, 3) else none))) else
    (bif Nat.blt pc 106 then (bif Nat.blt pc 103 then (bif Nat.beq pc 100 then some (.putfield 32, 3) else none) else
      (bif Nat.beq pc 103 then some (.goto 46, 3) else none)) else
     (bif Nat.blt pc 107 then (bif Nat.beq pc 106 then some (.aload_n 0, 1) else none) else
      (bif Nat.blt pc 108 then (bif Nat.beq pc 107 then some (.aload_n 0, 1) else none) else
       (bif Nat.beq pc 108 then some (.getfield 44, 3) else none)))))) else
  (bif Nat.blt pc 132 then (bif Nat.blt pc 121 then (bif Nat.blt pc 117 then (bif Nat.blt pc 114 then (bif Nat.beq pc 111 then some (.invokevirtual 57, 3) else none) else
      (bif Nat.beq pc 114 then some (.invokestatic 73, 3) else none)) else
     (bif Nat.blt pc 120 then (bif Nat.beq pc 117 then some (.ifCond .eq 26, 3) else none) else
      (bif Nat.beq pc 120 then some (.aload_n 0, 1) else none))) else
    (bif Nat.blt pc 123 then (bif Nat.blt pc 122 then (bif Nat.beq pc 121 then some (.aload_n 0, 1) else none) else
      (bif Nat.beq pc 122 then some (.aload_n 0, 1) else none)) else
     (bif Nat.blt pc 126 then (bif Nat.beq pc 123 then some (.getfield 44, 3) else none) else
      (bif Nat.blt pc 129 then (bif Nat.beq pc 126 then some (.invokevirtual 76, 3) else none) else
       (bif Nat.beq pc 129 then some (.putfield 35, 3) else none))))) else
   (bif Nat.blt pc 140 then (bif Nat.blt pc 134 then (bif Nat.blt pc 133 then (bif Nat.beq pc 132 then some (.aload_n 0, 1) else none) else
      (bif Nat.beq pc 133 then some (.aload_n 0, 1) else none)) else
     (bif Nat.blt pc 137 then (bif Nat.beq pc 134 then some (.invokevirtual 79, 3) else none) else
      (bif Nat.beq pc 137 then some (.putfield 32, 3) else none))) else
    (bif Nat.blt pc 144 then (bif Nat.blt pc 143 then (bif Nat.beq pc 140 then some (.goto 9, 3) else none) else
      (bif Nat.beq pc 143 then some (.aload_n 0, 1) else none)) else
     (bif Nat.blt pc 146 then (bif Nat.beq pc 144 then some (.bipush (-3), 2) else none) else
      (bif Nat.blt pc 149 then (bif Nat.beq pc 146 then some (.putfield 32, 3) else none) else
       (bif Nat.beq pc 149 then some (.return_, 1) else none)))))))) else none
set_option maxRecDepth 10000 in
noncomputable def zc_84 (pc : Nat) : Option (Instr × Nat) :=
 bif Nat.blt pc 42 then (bif Nat.blt pc 18 then (bif Nat.blt pc 5 then (bif Nat.blt pc 2 then (bif Nat.blt pc 1 then (bif Nat.beq pc 0 then some (.iload_n 1, 1) else none) else
    (bif Nat.beq pc 1 then some (.istore_n 2, 1) else none)) else
   (bif Nat.blt pc 3 then (bif Nat.beq pc 2 then some (.iconst 0, 1) else none) else
    (bif Nat.blt pc 4 then (bif Nat.beq pc 3 then some (.istore_n 3, 1) else none) else
     (bif Nat.beq pc 4 then some (.iload_n 3, 1) else none)))) else
  (bif Nat.blt pc 12 then (bif Nat.blt pc 8 then (bif Nat.beq pc 5 then some (.sipush 800, 3) else none) else
    (bif Nat.blt pc 11 then (bif Nat.beq pc 8 then some (.if_icmp .ge 32, 3) else none) else
     (bif Nat.beq pc 11 then some (.aload_n 0, 1) else none))) else
   (bif Nat.blt pc 13 then (bif Nat.beq pc 12 then some (.iload_n 2, 1) else none) else
    (bif Nat.blt pc 16 then (bif Nat.beq pc 13 then some (.invokevirtual 57, 3) else none) else
     (bif Nat.beq pc 16 then some (.bipush 32, 2) else none))))) else
 (bif Nat.blt pc 28 then (bif Nat.blt pc 22 then (bif Nat.blt pc 21 then (bif Nat.beq pc 18 then some (.if_icmp .eq 13, 3) else none) else
    (bif Nat.beq pc 21 then some (.aload_n 0, 1) else none)) else
   (bif Nat.blt pc 23 then (bif Nat.beq pc 22 then some (.iload_n 2, 1) else none) else
    (bif Nat.blt pc 26 then (bif Nat.beq pc 23 then some (.invokevirtual 57, 3) else none) else
     (bif Nat.beq pc 26 then some (.bipush 10, 2) else none)))) else
  (bif Nat.blt pc 37 then (bif Nat.blt pc 31 then (bif Nat.beq pc 28 then some (.if_icmp .ne 12, 3) else none) else
    (bif Nat.blt pc 34 then (bif Nat.beq pc 31 then some (.iinc 2 1, 3) else none) else
     (bif Nat.beq pc 34 then some (.iinc 3 1, 3) else none))) else
   (bif Nat.blt pc 40 then (bif Nat.beq pc 37 then some (.goto (-33), 3) else none) else
    (bif Nat.blt pc 41 then (bif Nat.beq pc 40 then some (.iload_n 2, 1) else none) else
     (bif Nat.beq pc 41 then some (.ireturn, 1) else none)))))) else none
set_option maxRecDepth 10000 in
noncomputable def zc_85 (pc : Nat) : Option (Instr × Nat) :=
 bif Nat.blt pc 32 then (bif Nat.blt pc 17 then (bif Nat.blt pc 6 then (bif Nat.blt pc 4 then (bif Nat.blt pc 1 then (bif Nat.beq pc 0 then some (.iload_n 1, 1) else none) else
    (bif Nat.beq pc 1 then some (.ifCond .lt 29, 3) else none)) else
   (bif Nat.blt pc 5 then (bif Nat.beq pc 4 then some (.iload_n 1, 1) else none) else
    (bif Nat.beq pc 5 then some (.aload_n 0, 1) else none))) else
  (bif Nat.blt pc 12 then (bif Nat.blt pc 9 then (bif Nat.beq pc 6 then some (.getfield 28, 3) else none) else
    (bif Nat.beq pc 9 then some (.if_icmp .ge 21, 3) else none)) else
   (bif Nat.blt pc 13 then (bif Nat.beq pc 12 then some (.iload_n 1, 1) else none) else
    (bif Nat.blt pc 14 then (bif Nat.beq pc 13 then some (.aload_n 0, 1) else none) else
     (bif Nat.beq pc 14 then some (.getfield 18, 3) else none))))) else
 (bif Nat.blt pc 25 then (bif Nat.blt pc 21 then (bif Nat.blt pc 18 then (bif Nat.beq pc 17 then some (.arraylength, 1) else none) else
    (bif Nat.beq pc 18 then some (.if_icmp .ge 12, 3) else none)) else
   (bif Nat.blt pc 22 then (bif Nat.beq pc 21 then some (.aload_n 0, 1) else none) else
    (bif Nat.beq pc 22 then some (.getfield 18, 3) else none))) else
  (bif Nat.blt pc 27 then (bif Nat.blt pc 26 then (bif Nat.beq pc 25 then some (.iload_n 1, 1) else none) else
    (bif Nat.beq pc 26 then some (.baload, 1) else none)) else
   (bif Nat.blt pc 30 then (bif Nat.beq pc 27 then some (.goto 4, 3) else none) else
    (bif Nat.blt pc 31 then (bif Nat.beq pc 30 then some (.iconst (-1), 1) else none) else
     (bif Nat.beq pc 31 then some (.ireturn, 1) else none)))))) else none
set_option maxRecDepth 10000 in
noncomputable def zc_86 (pc : Nat) : Option (Instr × Nat) :=
 bif Nat.blt pc 18 then (bif Nat.blt pc 9 then (bif Nat.blt pc 3 then (bif Nat.blt pc 1 then (bif Nat.beq pc 0 then some (.iload_n 0, 1) else none) else
   (bif Nat.beq pc 1 then some (.bipush 97, 2) else none)) else
  (bif Nat.blt pc 6 then (bif Nat.beq pc 3 then some (.if_icmp .lt 13, 3) else none) else
   (bif Nat.blt pc 7 then (bif Nat.beq pc 6 then some (.iload_n 0, 1) else none) else
    (bif Nat.beq pc 7 then some (.bipush 122, 2) else none)))) else
 (bif Nat.blt pc 13 then (bif Nat.blt pc 12 then (bif Nat.beq pc 9 then some (.if_icmp .gt 7, 3) else none) else
   (bif Nat.beq pc 12 then some (.iconst 1, 1) else none)) else
  (bif Nat.blt pc 16 then (bif Nat.beq pc 13 then some (.goto 4, 3) else none) else
   (bif Nat.blt pc 17 then (bif Nat.beq pc 16 then some (.iconst 0, 1) else none) else
    (bif Nat.beq pc 17 then some (.ireturn, 1) else none))))) else none
set_option maxRecDepth 10000 in
noncomputable def zc_87 (pc : Nat) : Option (Instr × Nat) :=
 bif Nat.blt pc 33 then (bif Nat.blt pc 12 then (bif Nat.blt pc 4 then (bif Nat.blt pc 2 then (bif Nat.blt pc 1 then (bif Nat.beq pc 0 then some (.iload_n 1, 1) else none) else
    (bif Nat.beq pc 1 then some (.istore_n 2, 1) else none)) else
   (bif Nat.blt pc 3 then (bif Nat.beq pc 2 then some (.iconst 0, 1) else none) else
    (bif Nat.beq pc 3 then some (.istore_n 3, 1) else none))) else
  (bif Nat.blt pc 8 then (bif Nat.blt pc 5 then (bif Nat.beq pc 4 then some (.iload_n 3, 1) else none) else
    (bif Nat.beq pc 5 then some (.sipush 800, 3) else none)) else
   (bif Nat.blt pc 11 then (bif Nat.beq pc 8 then some (.if_icmp .ge 23, 3) else none) else
    (bif Nat.beq pc 11 then some (.aload_n 0, 1) else none)))) else
 (bif Nat.blt pc 22 then (bif Nat.blt pc 16 then (bif Nat.blt pc 13 then (bif Nat.beq pc 12 then some (.iload_n 2, 1) else none) else
    (bif Nat.beq pc 13 then some (.invokevirtual 57, 3) else none)) else
   (bif Nat.blt pc 19 then (bif Nat.beq pc 16 then some (.invokestatic 60, 3) else none) else
    (bif Nat.beq pc 19 then some (.ifCond .eq 12, 3) else none))) else
  (bif Nat.blt pc 28 then (bif Nat.blt pc 25 then (bif Nat.beq pc 22 then some (.iinc 2 1, 3) else none) else
    (bif Nat.beq pc 25 then some (.iinc 3 1, 3) else none)) else
   (bif Nat.blt pc 31 then (bif Nat.beq pc 28 then some (.goto (-24), 3) else none) else
    (bif Nat.blt pc 32 then (bif Nat.beq pc 31 then some (.iload_n 2, 1) else none) else
     (bif Nat.beq pc 32 then some (.ireturn, 1) else none)))))) else none
set_option maxRecDepth 10000 in
noncomputable def zc_88 (pc : Nat) : Option (Instr × Nat) :=
 bif Nat.blt pc 18 then (bif Nat.blt pc 9 then (bif Nat.blt pc 3 then (bif Nat.blt pc 1 then (bif Nat.beq pc 0 then some (.iload_n 0, 1) else none) else
   (bif Nat.beq pc 1 then some (.bipush 48, 2) else none)) else
  (bif Nat.blt pc 6 then (bif Nat.beq pc 3 then some (.if_icmp .lt 13, 3) else none) else
   (bif Nat.blt pc 7 then (bif Nat.beq pc 6 then some (.iload_n 0, 1) else none) else
    (bif Nat.beq pc 7 then some (.bipush 57, 2) else none)))) else
 (bif Nat.blt pc 13 then (bif Nat.blt pc 12 then (bif Nat.beq pc 9 then some (.if_icmp .gt 7, 3) else none) else
   (bif Nat.beq pc 12 then some (.iconst 1, 1) else none)) else
  (bif Nat.blt pc 16 then (bif Nat.beq pc 13 then some (.goto 4, 3) else none) else
   (bif Nat.blt pc 17 then (bif Nat.beq pc 16 then some (.iconst 0, 1) else none) else
    (bif Nat.beq pc 17 then some (.ireturn, 1) else none))))) else none
set_option maxRecDepth 10000 in
noncomputable def zc_89 (pc : Nat) : Option (Instr × Nat) :=
 bif Nat.blt pc 33 then (bif Nat.blt pc 12 then (bif Nat.blt pc 4 then (bif Nat.blt pc 2 then (bif Nat.blt pc 1 then (bif Nat.beq pc 0 then some (.iload_n 1, 1) else none) else
    (bif Nat.beq pc 1 then some (.istore_n 2, 1) else none)) else
   (bif Nat.blt pc 3 then (bif Nat.beq pc 2 then some (.iconst 0, 1) else none) else
    (bif Nat.beq pc 3 then some (.istore_n 3, 1) else none))) else
  (bif Nat.blt pc 8 then (bif Nat.blt pc 5 then (bif Nat.beq pc 4 then some (.iload_n 3, 1) else none) else
    (bif Nat.beq pc 5 then some (.sipush 800, 3) else none)) else
   (bif Nat.blt pc 11 then (bif Nat.beq pc 8 then some (.if_icmp .ge 23, 3) else none) else
    (bif Nat.beq pc 11 then some (.aload_n 0, 1) else none)))) else
 (bif Nat.blt pc 22 then (bif Nat.blt pc 16 then (bif Nat.blt pc 13 then (bif Nat.beq pc 12 then some (.iload_n 2, 1) else none) else
    (bif Nat.beq pc 13 then some (.invokevirtual 57, 3) else none)) else
   (bif Nat.blt pc 19 then (bif Nat.beq pc 16 then some (.invokestatic 73, 3) else none) else
    (bif Nat.beq pc 19 then some (.ifCond .eq 12, 3) else none))) else
  (bif Nat.blt pc 28 then (bif Nat.blt pc 25 then (bif Nat.beq pc 22 then some (.iinc 2 1, 3) else none) else
    (bif Nat.beq pc 25 then some (.iinc 3 1, 3) else none)) else
   (bif Nat.blt pc 31 then (bif Nat.beq pc 28 then some (.goto (-24), 3) else none) else
    (bif Nat.blt pc 32 then (bif Nat.beq pc 31 then some (.iload_n 2, 1) else none) else
     (bif Nat.beq pc 32 then some (.ireturn, 1) else none)))))) else none
set_option maxRecDepth 10000 in
noncomputable def zc_90 (pc : Nat) : Option (Instr × Nat) :=
 bif Nat.blt pc 63 then (bif Nat.blt pc 31 then (bif Nat.blt pc 16 then (bif Nat.blt pc 8 then (bif Nat.blt pc 4 then (bif Nat.blt pc 1 then (bif Nat.beq pc 0 then some (.aload_n 0, 1) else none) else
     (bif Nat.beq pc 1 then some (.getfield 35, 3) else none)) else
    (bif Nat.blt pc 5 then (bif Nat.beq pc 4 then some (.aload_n 0, 1) else none) else
     (bif Nat.beq pc 5 then some (.getfield 44, 3) else none))) else
   (bif Nat.blt pc 10 then (bif Nat.blt pc 9 then (bif Nat.beq pc 8 then some (.isub, 1) else none) else
     (bif Nat.beq pc 9 then some (.iconst 3, 1) else none)) else
    (bif Nat.blt pc 13 then (bif Nat.beq pc 10 then some (.if_icmp .le 6, 3) else none) else
     (bif Nat.blt pc 15 then (bif Nat.beq pc 13 then some (.bipush (-3), 2) else none) else
      (bif Nat.beq pc 15 then some (.ireturn, 1) else none))))) else
  (bif Nat.blt pc 22 then (bif Nat.blt pc 18 then (bif Nat.blt pc 17 then (bif Nat.beq pc 16 then some (.iconst 0, 1) else none) else
     (bif Nat.beq pc 17 then some (.istore_n 1, 1) else none)) else
    (bif Nat.blt pc 19 then (bif Nat.beq pc 18 then some (.aload_n 0, 1) else none) else
     (bif Nat.beq pc 19 then some (.getfield 44, 3) else none))) else
   (bif Nat.blt pc 24 then (bif Nat.blt pc 23 then (bif Nat.beq pc 22 then some (.istore_n 2, 1) else none) else
     (bif Nat.beq pc 23 then some (.iload_n 2, 1) else none)) else
    (bif Nat.blt pc 25 then (bif Nat.beq pc 24 then some (.aload_n 0, 1) else none) else
     (bif Nat.blt pc 28 then (bif Nat.beq pc 25 then some (.getfield 35, 3) else none) else
      (bif Nat.beq pc 28 then some (.if_icmp .ge 23, 3) else none)))))) else
 (bif Nat.blt pc 44 then (bif Nat.blt pc 36 then (bif Nat.blt pc 34 then (bif Nat.blt pc 33 then (bif Nat.beq pc 31 then some (.bipush 10, 2) else none) else
     (bif Nat.beq pc 33 then some (.iload_n 1, 1) else none)) else
    (bif Nat.blt pc 35 then (bif Nat.beq pc 34 then some (.imul, 1) else none) else
     (bif Nat.beq pc 35 then some (.aload_n 0, 1) else none))) else
   (bif Nat.blt pc 40 then (bif Nat.blt pc 37 then (bif Nat.beq pc 36 then some (.iload_n 2, 1) else none) else
     (bif Nat.beq pc 37 then some (.invokevirtual 57, 3) else none)) else
    (bif Nat.blt pc 41 then (bif Nat.beq pc 40 then some (.iadd, 1) else none) else
     (bif Nat.blt pc 43 then (bif Nat.beq pc 41 then some (.bipush 48, 2) else none) else
      (bif Nat.beq pc 43 then some (.isub, 1) else none))))) else
  (bif Nat.blt pc 53 then (bif Nat.blt pc 48 then (bif Nat.blt pc 45 then (bif Nat.beq pc 44 then some (.istore_n 1, 1) else none) else
     (bif Nat.beq pc 45 then some (.iinc 2 1, 3) else none)) else
    (bif Nat.blt pc 51 then (bif Nat.beq pc 48 then some (.goto (-25), 3) else none) else
     (bif Nat.blt pc 52 then (bif Nat.beq pc 51 then some (.iload_n 1, 1) else none) else
      (bif Nat.beq pc 52 then some (.iconst 3, 1) else none)))) else
   (bif Nat.blt pc 58 then (bif Nat.blt pc 56 then (bif Nat.beq pc 53 then some (.if_icmp .le 8, 3) else none) else
     (bif Nat.beq pc 56 then some (.bipush (-4), 2) else none)) else
    (bif Nat.blt pc 61 then (bif Nat.beq pc 58 then some (.goto 4, 3) else none) else
     (bif Nat.blt pc 62 then (bif Nat.beq pc 61 then some (.iload_n 1, 1) else none) else
      (bif Nat.beq pc 62 then some (.ireturn, 1) else none))))))) else none
set_option maxRecDepth 10000 in
noncomputable def zc_91 (pc : Nat) : Option (Instr × Nat) :=
 bif Nat.blt pc 65 then (bif Nat.blt pc 34 then (bif Nat.blt pc 18 then (bif Nat.blt pc 8 then (bif Nat.blt pc 4 then (bif Nat.blt pc 1 then (bif Nat.beq pc 0 then some (.aload_n 0, 1) else none) else
     (bif Nat.beq pc 1 then some (.getfield 47, 3) else none)) else
    (bif Nat.blt pc 7 then (bif Nat.beq pc 4 then some (.ifCond .lt 60, 3) else none) else
     (bif Nat.beq pc 7 then some (.aload_n 0, 1) else none))) else
   (bif Nat.blt pc 12 then (bif Nat.blt pc 11 then (bif Nat.beq pc 8 then some (.getfield 47, 3) else none) else
     (bif Nat.beq pc 11 then some (.aload_n 0, 1) else none)) else
    (bif Nat.blt pc 15 then (bif Nat.beq pc 12 then some (.getfield 38, 3) else none) else
     (bif Nat.beq pc 15 then some (.if_icmp .ge 49, 3) else none)))) else
  (bif Nat.blt pc 28 then (bif Nat.blt pc 22 then (bif Nat.blt pc 19 then (bif Nat.beq pc 18 then some (.aload_n 0, 1) else none) else
     (bif Nat.beq pc 19 then some (.getfield 47, 3) else none)) else
    (bif Nat.blt pc 25 then (bif Nat.beq pc 22 then some (.sipush 402, 3) else none) else
     (bif Nat.beq pc 25 then some (.if_icmp .ge 39, 3) else none))) else
   (bif Nat.blt pc 30 then (bif Nat.blt pc 29 then (bif Nat.beq pc 28 then some (.aload_n 0, 1) else none) else
     (bif Nat.beq pc 29 then some (.aload_n 0, 1) else none)) else
    (bif Nat.blt pc 33 then (bif Nat.beq pc 30 then some (.getfield 11, 3) else none) else
     (bif Nat.beq pc 33 then some (.aload_n 0, 1) else none))))) else
 (bif Nat.blt pc 50 then (bif Nat.blt pc 42 then (bif Nat.blt pc 38 then (bif Nat.blt pc 37 then (bif Nat.beq pc 34 then some (.getfield 47, 3) else none) else
     (bif Nat.beq pc 37 then some (.iaload, 1) else none)) else
    (bif Nat.blt pc 41 then (bif Nat.beq pc 38 then some (.putfield 32, 3) else none) else
     (bif Nat.beq pc 41 then some (.aload_n 0, 1) else none))) else
   (bif Nat.blt pc 46 then (bif Nat.blt pc 43 then (bif Nat.beq pc 42 then some (.aload_n 0, 1) else none) else
     (bif Nat.beq pc 43 then some (.getfield 15, 3) else none)) else
    (bif Nat.blt pc 47 then (bif Nat.beq pc 46 then some (.aload_n 0, 1) else none) else
     (bif Nat.beq pc 47 then some (.getfield 47, 3) else none)))) else
  (bif Nat.blt pc 56 then (bif Nat.blt pc 54 then (bif Nat.blt pc 51 then (bif Nat.beq pc 50 then some (.iaload, 1) else none) else
     (bif Nat.beq pc 51 then some (.putfield 44, 3) else none)) else
    (bif Nat.blt pc 55 then (bif Nat.beq pc 54 then some (.aload_n 0, 1) else none) else
     (bif Nat.beq pc 55 then some (.dup, 1) else none))) else
   (bif Nat.blt pc 60 then (bif Nat.blt pc 59 then (bif Nat.beq pc 56 then some (.getfield 47, 3) else none) else
     (bif Nat.beq pc 59 then some (.iconst 1, 1) else none)) else
    (bif Nat.blt pc 61 then (bif Nat.beq pc 60 then some (.iadd, 1) else none) else
     (bif Nat.blt pc 64 then (bif Nat.beq pc 61 then some (.putfield 47, 3) else none) else
      (bif Nat.beq pc 64 then some (.return_, 1) else none))))))) else none
set_option maxRecDepth 10000 in
noncomputable def zc_92 (pc : Nat) : Option (Instr × Nat) :=
 bif Nat.blt pc 152 then (bif Nat.blt pc 80 then (bif Nat.blt pc 37 then (bif Nat.blt pc 17 then (bif Nat.blt pc 7 then (bif Nat.blt pc 4 then (bif Nat.blt pc 1 then (bif Nat.beq pc 0 then some (.aload_n 0, 1) else none) else
      (bif Nat.beq pc 1 then some (.invokespecial 3, 3) else none)) else
     (bif Nat.blt pc 5 then (bif Nat.beq pc 4 then some (.aload_n 0, 1) else none) else
      (bif Nat.beq pc 5 then some (.bipush 24, 2) else none))) else
    (bif Nat.blt pc 12 then (bif Nat.blt pc 9 then (bif Nat.beq pc 7 then some (.newarray .long, 2) else none) else
      (bif Nat.beq pc 9 then some (.putfield 9, 3) else none)) else
     (bif Nat.blt pc 13 then (bif Nat.beq pc 12 then some (.aload_n 0, 1) else none) else
      (bif Nat.blt pc 15 then (bif Nat.beq pc 13 then some (.bipush 24, 2) else none) else
       (bif Nat.beq pc 15 then some (.newarray .long, 2) else none))))) else
   (bif Nat.blt pc 28 then (bif Nat.blt pc 21 then (bif Nat.blt pc 20 then (bif Nat.beq pc 17 then some (.putfield 15, 3) else none) else
      (bif Nat.beq pc 20 then some (.aload_n 0, 1) else none)) else
     (bif Nat.blt pc 23 then (bif Nat.beq pc 21 then some (.bipush 24, 2) else none) else
      (bif Nat.blt pc 25 then (bif Nat.beq pc 23 then some (.newarray .long, 2) else none) else
       (bif Nat.beq pc 25 then some (.putfield 18, 3) else none)))) else
    (bif Nat.blt pc 31 then (bif Nat.blt pc 29 then (bif Nat.beq pc 28 then some (.aload_n 0, 1) else none) else
      (bif Nat.beq pc 29 then some (.bipush 24, 2) else none)) else
     (bif Nat.blt pc 33 then (bif Nat.beq pc 31 then some (.newarray .long, 2) else none) else
      (bif Nat.blt pc 36 then (bif Nat.beq pc 33 then some (.putfield 21, 3) else none) else
       (bif Nat.beq pc 36 then some (.aload_n 0, 1) else none)))))) else
  (bif Nat.blt pc 58 then (bif Nat.blt pc 47 then (bif Nat.blt pc 41 then (bif Nat.blt pc 39 then (bif Nat.beq pc 37 then some (.bipush 24, 2) else none) else
      (bif Nat.beq pc 39 then some (.newarray .long, 2) else none)) else
     (bif Nat.blt pc 44 then (bif Nat.beq pc 41 then some (.putfield 24, 3) else none) else
      (bif Nat.blt pc 45 then (bif Nat.beq pc 44 then some (.aload_n 0, 1) else none) else
       (bif Nat.beq pc 45 then some (.bipush 24, 2) else none)))) else
    (bif Nat.blt pc 52 then (bif Nat.blt pc 49 then (bif Nat.beq pc 47 then some (.newarray .int, 2) else none) else
      (bif Nat.beq pc 49 then some (.putfield 27, 3) else none)) else
     (bif Nat.blt pc 53 then (bif Nat.beq pc 52 then some (.aload_n 0, 1) else none) else
      (bif Nat.blt pc 55 then (bif Nat.beq pc 53 then some (.bipush 24, 2) else none) else
       (bif Nat.beq pc 55 then some (.anewarray 31, 3) else none))))) else
   (bif Nat.blt pc 70 then (bif Nat.blt pc 62 then (bif Nat.blt pc 61 then (bif Nat.beq pc 58 then some (.putfield 33, 3) else none) else
      (bif Nat.beq pc 61 then some (.aload_n 0, 1) else none)) else
     (bif Nat.blt pc 64 then (bif Nat.beq pc 62 then some (.bipush 13, 2) else none) else
      (bif Nat.blt pc 67 then (bif Nat.beq pc 64 then some (.anewarray 31, 3) else none) else
       (bif Nat.beq pc 67 then some (.putfield 37, 3) else none)))) else
    (bif Nat.blt pc 74 then (bif Nat.blt pc 71 then (bif Nat.beq pc 70 then some (.aload_n 0, 1) else none) else
      (bif Nat.beq pc 71 then some (.sipush 200, 3) else none)) else
     (bif Nat.blt pc 76 then (bif Nat.beq pc 74 then some (.newarray .long, 2) else none) else
      (bif Nat.blt pc 79 then (bif Nat.beq pc 76 then some (.putfield 40, 3) else none) else
       (bif Nat.beq pc 79 then some (.aload_n 0, 1) else none))))))) else
 (bif Nat.blt pc 117 then (bif Nat.blt pc 98 then (bif Nat.blt pc 90 then (bif Nat.blt pc 85 then (bif Nat.blt pc 83 then (bif Nat.beq pc 80 then some (.sipush 200, 3) else none) else
      (bif Nat.beq pc 83 then some (.newarray .long, 2) else none)) else
     (bif Nat.blt pc 88 then (bif Nat.beq pc 85 then some (.putfield 43, 3) else none) else
      (bif Nat.blt pc 89 then (bif Nat.beq pc 88 then some (.aload_n 0, 1) else none) else
       (bif Nat.beq pc 89 then some (.aload_n 1, 1) else none)))) else
    (bif Nat.blt pc 94 then (bif Nat.blt pc 93 then (bif Nat.beq pc 90 then some (.putfield 46, 3) else none) else
      (bif Nat.beq pc 93 then some (.iconst 0, 1) else none)) else
     (bif Nat.blt pc 95 then (bif Nat.beq pc 94 then some (.istore_n 2, 1) else none) else
      (bif Nat.blt pc 96 then (bif Nat.beq pc 95 then some (.iload_n 2, 1) else none) else
       (bif Nat.beq pc 96 then some (.bipush 24, 2) else none))))) else
   (bif Nat.blt pc 107 then (bif Nat.blt pc 102 then (bif Nat.blt pc 101 then (bif Nat.beq pc 98 then some (.if_icmp .ge 16, 3) else none) else
      (bif Nat.beq pc 101 then some (.aload_n 0, 1) else none)) else
     (bif Nat.blt pc 105 then (bif Nat.beq pc 102 then some (.getfield 33, 3) else none) else
      (bif Nat.blt pc 106 then (bif Nat.beq pc 105 then some (.iload_n 2, 1) else none) else
       (bif Nat.beq pc 106 then some (.aload_n 1, 1) else none)))) else
    (bif Nat.blt pc 111 then (bif Nat.blt pc 108 then (bif Nat.beq pc 107 then some (.aastore, 1) else none) else
      (bif Nat.beq pc 108 then some (.iinc 2 1, 3) else none)) else
     (bif Nat.blt pc 114 then (bif Nat.beq pc 111 then some (.goto (-16), 3) else none) else
      (bif Nat.blt pc 115 then (bif Nat.beq pc 114 then some (.iconst 3, 1) else none) else
       (bif Nat.beq pc 115 then some (.newarray .byte, 2) else none)))))) else
  (bif Nat.blt pc 134 then (bif Nat.blt pc 123 then (bif Nat.blt pc 119 then (bif Nat.blt pc 118 then (bif Nat.beq pc 117 then some (.astore_n 2, 1) else none) else
      (bif Nat.beq pc 118 then some (.iconst 0, 1) else none)) else
     (bif Nat.blt pc 120 then (bif Nat.beq pc 119 then some (.istore_n 3, 1) else none) else
      (bif Nat.blt pc 121 then (bif Nat.beq pc 120 then some (.iload_n 3, 1) else none) else
       (bif Nat.beq pc 121 then some (.bipush 13, 2) else none)))) else
    (bif Nat.blt pc 127 then (bif Nat.blt pc 126 then (bif Nat.beq pc 123 then some (.if_icmp .ge 28, 3) else none) else
      (bif Nat.beq pc 126 then some (.aload_n 0, 1) else none)) else
     (bif Nat.blt pc 130 then (bif Nat.beq pc 127 then some (.getfield 37, 3) else none) else
      (bif Nat.blt pc 131 then (bif Nat.beq pc 130 then some (.iload_n 3, 1) else none) else
       (bif Nat.beq pc 131 then some (.new 31, 3) else none))))) else
   (bif Nat.blt pc 141 then (bif Nat.blt pc 136 then (bif Nat.blt pc 135 then (bif Nat.beq pc 134 then some (.dup, 1) else none) else
      (bif Nat.beq pc 135 then some (.aload_n 2, 1) else none)) else
     (bif Nat.blt pc 137 then (bif Nat.beq pc 136 then some (.iload_n 3, 1) else none) else
      (bif Nat.blt pc 138 then (bif Nat.beq pc 137 then some (.aload_n 2, 1) else none) else
       (bif Nat.beq pc 138 then some (.invokestatic 50, 3) else none)))) else
    (bif Nat.blt pc 145 then (bif Nat.blt pc 144 then (bif Nat.beq pc 141 then some (.invokespecial 54, 3) else none) else
      (bif Nat.beq pc 144 then some (.aastore, 1) else none)) else
     (bif Nat.blt pc 148 then (bif Nat.beq pc 145 then some (.iinc 3 1, 3) else none) else
      (bif Nat.blt pc 151 then (bif Nat.beq pc 148 then some (.goto (-28), 3) else none) else
       (bif Nat.beq pc 151 then some (.return_, 1) else none)))))))) else none
set_option maxRecDepth 10000 in
noncomputable def zc_93 (pc : Nat) : Option (Instr × Nat) :=
 bif Nat.blt pc 73 then (bif Nat.blt pc 35 then (bif Nat.blt pc 17 then (bif Nat.blt pc 8 then (bif Nat.blt pc 3 then (bif Nat.blt pc 1 then (bif Nat.beq pc 0 then some (.aload_n 1, 1) else none) else
     (bif Nat.blt pc 2 then (bif Nat.beq pc 1 then some (.arraylength, 1) else none) else
      (bif Nat.beq pc 2 then some (.iconst 3, 1) else none))) else
    (bif Nat.blt pc 6 then (bif Nat.beq pc 3 then some (.if_icmp .ge 5, 3) else none) else
     (bif Nat.blt pc 7 then (bif Nat.beq pc 6 then some (.iconst 0, 1) else none) else
      (bif Nat.beq pc 7 then some (.ireturn, 1) else none)))) else
   (bif Nat.blt pc 14 then (bif Nat.blt pc 9 then (bif Nat.beq pc 8 then some (.iload_n 0, 1) else none) else
     (bif Nat.blt pc 11 then (bif Nat.beq pc 9 then some (.bipush 7, 2) else none) else
      (bif Nat.beq pc 11 then some (.if_icmp .ge 10, 3) else none))) else
    (bif Nat.blt pc 15 then (bif Nat.beq pc 14 then some (.aload_n 1, 1) else none) else
     (bif Nat.blt pc 16 then (bif Nat.beq pc 15 then some (.iconst 0, 1) else none) else
      (bif Nat.beq pc 16 then some (.iload_n 0, 1) else none))))) else
  (bif Nat.blt pc 24 then (bif Nat.blt pc 20 then (bif Nat.blt pc 18 then (bif Nat.beq pc 17 then some (.i2b, 1) else none) else
     (bif Nat.blt pc 19 then (bif Nat.beq pc 18 then some (.bastore, 1) else none) else
      (bif Nat.beq pc 19 then some (.iconst 1, 1) else none))) else
    (bif Nat.blt pc 21 then (bif Nat.beq pc 20 then some (.ireturn, 1) else none) else
     (bif Nat.blt pc 22 then (bif Nat.beq pc 21 then some (.iload_n 0, 1) else none) else
      (bif Nat.beq pc 22 then some (.bipush 10, 2) else none)))) else
   (bif Nat.blt pc 31 then (bif Nat.blt pc 27 then (bif Nat.beq pc 24 then some (.if_icmp .ge 7, 3) else none) else
     (bif Nat.blt pc 28 then (bif Nat.beq pc 27 then some (.iconst 1, 1) else none) else
      (bif Nat.beq pc 28 then some (.goto 4, 3) else none))) else
    (bif Nat.blt pc 33 then (bif Nat.blt pc 32 then (bif Nat.beq pc 31 then some (.iconst 0, 1) else none) else
      (bif Nat.beq pc 32 then some (.istore_n 2, 1) else none)) else
     (bif Nat.blt pc 34 then (bif Nat.beq pc 33 then some (.aload_n 1, 1) else none) else
      (bif Nat.beq pc 34 then some (.iconst 0, 1) else none)))))) else
 (bif Nat.blt pc 54 then (bif Nat.blt pc 47 then (bif Nat.blt pc 41 then (bif Nat.blt pc 36 then (bif Nat.beq pc 35 then some (.iload_n 2, 1) else none) else
     (bif Nat.blt pc 39 then (bif Nat.beq pc 36 then some (.ifCond .eq 8, 3) else none) else
      (bif Nat.beq pc 39 then some (.bipush 7, 2) else none))) else
    (bif Nat.blt pc 44 then (bif Nat.beq pc 41 then some (.goto 5, 3) else none) else
     (bif Nat.blt pc 46 then (bif Nat.beq pc 44 then some (.bipush 8, 2) else none) else
      (bif Nat.beq pc 46 then some (.i2b, 1) else none)))) else
   (bif Nat.blt pc 50 then (bif Nat.blt pc 48 then (bif Nat.beq pc 47 then some (.bastore, 1) else none) else
     (bif Nat.blt pc 49 then (bif Nat.beq pc 48 then some (.aload_n 1, 1) else none) else
      (bif Nat.beq pc 49 then some (.iconst 1, 1) else none))) else
    (bif Nat.blt pc 52 then (bif Nat.blt pc 51 then (bif Nat.beq pc 50 then some (.iconst 4, 1) else none) else
      (bif Nat.beq pc 51 then some (.iload_n 0, 1) else none)) else
     (bif Nat.blt pc 53 then (bif Nat.beq pc 52 then some (.iadd, 1) else none) else
      (bif Nat.beq pc 53 then some (.iload_n 2, 1) else none))))) else
  (bif Nat.blt pc 66 then (bif Nat.blt pc 62 then (bif Nat.blt pc 57 then (bif Nat.beq pc 54 then some (.ifCond .eq 8, 3) else none) else
     (bif Nat.blt pc 59 then (bif Nat.beq pc 57 then some (.bipush 7, 2) else none) else
      (bif Nat.beq pc 59 then some (.goto 5, 3) else none))) else
    (bif Nat.blt pc 64 then (bif Nat.beq pc 62 then some (.bipush 10, 2) else none) else
     (bif Nat.blt pc 65 then (bif Nat.beq pc 64 then some (.isub, 1) else none) else
      (bif Nat.beq pc 65 then some (.i2b, 1) else none)))) else
   (bif Nat.blt pc 69 then (bif Nat.blt pc 67 then (bif Nat.beq pc 66 then some (.bastore, 1) else none) else
     (bif Nat.blt pc 68 then (bif Nat.beq pc 67 then some (.aload_n 1, 1) else none) else
      (bif Nat.beq pc 68 then some (.iconst 2, 1) else none))) else
    (bif Nat.blt pc 71 then (bif Nat.blt pc 70 then (bif Nat.beq pc 69 then some (.iconst 1, 1) else none) else
      (bif Nat.beq pc 70 then some (.bastore, 1) else none)) else
     (bif Nat.blt pc 72 then (bif Nat.beq pc 71 then some (.iconst 3, 1) else none) else
      (bif Nat.beq pc 72 then some (.ireturn, 1) else none))))))) else none
set_option maxRecDepth 10000 in
noncomputable def zc_94 (pc : Nat) : Option (Instr × Nat) :=
 bif Nat.blt pc 123 then (bif Nat.blt pc 63 then (bif Nat.blt pc 28 then (bif Nat.blt pc 11 then (bif Nat.blt pc 5 then (bif Nat.blt pc 1 then (bif Nat.beq pc 0 then some (.aload_n 0, 1) else none) else
     (bif Nat.blt pc 2 then (bif Nat.beq pc 1 then some (.aload_n 1, 1) else none) else
      (bif Nat.beq pc 2 then some (.putfield 59, 3) else none))) else
    (bif Nat.blt pc 7 then (bif Nat.blt pc 6 then (bif Nat.beq pc 5 then some (.aload_n 0, 1) else none) else
      (bif Nat.beq pc 6 then some (.aload_n 2, 1) else none)) else
     (bif Nat.blt pc 10 then (bif Nat.beq pc 7 then some (.putfield 63, 3) else none) else
      (bif Nat.beq pc 10 then some (.aload_n 0, 1) else none)))) else
   (bif Nat.blt pc 18 then (bif Nat.blt pc 12 then (bif Nat.beq pc 11 then some (.aload_n 0, 1) else none) else
     (bif Nat.blt pc 15 then (bif Nat.beq pc 12 then some (.getfield 63, 3) else none) else
      (bif Nat.beq pc 15 then some (.getfield 67, 3) else none))) else
    (bif Nat.blt pc 22 then (bif Nat.blt pc 21 then (bif Nat.beq pc 18 then some (.getfield 72, 3) else none) else
      (bif Nat.beq pc 21 then some (.aload_n 0, 1) else none)) else
     (bif Nat.blt pc 25 then (bif Nat.beq pc 22 then some (.getfield 63, 3) else none) else
      (bif Nat.beq pc 25 then some (.getfield 67, 3) else none))))) else
  (bif Nat.blt pc 43 then (bif Nat.blt pc 35 then (bif Nat.blt pc 31 then (bif Nat.beq pc 28 then some (.invokevirtual 76, 3) else none) else
     (bif Nat.blt pc 34 then (bif Nat.beq pc 31 then some (.invokevirtual 80, 3) else none) else
      (bif Nat.beq pc 34 then some (.aload_n 0, 1) else none))) else
    (bif Nat.blt pc 39 then (bif Nat.blt pc 36 then (bif Nat.beq pc 35 then some (.aload_n 0, 1) else none) else
      (bif Nat.beq pc 36 then some (.invokevirtual 83, 3) else none)) else
     (bif Nat.blt pc 42 then (bif Nat.beq pc 39 then some (.putfield 87, 3) else none) else
      (bif Nat.beq pc 42 then some (.aload_n 0, 1) else none)))) else
   (bif Nat.blt pc 53 then (bif Nat.blt pc 47 then (bif Nat.blt pc 44 then (bif Nat.beq pc 43 then some (.aload_n 0, 1) else none) else
      (bif Nat.beq pc 44 then some (.getfield 63, 3) else none)) else
     (bif Nat.blt pc 50 then (bif Nat.beq pc 47 then some (.getfield 90, 3) else none) else
      (bif Nat.beq pc 50 then some (.getfield 72, 3) else none))) else
    (bif Nat.blt pc 57 then (bif Nat.blt pc 54 then (bif Nat.beq pc 53 then some (.aload_n 0, 1) else none) else
      (bif Nat.beq pc 54 then some (.getfield 63, 3) else none)) else
     (bif Nat.blt pc 60 then (bif Nat.beq pc 57 then some (.getfield 90, 3) else none) else
      (bif Nat.beq pc 60 then some (.invokevirtual 76, 3) else none)))))) else
 (bif Nat.blt pc 92 then (bif Nat.blt pc 76 then (bif Nat.blt pc 68 then (bif Nat.blt pc 66 then (bif Nat.beq pc 63 then some (.invokevirtual 80, 3) else none) else
     (bif Nat.blt pc 67 then (bif Nat.beq pc 66 then some (.aload_n 0, 1) else none) else
      (bif Nat.beq pc 67 then some (.aload_n 0, 1) else none))) else
    (bif Nat.blt pc 74 then (bif Nat.blt pc 71 then (bif Nat.beq pc 68 then some (.invokevirtual 83, 3) else none) else
      (bif Nat.beq pc 71 then some (.putfield 93, 3) else none)) else
     (bif Nat.blt pc 75 then (bif Nat.beq pc 74 then some (.iconst 0, 1) else none) else
      (bif Nat.beq pc 75 then some (.istore_n 3, 1) else none)))) else
   (bif Nat.blt pc 84 then (bif Nat.blt pc 78 then (bif Nat.blt pc 77 then (bif Nat.beq pc 76 then some (.iload_n 3, 1) else none) else
      (bif Nat.beq pc 77 then some (.aload_n 0, 1) else none)) else
     (bif Nat.blt pc 81 then (bif Nat.beq pc 78 then some (.getfield 59, 3) else none) else
      (bif Nat.beq pc 81 then some (.getfield 95, 3) else none))) else
    (bif Nat.blt pc 88 then (bif Nat.blt pc 87 then (bif Nat.beq pc 84 then some (.if_icmp .ge 14, 3) else none) else
      (bif Nat.beq pc 87 then some (.aload_n 0, 1) else none)) else
     (bif Nat.blt pc 89 then (bif Nat.beq pc 88 then some (.iload_n 3, 1) else none) else
      (bif Nat.beq pc 89 then some (.invokevirtual 101, 3) else none))))) else
  (bif Nat.blt pc 105 then (bif Nat.blt pc 99 then (bif Nat.blt pc 95 then (bif Nat.beq pc 92 then some (.iinc 3 1, 3) else none) else
     (bif Nat.blt pc 98 then (bif Nat.beq pc 95 then some (.goto (-19), 3) else none) else
      (bif Nat.beq pc 98 then some (.iconst 0, 1) else none))) else
    (bif Nat.blt pc 101 then (bif Nat.blt pc 100 then (bif Nat.beq pc 99 then some (.istore_n 3, 1) else none) else
      (bif Nat.beq pc 100 then some (.iload_n 3, 1) else none)) else
     (bif Nat.blt pc 102 then (bif Nat.beq pc 101 then some (.aload_n 0, 1) else none) else
      (bif Nat.beq pc 102 then some (.getfield 59, 3) else none)))) else
   (bif Nat.blt pc 113 then (bif Nat.blt pc 111 then (bif Nat.blt pc 108 then (bif Nat.beq pc 105 then some (.getfield 105, 3) else none) else
      (bif Nat.beq pc 108 then some (.if_icmp .ge 14, 3) else none)) else
     (bif Nat.blt pc 112 then (bif Nat.beq pc 111 then some (.aload_n 0, 1) else none) else
      (bif Nat.beq pc 112 then some (.iload_n 3, 1) else none))) else
    (bif Nat.blt pc 119 then (bif Nat.blt pc 116 then (bif Nat.beq pc 113 then some (.invokevirtual 108, 3) else none) else
      (bif Nat.beq pc 116 then some (.iinc 3 1, 3) else none)) else
     (bif Nat.blt pc 122 then (bif Nat.beq pc 119 then some (.goto (-19), 3) else none) else
      (bif Nat.beq pc 122 then some (.return_, 1) else none))))))) else none
set_option maxRecDepth 10000 in
noncomputable def zc_95 (pc : Nat) : Option (Instr × Nat) :=
 bif Nat.blt pc 157 then (bif Nat.blt pc 64 then (bif Nat.blt pc 32 then (bif Nat.blt pc 17 then (bif Nat.blt pc 9 then (bif Nat.blt pc 2 then (bif Nat.blt pc 1 then (bif Nat.beq pc 0 then some (.aload_n 0, 1) else none) else
      (bif Nat.beq pc 1 then some (.iconst 0, 1) else none)) else
     (bif Nat.blt pc 5 then (bif Nat.beq pc 2 then some (.putfield 162, 3) else none) else
      (bif Nat.blt pc 6 then (bif Nat.beq pc 5 then some (.aload_n 0, 1) else none) else
       (bif Nat.beq pc 6 then some (.getfield 40, 3) else none)))) else
    (bif Nat.blt pc 12 then (bif Nat.blt pc 10 then (bif Nat.beq pc 9 then some (.iconst 0, 1) else none) else
      (bif Nat.blt pc 11 then (bif Nat.beq pc 10 then some (.lconst 0, 1) else none) else
       (bif Nat.beq pc 11 then some (.lastore, 1) else none))) else
     (bif Nat.blt pc 13 then (bif Nat.beq pc 12 then some (.aload_n 0, 1) else none) else
      (bif Nat.blt pc 16 then (bif Nat.beq pc 13 then some (.getfield 43, 3) else none) else
       (bif Nat.beq pc 16 then some (.iconst 0, 1) else none))))) else
   (bif Nat.blt pc 22 then (bif Nat.blt pc 19 then (bif Nat.blt pc 18 then (bif Nat.beq pc 17 then some (.lconst 0, 1) else none) else
      (bif Nat.beq pc 18 then some (.lastore, 1) else none)) else
     (bif Nat.blt pc 20 then (bif Nat.beq pc 19 then some (.iload_n 2, 1) else none) else
      (bif Nat.blt pc 21 then (bif Nat.beq pc 20 then some (.aload_n 1, 1) else none) else
       (bif Nat.beq pc 21 then some (.arraylength, 1) else none)))) else
    (bif Nat.blt pc 27 then (bif Nat.blt pc 25 then (bif Nat.beq pc 22 then some (.invokestatic 165, 3) else none) else
      (bif Nat.blt pc 26 then (bif Nat.beq pc 25 then some (.iconst 1, 1) else none) else
       (bif Nat.beq pc 26 then some (.isub, 1) else none))) else
     (bif Nat.blt pc 28 then (bif Nat.beq pc 27 then some (.istore_n 3, 1) else none) else
      (bif Nat.blt pc 29 then (bif Nat.beq pc 28 then some (.iload_n 3, 1) else none) else
       (bif Nat.beq pc 29 then some (.ifCond .lt 127, 3) else none)))))) else
  (bif Nat.blt pc 48 then (bif Nat.blt pc 39 then (bif Nat.blt pc 34 then (bif Nat.blt pc 33 then (bif Nat.beq pc 32 then some (.aload_n 1, 1) else none) else
      (bif Nat.beq pc 33 then some (.iload_n 3, 1) else none)) else
     (bif Nat.blt pc 35 then (bif Nat.beq pc 34 then some (.baload, 1) else none) else
      (bif Nat.blt pc 37 then (bif Nat.beq pc 35 then some (.istore 4, 2) else none) else
       (bif Nat.beq pc 37 then some (.iload 4, 2) else none)))) else
    (bif Nat.blt pc 44 then (bif Nat.blt pc 40 then (bif Nat.beq pc 39 then some (.iconst 4, 1) else none) else
      (bif Nat.blt pc 43 then (bif Nat.beq pc 40 then some (.if_icmp .ge 24, 3) else none) else
       (bif Nat.beq pc 43 then some (.aload_n 0, 1) else none))) else
     (bif Nat.blt pc 46 then (bif Nat.beq pc 44 then some (.iload 4, 2) else none) else
      (bif Nat.blt pc 47 then (bif Nat.beq pc 46 then some (.i2l, 1) else none) else
       (bif Nat.beq pc 47 then some (.lconst 1, 1) else none))))) else
   (bif Nat.blt pc 54 then (bif Nat.blt pc 50 then (bif Nat.blt pc 49 then (bif Nat.beq pc 48 then some (.land, 1) else none) else
      (bif Nat.beq pc 49 then some (.lneg, 1) else none)) else
     (bif Nat.blt pc 52 then (bif Nat.beq pc 50 then some (.iload 4, 2) else none) else
      (bif Nat.blt pc 53 then (bif Nat.beq pc 52 then some (.iconst 1, 1) else none) else
       (bif Nat.beq pc 53 then some (.ishr, 1) else none)))) else
    (bif Nat.blt pc 57 then (bif Nat.blt pc 55 then (bif Nat.beq pc 54 then some (.i2l, 1) else none) else
      (bif Nat.blt pc 56 then (bif Nat.beq pc 55 then some (.lconst 1, 1) else none) else
       (bif Nat.beq pc 56 then some (.land, 1) else none))) else
     (bif Nat.blt pc 58 then (bif Nat.beq pc 57 then some (.lneg, 1) else none) else
      (bif Nat.blt pc 61 then (bif Nat.beq pc 58 then some (.invokevirtual 168, 3) else none) else
       (bif Nat.beq pc 61 then some (.goto 89, 3) else none))))))) else
 (bif Nat.blt pc 108 then (bif Nat.blt pc 85 then (bif Nat.blt pc 75 then (bif Nat.blt pc 68 then (bif Nat.blt pc 66 then (bif Nat.beq pc 64 then some (.iload 4, 2) else none) else
      (bif Nat.beq pc 66 then some (.bipush 6, 2) else none)) else
     (bif Nat.blt pc 71 then (bif Nat.beq pc 68 then some (.if_icmp .gt 26, 3) else none) else
      (bif Nat.blt pc 72 then (bif Nat.beq pc 71 then some (.aload_n 0, 1) else none) else
       (bif Nat.beq pc 72 then some (.getstatic 172, 3) else none)))) else
    (bif Nat.blt pc 79 then (bif Nat.blt pc 77 then (bif Nat.beq pc 75 then some (.iload 4, 2) else none) else
      (bif Nat.blt pc 78 then (bif Nat.beq pc 77 then some (.iconst 4, 1) else none) else
       (bif Nat.beq pc 78 then some (.isub, 1) else none))) else
     (bif Nat.blt pc 80 then (bif Nat.beq pc 79 then some (.laload, 1) else none) else
      (bif Nat.blt pc 83 then (bif Nat.beq pc 80 then some (.getstatic 175, 3) else none) else
       (bif Nat.beq pc 83 then some (.iload 4, 2) else none))))) else
   (bif Nat.blt pc 94 then (bif Nat.blt pc 87 then (bif Nat.blt pc 86 then (bif Nat.beq pc 85 then some (.iconst 4, 1) else none) else
      (bif Nat.beq pc 86 then some (.isub, 1) else none)) else
     (bif Nat.blt pc 88 then (bif Nat.beq pc 87 then some (.laload, 1) else none) else
      (bif Nat.blt pc 91 then (bif Nat.beq pc 88 then some (.invokevirtual 168, 3) else none) else
       (bif Nat.beq pc 91 then some (.goto 59, 3) else none)))) else
    (bif Nat.blt pc 101 then (bif Nat.blt pc 96 then (bif Nat.beq pc 94 then some (.iload 4, 2) else none) else
      (bif Nat.blt pc 98 then (bif Nat.beq pc 96 then some (.bipush 10, 2) else none) else
       (bif Nat.beq pc 98 then some (.if_icmp .eq 10, 3) else none))) else
     (bif Nat.blt pc 103 then (bif Nat.beq pc 101 then some (.iload 4, 2) else none) else
      (bif Nat.blt pc 105 then (bif Nat.beq pc 103 then some (.bipush 11, 2) else none) else
       (bif Nat.beq pc 105 then some (.if_icmp .ne 25, 3) else none)))))) else
  (bif Nat.blt pc 132 then (bif Nat.blt pc 119 then (bif Nat.blt pc 111 then (bif Nat.blt pc 109 then (bif Nat.beq pc 108 then some (.aload_n 0, 1) else none) else
      (bif Nat.beq pc 109 then some (.iload 4, 2) else none)) else
     (bif Nat.blt pc 113 then (bif Nat.beq pc 111 then some (.bipush 10, 2) else none) else
      (bif Nat.blt pc 116 then (bif Nat.beq pc 113 then some (.if_icmp .ne 9, 3) else none) else
       (bif Nat.beq pc 116 then some (.ldc2_w 178, 3) else none)))) else
    (bif Nat.blt pc 124 then (bif Nat.blt pc 122 then (bif Nat.beq pc 119 then some (.goto 4, 3) else none) else
      (bif Nat.blt pc 123 then (bif Nat.beq pc 122 then some (.lconst 0, 1) else none) else
       (bif Nat.beq pc 123 then some (.lconst 0, 1) else none))) else
     (bif Nat.blt pc 127 then (bif Nat.beq pc 124 then some (.invokevirtual 168, 3) else none) else
      (bif Nat.blt pc 130 then (bif Nat.beq pc 127 then some (.goto 23, 3) else none) else
       (bif Nat.beq pc 130 then some (.iload 4, 2) else none))))) else
   (bif Nat.blt pc 144 then (bif Nat.blt pc 137 then (bif Nat.blt pc 134 then (bif Nat.beq pc 132 then some (.bipush 14, 2) else none) else
      (bif Nat.beq pc 134 then some (.if_icmp .ne 10, 3) else none)) else
     (bif Nat.blt pc 138 then (bif Nat.beq pc 137 then some (.aload_n 0, 1) else none) else
      (bif Nat.blt pc 141 then (bif Nat.beq pc 138 then some (.invokevirtual 180, 3) else none) else
       (bif Nat.beq pc 141 then some (.goto 9, 3) else none)))) else
    (bif Nat.blt pc 150 then (bif Nat.blt pc 145 then (bif Nat.beq pc 144 then some (.aload_n 0, 1) else none) else
      (bif Nat.blt pc 147 then (bif Nat.beq pc 145 then some (.iload 4, 2) else none) else
       (bif Nat.beq pc 147 then some (.invokevirtual 183, 3) else none))) else
     (bif Nat.blt pc 153 then (bif Nat.beq pc 150 then some (.iinc 3 (-1), 3) else none) else
      (bif Nat.blt pc 156 then (bif Nat.beq pc 153 then some (.goto (-125), 3) else none) else
       (bif Nat.beq pc 156 then some (.return_, 1) else none)))))))) else none
set_option maxRecDepth 10000 in
noncomputable def zc_96 (pc : Nat) : Option (Instr × Nat) :=
 bif Nat.blt pc 62 then (bif Nat.blt pc 35 then (bif Nat.blt pc 16 then (bif Nat.blt pc 8 then (bif Nat.blt pc 4 then (bif Nat.blt pc 1 then (bif Nat.beq pc 0 then some (.aload_n 0, 1) else none) else
     (bif Nat.beq pc 1 then some (.getfield 162, 3) else none)) else
    (bif Nat.blt pc 7 then (bif Nat.beq pc 4 then some (.ifCond .lt 57, 3) else none) else
     (bif Nat.beq pc 7 then some (.aload_n 0, 1) else none))) else
   (bif Nat.blt pc 12 then (bif Nat.blt pc 11 then (bif Nat.beq pc 8 then some (.getfield 162, 3) else none) else
     (bif Nat.beq pc 11 then some (.aload_n 0, 1) else none)) else
    (bif Nat.blt pc 15 then (bif Nat.beq pc 12 then some (.getfield 40, 3) else none) else
     (bif Nat.beq pc 15 then some (.arraylength, 1) else none)))) else
  (bif Nat.blt pc 24 then (bif Nat.blt pc 20 then (bif Nat.blt pc 19 then (bif Nat.beq pc 16 then some (.if_icmp .ge 45, 3) else none) else
     (bif Nat.beq pc 19 then some (.aload_n 0, 1) else none)) else
    (bif Nat.blt pc 23 then (bif Nat.beq pc 20 then some (.getfield 162, 3) else none) else
     (bif Nat.beq pc 23 then some (.aload_n 0, 1) else none))) else
   (bif Nat.blt pc 28 then (bif Nat.blt pc 27 then (bif Nat.beq pc 24 then some (.getfield 43, 3) else none) else
     (bif Nat.beq pc 27 then some (.arraylength, 1) else none)) else
    (bif Nat.blt pc 31 then (bif Nat.beq pc 28 then some (.if_icmp .ge 33, 3) else none) else
     (bif Nat.blt pc 32 then (bif Nat.beq pc 31 then some (.aload_n 0, 1) else none) else
      (bif Nat.beq pc 32 then some (.getfield 40, 3) else none)))))) else
 (bif Nat.blt pc 49 then (bif Nat.blt pc 41 then (bif Nat.blt pc 39 then (bif Nat.blt pc 36 then (bif Nat.beq pc 35 then some (.aload_n 0, 1) else none) else
     (bif Nat.beq pc 36 then some (.getfield 162, 3) else none)) else
    (bif Nat.blt pc 40 then (bif Nat.beq pc 39 then some (.lload_n 1, 1) else none) else
     (bif Nat.beq pc 40 then some (.lastore, 1) else none))) else
   (bif Nat.blt pc 45 then (bif Nat.blt pc 42 then (bif Nat.beq pc 41 then some (.aload_n 0, 1) else none) else
     (bif Nat.beq pc 42 then some (.getfield 43, 3) else none)) else
    (bif Nat.blt pc 46 then (bif Nat.beq pc 45 then some (.aload_n 0, 1) else none) else
     (bif Nat.beq pc 46 then some (.getfield 162, 3) else none)))) else
  (bif Nat.blt pc 53 then (bif Nat.blt pc 51 then (bif Nat.blt pc 50 then (bif Nat.beq pc 49 then some (.lload_n 3, 1) else none) else
     (bif Nat.beq pc 50 then some (.lastore, 1) else none)) else
    (bif Nat.blt pc 52 then (bif Nat.beq pc 51 then some (.aload_n 0, 1) else none) else
     (bif Nat.beq pc 52 then some (.dup, 1) else none))) else
   (bif Nat.blt pc 57 then (bif Nat.blt pc 56 then (bif Nat.beq pc 53 then some (.getfield 162, 3) else none) else
     (bif Nat.beq pc 56 then some (.iconst 1, 1) else none)) else
    (bif Nat.blt pc 58 then (bif Nat.beq pc 57 then some (.iadd, 1) else none) else
     (bif Nat.blt pc 61 then (bif Nat.beq pc 58 then some (.putfield 162, 3) else none) else
      (bif Nat.beq pc 61 then some (.return_, 1) else none))))))) else none
set_option maxRecDepth 10000 in
noncomputable def zc_97 (pc : Nat) : Option (Instr × Nat) :=
 bif Nat.blt pc 47 then (bif Nat.blt pc 25 then (bif Nat.blt pc 12 then (bif Nat.blt pc 5 then (bif Nat.blt pc 1 then (bif Nat.beq pc 0 then some (.aload_n 0, 1) else none) else
    (bif Nat.blt pc 4 then (bif Nat.beq pc 1 then some (.getfield 162, 3) else none) else
     (bif Nat.beq pc 4 then some (.iconst 1, 1) else none))) else
   (bif Nat.blt pc 8 then (bif Nat.beq pc 5 then some (.if_icmp .lt 41, 3) else none) else
    (bif Nat.blt pc 9 then (bif Nat.beq pc 8 then some (.aload_n 0, 1) else none) else
     (bif Nat.beq pc 9 then some (.getfield 162, 3) else none)))) else
  (bif Nat.blt pc 17 then (bif Nat.blt pc 13 then (bif Nat.beq pc 12 then some (.aload_n 0, 1) else none) else
    (bif Nat.blt pc 16 then (bif Nat.beq pc 13 then some (.getfield 40, 3) else none) else
     (bif Nat.beq pc 16 then some (.arraylength, 1) else none))) else
   (bif Nat.blt pc 21 then (bif Nat.blt pc 20 then (bif Nat.beq pc 17 then some (.if_icmp .gt 29, 3) else none) else
     (bif Nat.beq pc 20 then some (.aload_n 0, 1) else none)) else
    (bif Nat.blt pc 24 then (bif Nat.beq pc 21 then some (.getfield 40, 3) else none) else
     (bif Nat.beq pc 24 then some (.aload_n 0, 1) else none))))) else
 (bif Nat.blt pc 38 then (bif Nat.blt pc 30 then (bif Nat.blt pc 28 then (bif Nat.beq pc 25 then some (.getfield 162, 3) else none) else
    (bif Nat.blt pc 29 then (bif Nat.beq pc 28 then some (.iconst 1, 1) else none) else
     (bif Nat.beq pc 29 then some (.isub, 1) else none))) else
   (bif Nat.blt pc 34 then (bif Nat.blt pc 31 then (bif Nat.beq pc 30 then some (.aload_n 0, 1) else none) else
     (bif Nat.beq pc 31 then some (.getfield 40, 3) else none)) else
    (bif Nat.blt pc 35 then (bif Nat.beq pc 34 then some (.aload_n 0, 1) else none) else
     (bif Nat.beq pc 35 then some (.getfield 162, 3) else none)))) else
  (bif Nat.blt pc 41 then (bif Nat.blt pc 39 then (bif Nat.beq pc 38 then some (.iconst 1, 1) else none) else
    (bif Nat.blt pc 40 then (bif Nat.beq pc 39 then some (.isub, 1) else none) else
     (bif Nat.beq pc 40 then some (.laload, 1) else none))) else
   (bif Nat.blt pc 45 then (bif Nat.blt pc 44 then (bif Nat.beq pc 41 then some (.ldc2_w 178, 3) else none) else
     (bif Nat.beq pc 44 then some (.lxor, 1) else none)) else
    (bif Nat.blt pc 46 then (bif Nat.beq pc 45 then some (.lastore, 1) else none) else
     (bif Nat.beq pc 46 then some (.return_, 1) else none)))))) else none
set_option maxRecDepth 10000 in
noncomputable def zc_98 (pc : Nat) : Option (Instr × Nat) :=
 bif Nat.blt pc 299 then (bif Nat.blt pc 174 then (bif Nat.blt pc 65 then (bif Nat.blt pc 34 then (bif Nat.blt pc 17 then (bif Nat.blt pc 8 then (bif Nat.blt pc 4 then (bif Nat.blt pc 1 then (bif Nat.beq pc 0 then some (.aload_n 0, 1) else none) else
       (bif Nat.beq pc 1 then some (.getfield 162, 3) else none)) else
      (bif Nat.blt pc 5 then (bif Nat.beq pc 4 then some (.iconst 2, 1) else none) else
       (bif Nat.beq pc 5 then some (.if_icmp .lt 27, 3) else none))) else
     (bif Nat.blt pc 12 then (bif Nat.blt pc 9 then (bif Nat.beq pc 8 then some (.aload_n 0, 1) else none) else
       (bif Nat.beq pc 9 then some (.getfield 162, 3) else none)) else
      (bif Nat.blt pc 13 then (bif Nat.beq pc 12 then some (.aload_n 0, 1) else none) else
       (bif Nat.blt pc 16 then (bif Nat.beq pc 13 then some (.getfield 40, 3) else none) else
        (bif Nat.beq pc 16 then some (.arraylength, 1) else none))))) else
    (bif Nat.blt pc 25 then (bif Nat.blt pc 21 then (bif Nat.blt pc 20 then (bif Nat.beq pc 17 then some (.if_icmp .gt 15, 3) else none) else
       (bif Nat.beq pc 20 then some (.aload_n 0, 1) else none)) else
      (bif Nat.blt pc 24 then (bif Nat.beq pc 21 then some (.getfield 162, 3) else none) else
       (bif Nat.beq pc 24 then some (.aload_n 0, 1) else none))) else
     (bif Nat.blt pc 29 then (bif Nat.blt pc 28 then (bif Nat.beq pc 25 then some (.getfield 43, 3) else none) else
       (bif Nat.beq pc 28 then some (.arraylength, 1) else none)) else
      (bif Nat.blt pc 32 then (bif Nat.beq pc 29 then some (.if_icmp .le 4, 3) else none) else
       (bif Nat.blt pc 33 then (bif Nat.beq pc 32 then some (.return_, 1) else none) else
        (bif Nat.beq pc 33 then some (.aload_n 0, 1) else none)))))) else
   (bif Nat.blt pc 51 then (bif Nat.blt pc 40 then (bif Nat.blt pc 38 then (bif Nat.blt pc 35 then (bif Nat.beq pc 34 then some (.dup, 1) else none) else
       (bif Nat.beq pc 35 then some (.getfield 162, 3) else none)) else
      (bif Nat.blt pc 39 then (bif Nat.beq pc 38 then some (.iconst 1, 1) else none) else
       (bif Nat.beq pc 39 then some (.isub, 1) else none))) else
     (bif Nat.blt pc 44 then (bif Nat.blt pc 43 then (bif Nat.beq pc 40 then some (.putfield 162, 3) else none) else
       (bif Nat.beq pc 43 then some (.aload_n 0, 1) else none)) else
      (bif Nat.blt pc 47 then (bif Nat.beq pc 44 then some (.getfield 40, 3) else none) else
       (bif Nat.blt pc 48 then (bif Nat.beq pc 47 then some (.aload_n 0, 1) else none) else
        (bif Nat.beq pc 48 then some (.getfield 162, 3) else none))))) else
    (bif Nat.blt pc 57 then (bif Nat.blt pc 53 then (bif Nat.blt pc 52 then (bif Nat.beq pc 51 then some (.laload, 1) else none) else
       (bif Nat.beq pc 52 then some (.lstore_n 2, 1) else none)) else
      (bif Nat.blt pc 54 then (bif Nat.beq pc 53 then some (.aload_n 0, 1) else none) else
       (bif Nat.beq pc 54 then some (.getfield 43, 3) else none))) else
     (bif Nat.blt pc 61 then (bif Nat.blt pc 58 then (bif Nat.beq pc 57 then some (.aload_n 0, 1) else none) else
       (bif Nat.beq pc 58 then some (.getfield 162, 3) else none)) else
      (bif Nat.blt pc 62 then (bif Nat.beq pc 61 then some (.laload, 1) else none) else
       (bif Nat.blt pc 64 then (bif Nat.beq pc 62 then some (.lstore 4, 2) else none) else
        (bif Nat.beq pc 64 then some (.aload_n 0, 1) else none))))))) else
  (bif Nat.blt pc 94 then (bif Nat.blt pc 81 then (bif Nat.blt pc 73 then (bif Nat.blt pc 69 then (bif Nat.blt pc 68 then (bif Nat.beq pc 65 then some (.getfield 40, 3) else none) else
       (bif Nat.beq pc 68 then some (.aload_n 0, 1) else none)) else
      (bif Nat.blt pc 72 then (bif Nat.beq pc 69 then some (.getfield 162, 3) else none) else
       (bif Nat.beq pc 72 then some (.iconst 1, 1) else none))) else
     (bif Nat.blt pc 75 then (bif Nat.blt pc 74 then (bif Nat.beq pc 73 then some (.isub, 1) else none) else
       (bif Nat.beq pc 74 then some (.laload, 1) else none)) else
      (bif Nat.blt pc 77 then (bif Nat.beq pc 75 then some (.lstore 6, 2) else none) else
       (bif Nat.blt pc 78 then (bif Nat.beq pc 77 then some (.aload_n 0, 1) else none) else
        (bif Nat.beq pc 78 then some (.getfield 43, 3) else none))))) else
    (bif Nat.blt pc 87 then (bif Nat.blt pc 85 then (bif Nat.blt pc 82 then (bif Nat.beq pc 81 then some (.aload_n 0, 1) else none) else
       (bif Nat.beq pc 82 then some (.getfield 162, 3) else none)) else
      (bif Nat.blt pc 86 then (bif Nat.beq pc 85 then some (.iconst 1, 1) else none) else
       (bif Nat.beq pc 86 then some (.isub, 1) else none))) else
     (bif Nat.blt pc 90 then (bif Nat.blt pc 88 then (bif Nat.beq pc 87 then some (.laload, 1) else none) else
       (bif Nat.beq pc 88 then some (.lstore 8, 2) else none)) else
      (bif Nat.blt pc 91 then (bif Nat.beq pc 90 then some (.lload_n 2, 1) else none) else
       (bif Nat.blt pc 93 then (bif Nat.beq pc 91 then some (.lload 6, 2) else none) else
        (bif Nat.beq pc 93 then some (.lxor, 1) else none)))))) else
   (bif Nat.blt pc 156 then (bif Nat.blt pc 101 then (bif Nat.blt pc 98 then (bif Nat.blt pc 96 then (bif Nat.beq pc 94 then some (.lstore 10, 2) else none) else
       (bif Nat.beq pc 96 then some (.lload 4, 2) else none)) else
      (bif Nat.blt pc 100 then (bif Nat.beq pc 98 then some (.lload 8, 2) else none) else
       (bif Nat.beq pc 100 then some (.lxor, 1) else none))) else
     (bif Nat.blt pc 104 then (bif Nat.blt pc 103 then (bif Nat.beq pc 101 then some (.lstore 12, 2) else none) else
       (bif Nat.beq pc 103 then some (.lconst 0, 1) else none)) else
      (bif Nat.blt pc 106 then (bif Nat.beq pc 104 then some (.lstore 16, 2) else none) else
       (bif Nat.blt pc 107 then (bif Nat.beq pc 106 then some (.iload_n 1, 1) else none) else
        (bif Nat.beq pc 107 then some (.tableswitch 159 7 15 #[49, 65, 85, 159, 159, 106, 120, 159, 150], 49) else none))))) else
    (bif Nat.blt pc 165 then (bif Nat.blt pc 160 then (bif Nat.blt pc 158 then (bif Nat.beq pc 156 then some (.lload 10, 2) else none) else
       (bif Nat.beq pc 158 then some (.lstore 14, 2) else none)) else
      (bif Nat.blt pc 162 then (bif Nat.beq pc 160 then some (.lload 12, 2) else none) else
       (bif Nat.blt pc 163 then (bif Nat.beq pc 162 then some (.lload_n 2, 1) else none) else
        (bif Nat.beq pc 163 then some (.lload 6, 2) else none)))) else
     (bif Nat.blt pc 167 then (bif Nat.blt pc 166 then (bif Nat.beq pc 165 then some (.land, 1) else none) else
       (bif Nat.beq pc 166 then some (.lxor, 1) else none)) else
      (bif Nat.blt pc 169 then (bif Nat.beq pc 167 then some (.lstore 16, 2) else none) else
       (bif Nat.blt pc 172 then (bif Nat.beq pc 169 then some (.goto 103, 3) else none) else
        (bif Nat.beq pc 172 then some (.lload 10, 2) else none)))))))) else
 (bif Nat.blt pc 238 then (bif Nat.blt pc 204 then (bif Nat.blt pc 189 then (bif Nat.blt pc 182 then (bif Nat.blt pc 178 then (bif Nat.blt pc 176 then (bif Nat.beq pc 174 then some (.lstore 14, 2) else none) else
       (bif Nat.beq pc 176 then some (.lload 12, 2) else none)) else
      (bif Nat.blt pc 179 then (bif Nat.beq pc 178 then some (.lload_n 2, 1) else none) else
       (bif Nat.beq pc 179 then some (.ldc2_w 178, 3) else none))) else
     (bif Nat.blt pc 185 then (bif Nat.blt pc 183 then (bif Nat.beq pc 182 then some (.lxor, 1) else none) else
       (bif Nat.beq pc 183 then some (.lload 6, 2) else none)) else
      (bif Nat.blt pc 186 then (bif Nat.beq pc 185 then some (.land, 1) else none) else
       (bif Nat.blt pc 187 then (bif Nat.beq pc 186 then some (.lxor, 1) else none) else
        (bif Nat.beq pc 187 then some (.lstore 16, 2) else none))))) else
    (bif Nat.blt pc 196 then (bif Nat.blt pc 193 then (bif Nat.blt pc 192 then (bif Nat.beq pc 189 then some (.goto 83, 3) else none) else
       (bif Nat.beq pc 192 then some (.lload_n 2, 1) else none)) else
      (bif Nat.blt pc 195 then (bif Nat.beq pc 193 then some (.lload 6, 2) else none) else
       (bif Nat.beq pc 195 then some (.land, 1) else none))) else
     (bif Nat.blt pc 200 then (bif Nat.blt pc 198 then (bif Nat.beq pc 196 then some (.lstore 14, 2) else none) else
       (bif Nat.beq pc 198 then some (.lload 4, 2) else none)) else
      (bif Nat.blt pc 202 then (bif Nat.beq pc 200 then some (.lload 6, 2) else none) else
       (bif Nat.blt pc 203 then (bif Nat.beq pc 202 then some (.land, 1) else none) else
        (bif Nat.beq pc 203 then some (.lload_n 2, 1) else none)))))) else
   (bif Nat.blt pc 221 then (bif Nat.blt pc 210 then (bif Nat.blt pc 207 then (bif Nat.blt pc 206 then (bif Nat.beq pc 204 then some (.lload 8, 2) else none) else
       (bif Nat.beq pc 206 then some (.land, 1) else none)) else
      (bif Nat.blt pc 208 then (bif Nat.beq pc 207 then some (.lxor, 1) else none) else
       (bif Nat.beq pc 208 then some (.lstore 16, 2) else none))) else
     (bif Nat.blt pc 215 then (bif Nat.blt pc 213 then (bif Nat.beq pc 210 then some (.goto 62, 3) else none) else
       (bif Nat.beq pc 213 then some (.lload 10, 2) else none)) else
      (bif Nat.blt pc 217 then (bif Nat.beq pc 215 then some (.lload 12, 2) else none) else
       (bif Nat.blt pc 218 then (bif Nat.beq pc 217 then some (.lor, 1) else none) else
        (bif Nat.beq pc 218 then some (.ldc2_w 178, 3) else none))))) else
    (bif Nat.blt pc 229 then (bif Nat.blt pc 224 then (bif Nat.blt pc 222 then (bif Nat.beq pc 221 then some (.lxor, 1) else none) else
       (bif Nat.beq pc 222 then some (.lstore 14, 2) else none)) else
      (bif Nat.blt pc 227 then (bif Nat.beq pc 224 then some (.goto 48, 3) else none) else
       (bif Nat.beq pc 227 then some (.lload 4, 2) else none))) else
     (bif Nat.blt pc 233 then (bif Nat.blt pc 232 then (bif Nat.beq pc 229 then some (.ldc2_w 178, 3) else none) else
       (bif Nat.beq pc 232 then some (.lxor, 1) else none)) else
      (bif Nat.blt pc 235 then (bif Nat.beq pc 233 then some (.lload 8, 2) else none) else
       (bif Nat.blt pc 236 then (bif Nat.beq pc 235 then some (.land, 1) else none) else
        (bif Nat.beq pc 236 then some (.lload 12, 2) else none))))))) else
  (bif Nat.blt pc 269 then (bif Nat.blt pc 252 then (bif Nat.blt pc 246 then (bif Nat.blt pc 242 then (bif Nat.blt pc 241 then (bif Nat.beq pc 238 then some (.ldc2_w 178, 3) else none) else
       (bif Nat.beq pc 241 then some (.lxor, 1) else none)) else
      (bif Nat.blt pc 243 then (bif Nat.beq pc 242 then some (.lload_n 2, 1) else none) else
       (bif Nat.beq pc 243 then some (.ldc2_w 178, 3) else none))) else
     (bif Nat.blt pc 248 then (bif Nat.blt pc 247 then (bif Nat.beq pc 246 then some (.lxor, 1) else none) else
       (bif Nat.beq pc 247 then some (.land, 1) else none)) else
      (bif Nat.blt pc 250 then (bif Nat.beq pc 248 then some (.lload 6, 2) else none) else
       (bif Nat.blt pc 251 then (bif Nat.beq pc 250 then some (.land, 1) else none) else
        (bif Nat.beq pc 251 then some (.lor, 1) else none))))) else
    (bif Nat.blt pc 260 then (bif Nat.blt pc 257 then (bif Nat.blt pc 254 then (bif Nat.beq pc 252 then some (.lstore 14, 2) else none) else
       (bif Nat.beq pc 254 then some (.goto 18, 3) else none)) else
      (bif Nat.blt pc 258 then (bif Nat.beq pc 257 then some (.lload_n 2, 1) else none) else
       (bif Nat.beq pc 258 then some (.lload 6, 2) else none))) else
     (bif Nat.blt pc 263 then (bif Nat.blt pc 261 then (bif Nat.beq pc 260 then some (.land, 1) else none) else
       (bif Nat.beq pc 261 then some (.lstore 14, 2) else none)) else
      (bif Nat.blt pc 266 then (bif Nat.beq pc 263 then some (.goto 9, 3) else none) else
       (bif Nat.blt pc 267 then (bif Nat.beq pc 266 then some (.lload_n 2, 1) else none) else
        (bif Nat.beq pc 267 then some (.lload 6, 2) else none)))))) else
   (bif Nat.blt pc 284 then (bif Nat.blt pc 276 then (bif Nat.blt pc 272 then (bif Nat.blt pc 270 then (bif Nat.beq pc 269 then some (.lor, 1) else none) else
       (bif Nat.beq pc 270 then some (.lstore 14, 2) else none)) else
      (bif Nat.blt pc 273 then (bif Nat.beq pc 272 then some (.aload_n 0, 1) else none) else
       (bif Nat.beq pc 273 then some (.getfield 40, 3) else none))) else
     (bif Nat.blt pc 280 then (bif Nat.blt pc 277 then (bif Nat.beq pc 276 then some (.aload_n 0, 1) else none) else
       (bif Nat.beq pc 277 then some (.getfield 162, 3) else none)) else
      (bif Nat.blt pc 281 then (bif Nat.beq pc 280 then some (.iconst 1, 1) else none) else
       (bif Nat.blt pc 282 then (bif Nat.beq pc 281 then some (.isub, 1) else none) else
        (bif Nat.beq pc 282 then some (.lload 14, 2) else none))))) else
    (bif Nat.blt pc 293 then (bif Nat.blt pc 286 then (bif Nat.blt pc 285 then (bif Nat.beq pc 284 then some (.lastore, 1) else none) else
       (bif Nat.beq pc 285 then some (.aload_n 0, 1) else none)) else
      (bif Nat.blt pc 289 then (bif Nat.beq pc 286 then some (.getfield 43, 3) else none) else
       (bif Nat.blt pc 290 then (bif Nat.beq pc 289 then some (.aload_n 0, 1) else none) else
        (bif Nat.beq pc 290 then some (.getfield 162, 3) else none)))) else
     (bif Nat.blt pc 295 then (bif Nat.blt pc 294 then (bif Nat.beq pc 293 then some (.iconst 1, 1) else none) else
       (bif Nat.beq pc 294 then some (.isub, 1) else none)) else
      (bif Nat.blt pc 297 then (bif Nat.beq pc 295 then some (.lload 16, 2) else none) else
       (bif Nat.blt pc 298 then (bif Nat.beq pc 297 then some (.lastore, 1) else none) else
        (bif Nat.beq pc 298 then some (.return_, 1) else none))))))))) else none
set_option maxRecDepth 10000 in
noncomputable def zc_99 (pc : Nat) : Option (Instr × Nat) :=
 bif Nat.blt pc 7 then (bif Nat.blt pc 4 then (bif Nat.blt pc 1 then (bif Nat.beq pc 0 then some (.aload_n 0, 1) else none) else
  (bif Nat.beq pc 1 then some (.getfield 40, 3) else none)) else
 (bif Nat.blt pc 5 then (bif Nat.beq pc 4 then some (.iconst 0, 1) else none) else
  (bif Nat.blt pc 6 then (bif Nat.beq pc 5 then some (.laload, 1) else none) else
   (bif Nat.beq pc 6 then some (.lreturn, 1) else none)))) else none
set_option maxRecDepth 10000 in
noncomputable def zc_100 (pc : Nat) : Option (Instr × Nat) :=
 bif Nat.blt pc 155 then (bif Nat.blt pc 82 then (bif Nat.blt pc 41 then (bif Nat.blt pc 20 then (bif Nat.blt pc 10 then (bif Nat.blt pc 4 then (bif Nat.blt pc 1 then (bif Nat.beq pc 0 then some (.iload_n 1, 1) else none) else
      (bif Nat.beq pc 1 then some (.ifCond .lt 9, 3) else none)) else
     (bif Nat.blt pc 5 then (bif Nat.beq pc 4 then some (.iload_n 1, 1) else none) else
      (bif Nat.blt pc 7 then (bif Nat.beq pc 5 then some (.bipush 24, 2) else none) else
       (bif Nat.beq pc 7 then some (.if_icmp .lt 4, 3) else none)))) else
    (bif Nat.blt pc 15 then (bif Nat.blt pc 11 then (bif Nat.beq pc 10 then some (.return_, 1) else none) else
      (bif Nat.blt pc 12 then (bif Nat.beq pc 11 then some (.aload_n 0, 1) else none) else
       (bif Nat.beq pc 12 then some (.getfield 59, 3) else none))) else
     (bif Nat.blt pc 16 then (bif Nat.beq pc 15 then some (.iload_n 1, 1) else none) else
      (bif Nat.blt pc 19 then (bif Nat.beq pc 16 then some (.invokevirtual 111, 3) else none) else
       (bif Nat.beq pc 19 then some (.iconst 3, 1) else none))))) else
   (bif Nat.blt pc 29 then (bif Nat.blt pc 24 then (bif Nat.blt pc 23 then (bif Nat.beq pc 20 then some (.if_icmp .ne 7, 3) else none) else
      (bif Nat.beq pc 23 then some (.iconst 1, 1) else none)) else
     (bif Nat.blt pc 27 then (bif Nat.beq pc 24 then some (.goto 4, 3) else none) else
      (bif Nat.blt pc 28 then (bif Nat.beq pc 27 then some (.iconst 0, 1) else none) else
       (bif Nat.beq pc 28 then some (.istore_n 2, 1) else none)))) else
    (bif Nat.blt pc 34 then (bif Nat.blt pc 30 then (bif Nat.beq pc 29 then some (.iload_n 2, 1) else none) else
      (bif Nat.blt pc 33 then (bif Nat.beq pc 30 then some (.ifCond .eq 21, 3) else none) else
       (bif Nat.beq pc 33 then some (.aload_n 0, 1) else none))) else
     (bif Nat.blt pc 37 then (bif Nat.beq pc 34 then some (.getfield 63, 3) else none) else
      (bif Nat.blt pc 38 then (bif Nat.beq pc 37 then some (.aload_n 0, 1) else none) else
       (bif Nat.beq pc 38 then some (.getfield 59, 3) else none)))))) else
  (bif Nat.blt pc 62 then (bif Nat.blt pc 52 then (bif Nat.blt pc 45 then (bif Nat.blt pc 42 then (bif Nat.beq pc 41 then some (.iload_n 1, 1) else none) else
      (bif Nat.beq pc 42 then some (.invokevirtual 115, 3) else none)) else
     (bif Nat.blt pc 48 then (bif Nat.beq pc 45 then some (.invokevirtual 118, 3) else none) else
      (bif Nat.blt pc 51 then (bif Nat.beq pc 48 then some (.goto 4, 3) else none) else
       (bif Nat.beq pc 51 then some (.iconst (-1), 1) else none)))) else
    (bif Nat.blt pc 57 then (bif Nat.blt pc 53 then (bif Nat.beq pc 52 then some (.istore_n 3, 1) else none) else
      (bif Nat.blt pc 54 then (bif Nat.beq pc 53 then some (.aload_n 0, 1) else none) else
       (bif Nat.beq pc 54 then some (.getfield 27, 3) else none))) else
     (bif Nat.blt pc 58 then (bif Nat.beq pc 57 then some (.iload_n 1, 1) else none) else
      (bif Nat.blt pc 59 then (bif Nat.beq pc 58 then some (.iload_n 3, 1) else none) else
       (bif Nat.beq pc 59 then some (.ifCond .lt 10, 3) else none))))) else
   (bif Nat.blt pc 70 then (bif Nat.blt pc 65 then (bif Nat.blt pc 63 then (bif Nat.beq pc 62 then some (.iload_n 3, 1) else none) else
      (bif Nat.beq pc 63 then some (.bipush 13, 2) else none)) else
     (bif Nat.blt pc 66 then (bif Nat.beq pc 65 then some (.idiv, 1) else none) else
      (bif Nat.blt pc 69 then (bif Nat.beq pc 66 then some (.goto 11, 3) else none) else
       (bif Nat.beq pc 69 then some (.aload_n 0, 1) else none)))) else
    (bif Nat.blt pc 77 then (bif Nat.blt pc 73 then (bif Nat.beq pc 70 then some (.getfield 59, 3) else none) else
      (bif Nat.blt pc 74 then (bif Nat.beq pc 73 then some (.iload_n 1, 1) else none) else
       (bif Nat.beq pc 74 then some (.invokevirtual 121, 3) else none))) else
     (bif Nat.blt pc 78 then (bif Nat.beq pc 77 then some (.iastore, 1) else none) else
      (bif Nat.blt pc 79 then (bif Nat.beq pc 78 then some (.aload_n 0, 1) else none) else
       (bif Nat.beq pc 79 then some (.getfield 33, 3) else none))))))) else
 (bif Nat.blt pc 119 then (bif Nat.blt pc 100 then (bif Nat.blt pc 91 then (bif Nat.blt pc 84 then (bif Nat.blt pc 83 then (bif Nat.beq pc 82 then some (.iload_n 1, 1) else none) else
      (bif Nat.beq pc 83 then some (.iload_n 3, 1) else none)) else
     (bif Nat.blt pc 87 then (bif Nat.beq pc 84 then some (.ifCond .lt 15, 3) else none) else
      (bif Nat.blt pc 88 then (bif Nat.beq pc 87 then some (.aload_n 0, 1) else none) else
       (bif Nat.beq pc 88 then some (.getfield 37, 3) else none)))) else
    (bif Nat.blt pc 95 then (bif Nat.blt pc 92 then (bif Nat.beq pc 91 then some (.iload_n 3, 1) else none) else
      (bif Nat.blt pc 94 then (bif Nat.beq pc 92 then some (.bipush 13, 2) else none) else
       (bif Nat.beq pc 94 then some (.irem, 1) else none))) else
     (bif Nat.blt pc 96 then (bif Nat.beq pc 95 then some (.aaload, 1) else none) else
      (bif Nat.blt pc 99 then (bif Nat.beq pc 96 then some (.goto 11, 3) else none) else
       (bif Nat.beq pc 99 then some (.aload_n 0, 1) else none))))) else
   (bif Nat.blt pc 109 then (bif Nat.blt pc 104 then (bif Nat.blt pc 103 then (bif Nat.beq pc 100 then some (.getfield 59, 3) else none) else
      (bif Nat.beq pc 103 then some (.iload_n 1, 1) else none)) else
     (bif Nat.blt pc 107 then (bif Nat.beq pc 104 then some (.invokevirtual 124, 3) else none) else
      (bif Nat.blt pc 108 then (bif Nat.beq pc 107 then some (.aastore, 1) else none) else
       (bif Nat.beq pc 108 then some (.aload_n 0, 1) else none)))) else
    (bif Nat.blt pc 114 then (bif Nat.blt pc 110 then (bif Nat.beq pc 109 then some (.aload_n 0, 1) else none) else
      (bif Nat.blt pc 113 then (bif Nat.beq pc 110 then some (.getfield 33, 3) else none) else
       (bif Nat.beq pc 113 then some (.iload_n 1, 1) else none))) else
     (bif Nat.blt pc 115 then (bif Nat.beq pc 114 then some (.aaload, 1) else none) else
      (bif Nat.blt pc 118 then (bif Nat.beq pc 115 then some (.getfield 72, 3) else none) else
       (bif Nat.beq pc 118 then some (.aload_n 0, 1) else none)))))) else
  (bif Nat.blt pc 140 then (bif Nat.blt pc 130 then (bif Nat.blt pc 123 then (bif Nat.blt pc 122 then (bif Nat.beq pc 119 then some (.getfield 33, 3) else none) else
      (bif Nat.beq pc 122 then some (.iload_n 1, 1) else none)) else
     (bif Nat.blt pc 124 then (bif Nat.beq pc 123 then some (.aaload, 1) else none) else
      (bif Nat.blt pc 127 then (bif Nat.beq pc 124 then some (.invokevirtual 76, 3) else none) else
       (bif Nat.beq pc 127 then some (.invokevirtual 80, 3) else none)))) else
    (bif Nat.blt pc 135 then (bif Nat.blt pc 131 then (bif Nat.beq pc 130 then some (.aload_n 0, 1) else none) else
      (bif Nat.blt pc 134 then (bif Nat.beq pc 131 then some (.getfield 21, 3) else none) else
       (bif Nat.beq pc 134 then some (.iload_n 1, 1) else none))) else
     (bif Nat.blt pc 136 then (bif Nat.beq pc 135 then some (.aload_n 0, 1) else none) else
      (bif Nat.blt pc 139 then (bif Nat.beq pc 136 then some (.getfield 40, 3) else none) else
       (bif Nat.beq pc 139 then some (.iconst 0, 1) else none))))) else
   (bif Nat.blt pc 147 then (bif Nat.blt pc 142 then (bif Nat.blt pc 141 then (bif Nat.beq pc 140 then some (.laload, 1) else none) else
      (bif Nat.beq pc 141 then some (.lastore, 1) else none)) else
     (bif Nat.blt pc 143 then (bif Nat.beq pc 142 then some (.aload_n 0, 1) else none) else
      (bif Nat.blt pc 146 then (bif Nat.beq pc 143 then some (.getfield 24, 3) else none) else
       (bif Nat.beq pc 146 then some (.iload_n 1, 1) else none)))) else
    (bif Nat.blt pc 152 then (bif Nat.blt pc 148 then (bif Nat.beq pc 147 then some (.aload_n 0, 1) else none) else
      (bif Nat.blt pc 151 then (bif Nat.beq pc 148 then some (.getfield 43, 3) else none) else
       (bif Nat.beq pc 151 then some (.iconst 0, 1) else none))) else
     (bif Nat.blt pc 153 then (bif Nat.beq pc 152 then some (.laload, 1) else none) else
      (bif Nat.blt pc 154 then (bif Nat.beq pc 153 then some (.lastore, 1) else none) else
       (bif Nat.beq pc 154 then some (.return_, 1) else none)))))))) else none
set_option maxRecDepth 10000 in
noncomputable def zc_101 (pc : Nat) : Option (Instr × Nat) :=
 bif Nat.blt pc 88 then (bif Nat.blt pc 46 then (bif Nat.blt pc 21 then (bif Nat.blt pc 11 then (bif Nat.blt pc 5 then (bif Nat.blt pc 1 then (bif Nat.beq pc 0 then some (.iload_n 1, 1) else none) else
     (bif Nat.blt pc 4 then (bif Nat.beq pc 1 then some (.ifCond .lt 9, 3) else none) else
      (bif Nat.beq pc 4 then some (.iload_n 1, 1) else none))) else
    (bif Nat.blt pc 7 then (bif Nat.beq pc 5 then some (.bipush 24, 2) else none) else
     (bif Nat.blt pc 10 then (bif Nat.beq pc 7 then some (.if_icmp .lt 4, 3) else none) else
      (bif Nat.beq pc 10 then some (.return_, 1) else none)))) else
   (bif Nat.blt pc 16 then (bif Nat.blt pc 12 then (bif Nat.beq pc 11 then some (.aload_n 0, 1) else none) else
     (bif Nat.blt pc 15 then (bif Nat.beq pc 12 then some (.getfield 63, 3) else none) else
      (bif Nat.beq pc 15 then some (.iload_n 1, 1) else none))) else
    (bif Nat.blt pc 19 then (bif Nat.beq pc 16 then some (.invokevirtual 128, 3) else none) else
     (bif Nat.blt pc 20 then (bif Nat.beq pc 19 then some (.astore_n 2, 1) else none) else
      (bif Nat.beq pc 20 then some (.aload_n 0, 1) else none))))) else
  (bif Nat.blt pc 33 then (bif Nat.blt pc 26 then (bif Nat.blt pc 22 then (bif Nat.beq pc 21 then some (.aload_n 2, 1) else none) else
     (bif Nat.blt pc 25 then (bif Nat.beq pc 22 then some (.getfield 72, 3) else none) else
      (bif Nat.beq pc 25 then some (.aload_n 2, 1) else none))) else
    (bif Nat.blt pc 29 then (bif Nat.beq pc 26 then some (.invokevirtual 76, 3) else none) else
     (bif Nat.blt pc 32 then (bif Nat.beq pc 29 then some (.invokevirtual 80, 3) else none) else
      (bif Nat.beq pc 32 then some (.aload_n 0, 1) else none)))) else
   (bif Nat.blt pc 38 then (bif Nat.blt pc 36 then (bif Nat.beq pc 33 then some (.getfield 9, 3) else none) else
     (bif Nat.blt pc 37 then (bif Nat.beq pc 36 then some (.iload_n 1, 1) else none) else
      (bif Nat.beq pc 37 then some (.aload_n 0, 1) else none))) else
    (bif Nat.blt pc 42 then (bif Nat.blt pc 41 then (bif Nat.beq pc 38 then some (.invokevirtual 83, 3) else none) else
      (bif Nat.beq pc 41 then some (.lastore, 1) else none)) else
     (bif Nat.blt pc 43 then (bif Nat.beq pc 42 then some (.aload_n 0, 1) else none) else
      (bif Nat.beq pc 43 then some (.getfield 63, 3) else none)))))) else
 (bif Nat.blt pc 69 then (bif Nat.blt pc 56 then (bif Nat.blt pc 51 then (bif Nat.blt pc 47 then (bif Nat.beq pc 46 then some (.iload_n 1, 1) else none) else
     (bif Nat.blt pc 50 then (bif Nat.beq pc 47 then some (.invokevirtual 131, 3) else none) else
      (bif Nat.beq pc 50 then some (.astore_n 3, 1) else none))) else
    (bif Nat.blt pc 52 then (bif Nat.beq pc 51 then some (.aload_n 0, 1) else none) else
     (bif Nat.blt pc 53 then (bif Nat.beq pc 52 then some (.aload_n 3, 1) else none) else
      (bif Nat.beq pc 53 then some (.getfield 72, 3) else none)))) else
   (bif Nat.blt pc 63 then (bif Nat.blt pc 57 then (bif Nat.beq pc 56 then some (.aload_n 3, 1) else none) else
     (bif Nat.blt pc 60 then (bif Nat.beq pc 57 then some (.invokevirtual 76, 3) else none) else
      (bif Nat.beq pc 60 then some (.invokevirtual 80, 3) else none))) else
    (bif Nat.blt pc 67 then (bif Nat.blt pc 64 then (bif Nat.beq pc 63 then some (.aload_n 0, 1) else none) else
      (bif Nat.beq pc 64 then some (.getfield 15, 3) else none)) else
     (bif Nat.blt pc 68 then (bif Nat.beq pc 67 then some (.iload_n 1, 1) else none) else
      (bif Nat.beq pc 68 then some (.aload_n 0, 1) else none))))) else
  (bif Nat.blt pc 79 then (bif Nat.blt pc 74 then (bif Nat.blt pc 72 then (bif Nat.beq pc 69 then some (.getfield 40, 3) else none) else
     (bif Nat.blt pc 73 then (bif Nat.beq pc 72 then some (.iconst 0, 1) else none) else
      (bif Nat.beq pc 73 then some (.laload, 1) else none))) else
    (bif Nat.blt pc 75 then (bif Nat.beq pc 74 then some (.lastore, 1) else none) else
     (bif Nat.blt pc 76 then (bif Nat.beq pc 75 then some (.aload_n 0, 1) else none) else
      (bif Nat.beq pc 76 then some (.getfield 18, 3) else none)))) else
   (bif Nat.blt pc 84 then (bif Nat.blt pc 80 then (bif Nat.beq pc 79 then some (.iload_n 1, 1) else none) else
     (bif Nat.blt pc 81 then (bif Nat.beq pc 80 then some (.aload_n 0, 1) else none) else
      (bif Nat.beq pc 81 then some (.getfield 43, 3) else none))) else
    (bif Nat.blt pc 86 then (bif Nat.blt pc 85 then (bif Nat.beq pc 84 then some (.iconst 0, 1) else none) else
      (bif Nat.beq pc 85 then some (.laload, 1) else none)) else
     (bif Nat.blt pc 87 then (bif Nat.beq pc 86 then some (.lastore, 1) else none) else
      (bif Nat.beq pc 87 then some (.return_, 1) else none))))))) else none
set_option maxRecDepth 10000 in
noncomputable def zc_102 (pc : Nat) : Option (Instr × Nat) :=
 bif Nat.blt pc 10 then (bif Nat.blt pc 5 then (bif Nat.blt pc 1 then (bif Nat.beq pc 0 then some (.aload_n 0, 1) else none) else
  (bif Nat.blt pc 2 then (bif Nat.beq pc 1 then some (.iload_n 1, 1) else none) else
   (bif Nat.beq pc 2 then some (.invokevirtual 138, 3) else none))) else
 (bif Nat.blt pc 6 then (bif Nat.beq pc 5 then some (.iload_n 2, 1) else none) else
  (bif Nat.blt pc 9 then (bif Nat.beq pc 6 then some (.invokestatic 142, 3) else none) else
   (bif Nat.beq pc 9 then some (.ireturn, 1) else none)))) else none
set_option maxRecDepth 10000 in
noncomputable def zc_103 (pc : Nat) : Option (Instr × Nat) :=
 bif Nat.blt pc 21 then (bif Nat.blt pc 11 then (bif Nat.blt pc 5 then (bif Nat.blt pc 1 then (bif Nat.beq pc 0 then some (.iload_n 1, 1) else none) else
   (bif Nat.blt pc 4 then (bif Nat.beq pc 1 then some (.ifCond .lt 18, 3) else none) else
    (bif Nat.beq pc 4 then some (.iload_n 1, 1) else none))) else
  (bif Nat.blt pc 7 then (bif Nat.beq pc 5 then some (.bipush 24, 2) else none) else
   (bif Nat.blt pc 10 then (bif Nat.beq pc 7 then some (.if_icmp .ge 12, 3) else none) else
    (bif Nat.beq pc 10 then some (.aload_n 0, 1) else none)))) else
 (bif Nat.blt pc 16 then (bif Nat.blt pc 14 then (bif Nat.beq pc 11 then some (.getfield 21, 3) else none) else
   (bif Nat.blt pc 15 then (bif Nat.beq pc 14 then some (.iload_n 1, 1) else none) else
    (bif Nat.beq pc 15 then some (.laload, 1) else none))) else
  (bif Nat.blt pc 19 then (bif Nat.beq pc 16 then some (.goto 4, 3) else none) else
   (bif Nat.blt pc 20 then (bif Nat.beq pc 19 then some (.lconst 0, 1) else none) else
    (bif Nat.beq pc 20 then some (.lreturn, 1) else none))))) else none
set_option maxRecDepth 10000 in
noncomputable def zc_104 (pc : Nat) : Option (Instr × Nat) :=
 bif Nat.blt pc 16 then (bif Nat.blt pc 6 then (bif Nat.blt pc 3 then (bif Nat.blt pc 1 then (bif Nat.beq pc 0 then some (.lload_n 0, 1) else none) else
   (bif Nat.blt pc 2 then (bif Nat.beq pc 1 then some (.iload_n 2, 1) else none) else
    (bif Nat.beq pc 2 then some (.lushr, 1) else none))) else
  (bif Nat.blt pc 4 then (bif Nat.beq pc 3 then some (.lconst 1, 1) else none) else
   (bif Nat.blt pc 5 then (bif Nat.beq pc 4 then some (.land, 1) else none) else
    (bif Nat.beq pc 5 then some (.lconst 0, 1) else none)))) else
 (bif Nat.blt pc 11 then (bif Nat.blt pc 7 then (bif Nat.beq pc 6 then some (.lcmp, 1) else none) else
   (bif Nat.blt pc 10 then (bif Nat.beq pc 7 then some (.ifCond .eq 7, 3) else none) else
    (bif Nat.beq pc 10 then some (.iconst 1, 1) else none))) else
  (bif Nat.blt pc 14 then (bif Nat.beq pc 11 then some (.goto 4, 3) else none) else
   (bif Nat.blt pc 15 then (bif Nat.beq pc 14 then some (.iconst 0, 1) else none) else
    (bif Nat.beq pc 15 then some (.ireturn, 1) else none))))) else none
set_option maxRecDepth 10000 in
noncomputable def zc_105 (pc : Nat) : Option (Instr × Nat) :=
 bif Nat.blt pc 58 then (bif Nat.blt pc 31 then (bif Nat.blt pc 17 then (bif Nat.blt pc 10 then (bif Nat.blt pc 4 then (bif Nat.blt pc 1 then (bif Nat.beq pc 0 then some (.iload_n 1, 1) else none) else
     (bif Nat.beq pc 1 then some (.ifCond .lt 19, 3) else none)) else
    (bif Nat.blt pc 5 then (bif Nat.beq pc 4 then some (.iload_n 1, 1) else none) else
     (bif Nat.blt pc 7 then (bif Nat.beq pc 5 then some (.bipush 24, 2) else none) else
      (bif Nat.beq pc 7 then some (.if_icmp .ge 13, 3) else none)))) else
   (bif Nat.blt pc 14 then (bif Nat.blt pc 11 then (bif Nat.beq pc 10 then some (.aload_n 0, 1) else none) else
     (bif Nat.beq pc 11 then some (.getfield 27, 3) else none)) else
    (bif Nat.blt pc 15 then (bif Nat.beq pc 14 then some (.iload_n 1, 1) else none) else
     (bif Nat.blt pc 16 then (bif Nat.beq pc 15 then some (.iaload, 1) else none) else
      (bif Nat.beq pc 16 then some (.iconst (-1), 1) else none))))) else
  (bif Nat.blt pc 24 then (bif Nat.blt pc 21 then (bif Nat.blt pc 20 then (bif Nat.beq pc 17 then some (.if_icmp .ne 5, 3) else none) else
     (bif Nat.beq pc 20 then some (.iload_n 2, 1) else none)) else
    (bif Nat.blt pc 22 then (bif Nat.beq pc 21 then some (.ireturn, 1) else none) else
     (bif Nat.blt pc 23 then (bif Nat.beq pc 22 then some (.iconst 2, 1) else none) else
      (bif Nat.beq pc 23 then some (.aload_n 0, 1) else none)))) else
   (bif Nat.blt pc 28 then (bif Nat.blt pc 27 then (bif Nat.beq pc 24 then some (.getfield 27, 3) else none) else
     (bif Nat.beq pc 27 then some (.iload_n 1, 1) else none)) else
    (bif Nat.blt pc 29 then (bif Nat.beq pc 28 then some (.iaload, 1) else none) else
     (bif Nat.blt pc 30 then (bif Nat.beq pc 29 then some (.imul, 1) else none) else
      (bif Nat.beq pc 30 then some (.istore_n 3, 1) else none)))))) else
 (bif Nat.blt pc 43 then (bif Nat.blt pc 36 then (bif Nat.blt pc 33 then (bif Nat.blt pc 32 then (bif Nat.beq pc 31 then some (.iload_n 2, 1) else none) else
     (bif Nat.beq pc 32 then some (.iconst 3, 1) else none)) else
    (bif Nat.blt pc 34 then (bif Nat.beq pc 33 then some (.iload_n 3, 1) else none) else
     (bif Nat.blt pc 35 then (bif Nat.beq pc 34 then some (.ishl, 1) else none) else
      (bif Nat.beq pc 35 then some (.iconst (-1), 1) else none)))) else
   (bif Nat.blt pc 38 then (bif Nat.blt pc 37 then (bif Nat.beq pc 36 then some (.ixor, 1) else none) else
     (bif Nat.beq pc 37 then some (.iand, 1) else none)) else
    (bif Nat.blt pc 39 then (bif Nat.beq pc 38 then some (.aload_n 0, 1) else none) else
     (bif Nat.blt pc 42 then (bif Nat.beq pc 39 then some (.getfield 21, 3) else none) else
      (bif Nat.beq pc 42 then some (.iload_n 1, 1) else none))))) else
  (bif Nat.blt pc 50 then (bif Nat.blt pc 45 then (bif Nat.blt pc 44 then (bif Nat.beq pc 43 then some (.laload, 1) else none) else
     (bif Nat.beq pc 44 then some (.aload_n 0, 1) else none)) else
    (bif Nat.blt pc 48 then (bif Nat.beq pc 45 then some (.getfield 24, 3) else none) else
     (bif Nat.blt pc 49 then (bif Nat.beq pc 48 then some (.iload_n 1, 1) else none) else
      (bif Nat.beq pc 49 then some (.laload, 1) else none)))) else
   (bif Nat.blt pc 55 then (bif Nat.blt pc 51 then (bif Nat.beq pc 50 then some (.iload_n 2, 1) else none) else
     (bif Nat.blt pc 54 then (bif Nat.beq pc 51 then some (.invokestatic 134, 3) else none) else
      (bif Nat.beq pc 54 then some (.iload_n 3, 1) else none))) else
    (bif Nat.blt pc 56 then (bif Nat.beq pc 55 then some (.ishl, 1) else none) else
     (bif Nat.blt pc 57 then (bif Nat.beq pc 56 then some (.ior, 1) else none) else
      (bif Nat.beq pc 57 then some (.ireturn, 1) else none))))))) else none
set_option maxRecDepth 10000 in
noncomputable def zc_106 (pc : Nat) : Option (Instr × Nat) :=
 bif Nat.blt pc 18 then (bif Nat.blt pc 9 then (bif Nat.blt pc 5 then (bif Nat.blt pc 3 then (bif Nat.blt pc 1 then (bif Nat.beq pc 0 then some (.lload_n 0, 1) else none) else
    (bif Nat.beq pc 1 then some (.iload 4, 2) else none)) else
   (bif Nat.blt pc 4 then (bif Nat.beq pc 3 then some (.lushr, 1) else none) else
    (bif Nat.beq pc 4 then some (.lconst 1, 1) else none))) else
  (bif Nat.blt pc 7 then (bif Nat.blt pc 6 then (bif Nat.beq pc 5 then some (.land, 1) else none) else
    (bif Nat.beq pc 6 then some (.l2i, 1) else none)) else
   (bif Nat.blt pc 8 then (bif Nat.beq pc 7 then some (.iconst 2, 1) else none) else
    (bif Nat.beq pc 8 then some (.lload_n 2, 1) else none)))) else
 (bif Nat.blt pc 14 then (bif Nat.blt pc 12 then (bif Nat.blt pc 11 then (bif Nat.beq pc 9 then some (.iload 4, 2) else none) else
    (bif Nat.beq pc 11 then some (.lushr, 1) else none)) else
   (bif Nat.blt pc 13 then (bif Nat.beq pc 12 then some (.lconst 1, 1) else none) else
    (bif Nat.beq pc 13 then some (.land, 1) else none))) else
  (bif Nat.blt pc 16 then (bif Nat.blt pc 15 then (bif Nat.beq pc 14 then some (.l2i, 1) else none) else
    (bif Nat.beq pc 15 then some (.imul, 1) else none)) else
   (bif Nat.blt pc 17 then (bif Nat.beq pc 16 then some (.iadd, 1) else none) else
    (bif Nat.beq pc 17 then some (.ireturn, 1) else none))))) else none
set_option maxRecDepth 10000 in
noncomputable def zc_107 (pc : Nat) : Option (Instr × Nat) :=
 bif Nat.blt pc 21 then (bif Nat.blt pc 11 then (bif Nat.blt pc 5 then (bif Nat.blt pc 1 then (bif Nat.beq pc 0 then some (.iload_n 1, 1) else none) else
   (bif Nat.blt pc 4 then (bif Nat.beq pc 1 then some (.ifCond .lt 18, 3) else none) else
    (bif Nat.beq pc 4 then some (.iload_n 1, 1) else none))) else
  (bif Nat.blt pc 7 then (bif Nat.beq pc 5 then some (.bipush 24, 2) else none) else
   (bif Nat.blt pc 10 then (bif Nat.beq pc 7 then some (.if_icmp .ge 12, 3) else none) else
    (bif Nat.beq pc 10 then some (.aload_n 0, 1) else none)))) else
 (bif Nat.blt pc 16 then (bif Nat.blt pc 14 then (bif Nat.beq pc 11 then some (.getfield 9, 3) else none) else
   (bif Nat.blt pc 15 then (bif Nat.beq pc 14 then some (.iload_n 1, 1) else none) else
    (bif Nat.beq pc 15 then some (.laload, 1) else none))) else
  (bif Nat.blt pc 19 then (bif Nat.beq pc 16 then some (.goto 4, 3) else none) else
   (bif Nat.blt pc 20 then (bif Nat.beq pc 19 then some (.lconst 0, 1) else none) else
    (bif Nat.beq pc 20 then some (.lreturn, 1) else none))))) else none
set_option maxRecDepth 10000 in
noncomputable def zc_108 (pc : Nat) : Option (Instr × Nat) :=
 bif Nat.blt pc 31 then (bif Nat.blt pc 16 then (bif Nat.blt pc 7 then (bif Nat.blt pc 4 then (bif Nat.blt pc 1 then (bif Nat.beq pc 0 then some (.iload_n 1, 1) else none) else
    (bif Nat.beq pc 1 then some (.ifCond .lt 28, 3) else none)) else
   (bif Nat.blt pc 5 then (bif Nat.beq pc 4 then some (.iload_n 1, 1) else none) else
    (bif Nat.beq pc 5 then some (.bipush 24, 2) else none))) else
  (bif Nat.blt pc 11 then (bif Nat.blt pc 10 then (bif Nat.beq pc 7 then some (.if_icmp .ge 22, 3) else none) else
    (bif Nat.beq pc 10 then some (.aload_n 0, 1) else none)) else
   (bif Nat.blt pc 14 then (bif Nat.beq pc 11 then some (.getfield 15, 3) else none) else
    (bif Nat.blt pc 15 then (bif Nat.beq pc 14 then some (.iload_n 1, 1) else none) else
     (bif Nat.beq pc 15 then some (.laload, 1) else none))))) else
 (bif Nat.blt pc 22 then (bif Nat.blt pc 20 then (bif Nat.blt pc 17 then (bif Nat.beq pc 16 then some (.aload_n 0, 1) else none) else
    (bif Nat.beq pc 17 then some (.getfield 18, 3) else none)) else
   (bif Nat.blt pc 21 then (bif Nat.beq pc 20 then some (.iload_n 1, 1) else none) else
    (bif Nat.beq pc 21 then some (.laload, 1) else none))) else
  (bif Nat.blt pc 26 then (bif Nat.blt pc 23 then (bif Nat.beq pc 22 then some (.iload_n 2, 1) else none) else
    (bif Nat.beq pc 23 then some (.invokestatic 134, 3) else none)) else
   (bif Nat.blt pc 29 then (bif Nat.beq pc 26 then some (.goto 4, 3) else none) else
    (bif Nat.blt pc 30 then (bif Nat.beq pc 29 then some (.iconst 0, 1) else none) else
     (bif Nat.beq pc 30 then some (.ireturn, 1) else none)))))) else none
set_option maxRecDepth 10000 in
noncomputable def zc_109 (pc : Nat) : Option (Instr × Nat) :=
 bif Nat.blt pc 21 then (bif Nat.blt pc 11 then (bif Nat.blt pc 5 then (bif Nat.blt pc 1 then (bif Nat.beq pc 0 then some (.iload_n 1, 1) else none) else
   (bif Nat.blt pc 4 then (bif Nat.beq pc 1 then some (.ifCond .lt 18, 3) else none) else
    (bif Nat.beq pc 4 then some (.iload_n 1, 1) else none))) else
  (bif Nat.blt pc 7 then (bif Nat.beq pc 5 then some (.bipush 24, 2) else none) else
   (bif Nat.blt pc 10 then (bif Nat.beq pc 7 then some (.if_icmp .ge 12, 3) else none) else
    (bif Nat.beq pc 10 then some (.aload_n 0, 1) else none)))) else
 (bif Nat.blt pc 16 then (bif Nat.blt pc 14 then (bif Nat.beq pc 11 then some (.getfield 27, 3) else none) else
   (bif Nat.blt pc 15 then (bif Nat.beq pc 14 then some (.iload_n 1, 1) else none) else
    (bif Nat.beq pc 15 then some (.iaload, 1) else none))) else
  (bif Nat.blt pc 19 then (bif Nat.beq pc 16 then some (.goto 4, 3) else none) else
   (bif Nat.blt pc 20 then (bif Nat.beq pc 19 then some (.iconst (-1), 1) else none) else
    (bif Nat.beq pc 20 then some (.ireturn, 1) else none))))) else none
set_option maxRecDepth 10000 in
noncomputable def zc_110 (pc : Nat) : Option (Instr × Nat) :=
 bif Nat.blt pc 20 then (bif Nat.blt pc 11 then (bif Nat.blt pc 3 then (bif Nat.blt pc 1 then (bif Nat.beq pc 0 then some (.lload_n 0, 1) else none) else
   (bif Nat.blt pc 2 then (bif Nat.beq pc 1 then some (.lconst 0, 1) else none) else
    (bif Nat.beq pc 2 then some (.lcmp, 1) else none))) else
  (bif Nat.blt pc 7 then (bif Nat.blt pc 6 then (bif Nat.beq pc 3 then some (.ifCond .ne 7, 3) else none) else
    (bif Nat.beq pc 6 then some (.iconst (-1), 1) else none)) else
   (bif Nat.blt pc 10 then (bif Nat.beq pc 7 then some (.goto 12, 3) else none) else
    (bif Nat.beq pc 10 then some (.lload_n 0, 1) else none)))) else
 (bif Nat.blt pc 14 then (bif Nat.blt pc 12 then (bif Nat.beq pc 11 then some (.lload_n 0, 1) else none) else
   (bif Nat.blt pc 13 then (bif Nat.beq pc 12 then some (.lneg, 1) else none) else
    (bif Nat.beq pc 13 then some (.land, 1) else none))) else
  (bif Nat.blt pc 16 then (bif Nat.blt pc 15 then (bif Nat.beq pc 14 then some (.lconst 1, 1) else none) else
    (bif Nat.beq pc 15 then some (.lsub, 1) else none)) else
   (bif Nat.blt pc 19 then (bif Nat.beq pc 16 then some (.invokestatic 156, 3) else none) else
    (bif Nat.beq pc 19 then some (.ireturn, 1) else none))))) else none
set_option maxRecDepth 10000 in
noncomputable def zc_111 (pc : Nat) : Option (Instr × Nat) :=
 bif Nat.blt pc 24 then (bif Nat.blt pc 11 then (bif Nat.blt pc 5 then (bif Nat.blt pc 1 then (bif Nat.beq pc 0 then some (.iload_n 1, 1) else none) else
   (bif Nat.blt pc 4 then (bif Nat.beq pc 1 then some (.ifCond .lt 18, 3) else none) else
    (bif Nat.beq pc 4 then some (.iload_n 1, 1) else none))) else
  (bif Nat.blt pc 7 then (bif Nat.beq pc 5 then some (.bipush 24, 2) else none) else
   (bif Nat.blt pc 10 then (bif Nat.beq pc 7 then some (.if_icmp .ge 12, 3) else none) else
    (bif Nat.beq pc 10 then some (.aload_n 0, 1) else none)))) else
 (bif Nat.blt pc 16 then (bif Nat.blt pc 14 then (bif Nat.beq pc 11 then some (.getfield 33, 3) else none) else
   (bif Nat.blt pc 15 then (bif Nat.beq pc 14 then some (.iload_n 1, 1) else none) else
    (bif Nat.beq pc 15 then some (.aaload, 1) else none))) else
  (bif Nat.blt pc 20 then (bif Nat.blt pc 19 then (bif Nat.beq pc 16 then some (.goto 7, 3) else none) else
    (bif Nat.beq pc 19 then some (.aload_n 0, 1) else none)) else
   (bif Nat.blt pc 23 then (bif Nat.beq pc 20 then some (.getfield 46, 3) else none) else
    (bif Nat.beq pc 23 then some (.areturn, 1) else none))))) else none
set_option maxRecDepth 10000 in
noncomputable def zc_112 (pc : Nat) : Option (Instr × Nat) :=
 bif Nat.blt pc 41 then (bif Nat.blt pc 19 then (bif Nat.blt pc 7 then (bif Nat.blt pc 3 then (bif Nat.blt pc 1 then (bif Nat.beq pc 0 then some (.iconst (-1), 1) else none) else
    (bif Nat.blt pc 2 then (bif Nat.beq pc 1 then some (.istore_n 2, 1) else none) else
     (bif Nat.beq pc 2 then some (.iconst 0, 1) else none))) else
   (bif Nat.blt pc 4 then (bif Nat.beq pc 3 then some (.istore_n 3, 1) else none) else
    (bif Nat.blt pc 5 then (bif Nat.beq pc 4 then some (.iload_n 3, 1) else none) else
     (bif Nat.beq pc 5 then some (.bipush 64, 2) else none)))) else
  (bif Nat.blt pc 12 then (bif Nat.blt pc 10 then (bif Nat.beq pc 7 then some (.if_icmp .ge 32, 3) else none) else
    (bif Nat.blt pc 11 then (bif Nat.beq pc 10 then some (.aload_n 0, 1) else none) else
     (bif Nat.beq pc 11 then some (.iload_n 1, 1) else none))) else
   (bif Nat.blt pc 15 then (bif Nat.beq pc 12 then some (.invokevirtual 146, 3) else none) else
    (bif Nat.blt pc 16 then (bif Nat.beq pc 15 then some (.iload_n 3, 1) else none) else
     (bif Nat.beq pc 16 then some (.invokestatic 142, 3) else none))))) else
 (bif Nat.blt pc 29 then (bif Nat.blt pc 24 then (bif Nat.blt pc 22 then (bif Nat.beq pc 19 then some (.ifCond .eq 14, 3) else none) else
    (bif Nat.blt pc 23 then (bif Nat.beq pc 22 then some (.iload_n 2, 1) else none) else
     (bif Nat.beq pc 23 then some (.aload_n 0, 1) else none))) else
   (bif Nat.blt pc 25 then (bif Nat.beq pc 24 then some (.iload_n 1, 1) else none) else
    (bif Nat.blt pc 26 then (bif Nat.beq pc 25 then some (.iload_n 3, 1) else none) else
     (bif Nat.beq pc 26 then some (.invokevirtual 148, 3) else none)))) else
  (bif Nat.blt pc 36 then (bif Nat.blt pc 32 then (bif Nat.beq pc 29 then some (.invokestatic 151, 3) else none) else
    (bif Nat.blt pc 33 then (bif Nat.beq pc 32 then some (.istore_n 2, 1) else none) else
     (bif Nat.beq pc 33 then some (.iinc 3 1, 3) else none))) else
   (bif Nat.blt pc 39 then (bif Nat.beq pc 36 then some (.goto (-32), 3) else none) else
    (bif Nat.blt pc 40 then (bif Nat.beq pc 39 then some (.iload_n 2, 1) else none) else
     (bif Nat.beq pc 40 then some (.ireturn, 1) else none)))))) else none
set_option maxRecDepth 10000 in
noncomputable def zc_113 (pc : Nat) : Option (Instr × Nat) :=
 bif Nat.blt pc 31 then (bif Nat.blt pc 17 then (bif Nat.blt pc 5 then (bif Nat.blt pc 1 then (bif Nat.beq pc 0 then some (.aload_n 0, 1) else none) else
   (bif Nat.blt pc 4 then (bif Nat.beq pc 1 then some (.invokespecial 3, 3) else none) else
    (bif Nat.beq pc 4 then some (.aload_n 0, 1) else none))) else
  (bif Nat.blt pc 10 then (bif Nat.blt pc 7 then (bif Nat.beq pc 5 then some (.bipush 25, 2) else none) else
    (bif Nat.beq pc 7 then some (.sipush 200, 3) else none)) else
   (bif Nat.blt pc 14 then (bif Nat.beq pc 10 then some (.multianewarray 11 2, 4) else none) else
    (bif Nat.beq pc 14 then some (.putfield 13, 3) else none)))) else
 (bif Nat.blt pc 25 then (bif Nat.blt pc 20 then (bif Nat.blt pc 18 then (bif Nat.beq pc 17 then some (.aload_n 0, 1) else none) else
    (bif Nat.beq pc 18 then some (.bipush 25, 2) else none)) else
   (bif Nat.blt pc 22 then (bif Nat.beq pc 20 then some (.newarray .int, 2) else none) else
    (bif Nat.beq pc 22 then some (.putfield 16, 3) else none))) else
  (bif Nat.blt pc 27 then (bif Nat.blt pc 26 then (bif Nat.beq pc 25 then some (.aload_n 0, 1) else none) else
    (bif Nat.beq pc 26 then some (.aload_n 1, 1) else none)) else
   (bif Nat.blt pc 30 then (bif Nat.beq pc 27 then some (.putfield 20, 3) else none) else
    (bif Nat.beq pc 30 then some (.return_, 1) else none))))) else none
set_option maxRecDepth 10000 in
noncomputable def zc_114 (pc : Nat) : Option (Instr × Nat) :=
 bif Nat.blt pc 128 then (bif Nat.blt pc 63 then (bif Nat.blt pc 27 then (bif Nat.blt pc 14 then (bif Nat.blt pc 6 then (bif Nat.blt pc 2 then (bif Nat.blt pc 1 then (bif Nat.beq pc 0 then some (.aload_n 0, 1) else none) else
      (bif Nat.beq pc 1 then some (.aload_n 1, 1) else none)) else
     (bif Nat.blt pc 5 then (bif Nat.beq pc 2 then some (.putfield 24, 3) else none) else
      (bif Nat.beq pc 5 then some (.aload_n 0, 1) else none))) else
    (bif Nat.blt pc 10 then (bif Nat.blt pc 9 then (bif Nat.beq pc 6 then some (.getfield 16, 3) else none) else
      (bif Nat.beq pc 9 then some (.iconst 0, 1) else none)) else
     (bif Nat.blt pc 13 then (bif Nat.beq pc 10 then some (.invokestatic 28, 3) else none) else
      (bif Nat.beq pc 13 then some (.aload_n 0, 1) else none)))) else
   (bif Nat.blt pc 23 then (bif Nat.blt pc 17 then (bif Nat.blt pc 16 then (bif Nat.beq pc 14 then some (.bipush 24, 2) else none) else
      (bif Nat.beq pc 16 then some (.aload_n 2, 1) else none)) else
     (bif Nat.blt pc 20 then (bif Nat.beq pc 17 then some (.getfield 34, 3) else none) else
      (bif Nat.beq pc 20 then some (.invokevirtual 40, 3) else none))) else
    (bif Nat.blt pc 25 then (bif Nat.blt pc 24 then (bif Nat.beq pc 23 then some (.iconst 0, 1) else none) else
      (bif Nat.beq pc 24 then some (.istore_n 3, 1) else none)) else
     (bif Nat.blt pc 26 then (bif Nat.beq pc 25 then some (.iload_n 3, 1) else none) else
      (bif Nat.beq pc 26 then some (.aload_n 0, 1) else none))))) else
  (bif Nat.blt pc 45 then (bif Nat.blt pc 37 then (bif Nat.blt pc 33 then (bif Nat.blt pc 30 then (bif Nat.beq pc 27 then some (.getfield 24, 3) else none) else
      (bif Nat.beq pc 30 then some (.getfield 44, 3) else none)) else
     (bif Nat.blt pc 36 then (bif Nat.beq pc 33 then some (.if_icmp .ge 26, 3) else none) else
      (bif Nat.beq pc 36 then some (.aload_n 0, 1) else none))) else
    (bif Nat.blt pc 41 then (bif Nat.blt pc 38 then (bif Nat.beq pc 37 then some (.aload_n 0, 1) else none) else
      (bif Nat.beq pc 38 then some (.getfield 24, 3) else none)) else
     (bif Nat.blt pc 42 then (bif Nat.beq pc 41 then some (.iload_n 3, 1) else none) else
      (bif Nat.beq pc 42 then some (.invokevirtual 50, 3) else none)))) else
   (bif Nat.blt pc 53 then (bif Nat.blt pc 47 then (bif Nat.blt pc 46 then (bif Nat.beq pc 45 then some (.aload_n 2, 1) else none) else
      (bif Nat.beq pc 46 then some (.iload_n 3, 1) else none)) else
     (bif Nat.blt pc 50 then (bif Nat.beq pc 47 then some (.invokevirtual 54, 3) else none) else
      (bif Nat.beq pc 50 then some (.invokevirtual 40, 3) else none))) else
    (bif Nat.blt pc 59 then (bif Nat.blt pc 56 then (bif Nat.beq pc 53 then some (.iinc 3 1, 3) else none) else
      (bif Nat.beq pc 56 then some (.goto (-31), 3) else none)) else
     (bif Nat.blt pc 60 then (bif Nat.beq pc 59 then some (.aload_n 0, 1) else none) else
      (bif Nat.beq pc 60 then some (.getfield 24, 3) else none)))))) else
 (bif Nat.blt pc 93 then (bif Nat.blt pc 77 then (bif Nat.blt pc 69 then (bif Nat.blt pc 67 then (bif Nat.blt pc 66 then (bif Nat.beq pc 63 then some (.getfield 58, 3) else none) else
      (bif Nat.beq pc 66 then some (.iconst 1, 1) else none)) else
     (bif Nat.blt pc 68 then (bif Nat.beq pc 67 then some (.isub, 1) else none) else
      (bif Nat.beq pc 68 then some (.istore_n 3, 1) else none))) else
    (bif Nat.blt pc 73 then (bif Nat.blt pc 70 then (bif Nat.beq pc 69 then some (.iload_n 3, 1) else none) else
      (bif Nat.beq pc 70 then some (.ifCond .lt 57, 3) else none)) else
     (bif Nat.blt pc 74 then (bif Nat.beq pc 73 then some (.aload_n 0, 1) else none) else
      (bif Nat.beq pc 74 then some (.getfield 24, 3) else none)))) else
   (bif Nat.blt pc 85 then (bif Nat.blt pc 81 then (bif Nat.blt pc 78 then (bif Nat.beq pc 77 then some (.iload_n 3, 1) else none) else
      (bif Nat.beq pc 78 then some (.invokevirtual 61, 3) else none)) else
     (bif Nat.blt pc 82 then (bif Nat.beq pc 81 then some (.iconst 1, 1) else none) else
      (bif Nat.beq pc 82 then some (.if_icmp .ne 11, 3) else none))) else
    (bif Nat.blt pc 87 then (bif Nat.blt pc 86 then (bif Nat.beq pc 85 then some (.aload_n 0, 1) else none) else
      (bif Nat.beq pc 86 then some (.iload_n 3, 1) else none)) else
     (bif Nat.blt pc 90 then (bif Nat.beq pc 87 then some (.invokevirtual 64, 3) else none) else
      (bif Nat.beq pc 90 then some (.goto 31, 3) else none))))) else
  (bif Nat.blt pc 107 then (bif Nat.blt pc 101 then (bif Nat.blt pc 97 then (bif Nat.blt pc 94 then (bif Nat.beq pc 93 then some (.aload_n 0, 1) else none) else
      (bif Nat.beq pc 94 then some (.getfield 24, 3) else none)) else
     (bif Nat.blt pc 98 then (bif Nat.beq pc 97 then some (.iload_n 3, 1) else none) else
      (bif Nat.beq pc 98 then some (.invokevirtual 61, 3) else none))) else
    (bif Nat.blt pc 105 then (bif Nat.blt pc 102 then (bif Nat.beq pc 101 then some (.iconst 2, 1) else none) else
      (bif Nat.beq pc 102 then some (.if_icmp .eq 19, 3) else none)) else
     (bif Nat.blt pc 106 then (bif Nat.beq pc 105 then some (.aload_n 0, 1) else none) else
      (bif Nat.beq pc 106 then some (.iload_n 3, 1) else none)))) else
   (bif Nat.blt pc 115 then (bif Nat.blt pc 111 then (bif Nat.blt pc 108 then (bif Nat.beq pc 107 then some (.aload_n 0, 1) else none) else
      (bif Nat.beq pc 108 then some (.getfield 24, 3) else none)) else
     (bif Nat.blt pc 112 then (bif Nat.beq pc 111 then some (.iload_n 3, 1) else none) else
      (bif Nat.beq pc 112 then some (.invokevirtual 68, 3) else none))) else
    (bif Nat.blt pc 121 then (bif Nat.blt pc 118 then (bif Nat.beq pc 115 then some (.invokestatic 71, 3) else none) else
      (bif Nat.beq pc 118 then some (.invokevirtual 74, 3) else none)) else
     (bif Nat.blt pc 124 then (bif Nat.beq pc 121 then some (.iinc 3 (-1), 3) else none) else
      (bif Nat.blt pc 127 then (bif Nat.beq pc 124 then some (.goto (-55), 3) else none) else
       (bif Nat.beq pc 127 then some (.return_, 1) else none)))))))) else none
set_option maxRecDepth 10000 in
noncomputable def zc_115 (pc : Nat) : Option (Instr × Nat) :=
 bif Nat.blt pc 29 then (bif Nat.blt pc 12 then (bif Nat.blt pc 4 then (bif Nat.blt pc 2 then (bif Nat.blt pc 1 then (bif Nat.beq pc 0 then some (.iconst 0, 1) else none) else
    (bif Nat.beq pc 1 then some (.istore_n 3, 1) else none)) else
   (bif Nat.blt pc 3 then (bif Nat.beq pc 2 then some (.iload_n 3, 1) else none) else
    (bif Nat.beq pc 3 then some (.aload_n 2, 1) else none))) else
  (bif Nat.blt pc 8 then (bif Nat.blt pc 7 then (bif Nat.beq pc 4 then some (.getfield 111, 3) else none) else
    (bif Nat.beq pc 7 then some (.arraylength, 1) else none)) else
   (bif Nat.blt pc 11 then (bif Nat.beq pc 8 then some (.if_icmp .ge 20, 3) else none) else
    (bif Nat.beq pc 11 then some (.aload_n 0, 1) else none)))) else
 (bif Nat.blt pc 18 then (bif Nat.blt pc 14 then (bif Nat.blt pc 13 then (bif Nat.beq pc 12 then some (.iload_n 1, 1) else none) else
    (bif Nat.beq pc 13 then some (.aload_n 2, 1) else none)) else
   (bif Nat.blt pc 17 then (bif Nat.beq pc 14 then some (.getfield 111, 3) else none) else
    (bif Nat.beq pc 17 then some (.iload_n 3, 1) else none))) else
  (bif Nat.blt pc 22 then (bif Nat.blt pc 19 then (bif Nat.beq pc 18 then some (.baload, 1) else none) else
    (bif Nat.beq pc 19 then some (.invokevirtual 83, 3) else none)) else
   (bif Nat.blt pc 25 then (bif Nat.beq pc 22 then some (.iinc 3 1, 3) else none) else
    (bif Nat.blt pc 28 then (bif Nat.beq pc 25 then some (.goto (-23), 3) else none) else
     (bif Nat.beq pc 28 then some (.return_, 1) else none)))))) else none
set_option maxRecDepth 10000 in
noncomputable def zc_116 (pc : Nat) : Option (Instr × Nat) :=
 bif Nat.blt pc 55 then (bif Nat.blt pc 32 then (bif Nat.blt pc 14 then (bif Nat.blt pc 6 then (bif Nat.blt pc 2 then (bif Nat.blt pc 1 then (bif Nat.beq pc 0 then some (.aload_n 0, 1) else none) else
     (bif Nat.beq pc 1 then some (.iload_n 1, 1) else none)) else
    (bif Nat.blt pc 5 then (bif Nat.beq pc 2 then some (.invokevirtual 98, 3) else none) else
     (bif Nat.beq pc 5 then some (.istore_n 3, 1) else none))) else
   (bif Nat.blt pc 10 then (bif Nat.blt pc 7 then (bif Nat.beq pc 6 then some (.iload_n 3, 1) else none) else
     (bif Nat.beq pc 7 then some (.sipush 200, 3) else none)) else
    (bif Nat.blt pc 13 then (bif Nat.beq pc 10 then some (.if_icmp .lt 11, 3) else none) else
     (bif Nat.beq pc 13 then some (.aload_n 0, 1) else none)))) else
  (bif Nat.blt pc 22 then (bif Nat.blt pc 18 then (bif Nat.blt pc 15 then (bif Nat.beq pc 14 then some (.iload_n 1, 1) else none) else
     (bif Nat.beq pc 15 then some (.invokevirtual 108, 3) else none)) else
    (bif Nat.blt pc 21 then (bif Nat.beq pc 18 then some (.goto 36, 3) else none) else
     (bif Nat.beq pc 21 then some (.iload_n 3, 1) else none))) else
   (bif Nat.blt pc 26 then (bif Nat.blt pc 25 then (bif Nat.beq pc 22 then some (.ifCond .lt 32, 3) else none) else
     (bif Nat.beq pc 25 then some (.iload_n 1, 1) else none)) else
    (bif Nat.blt pc 29 then (bif Nat.beq pc 26 then some (.ifCond .lt 28, 3) else none) else
     (bif Nat.blt pc 30 then (bif Nat.beq pc 29 then some (.iload_n 1, 1) else none) else
      (bif Nat.beq pc 30 then some (.bipush 25, 2) else none)))))) else
 (bif Nat.blt pc 44 then (bif Nat.blt pc 40 then (bif Nat.blt pc 36 then (bif Nat.blt pc 35 then (bif Nat.beq pc 32 then some (.if_icmp .ge 22, 3) else none) else
     (bif Nat.beq pc 35 then some (.aload_n 0, 1) else none)) else
    (bif Nat.blt pc 39 then (bif Nat.beq pc 36 then some (.getfield 13, 3) else none) else
     (bif Nat.beq pc 39 then some (.iload_n 1, 1) else none))) else
   (bif Nat.blt pc 42 then (bif Nat.blt pc 41 then (bif Nat.beq pc 40 then some (.aaload, 1) else none) else
     (bif Nat.beq pc 41 then some (.iload_n 3, 1) else none)) else
    (bif Nat.blt pc 43 then (bif Nat.beq pc 42 then some (.iload_n 2, 1) else none) else
     (bif Nat.beq pc 43 then some (.i2b, 1) else none)))) else
  (bif Nat.blt pc 50 then (bif Nat.blt pc 46 then (bif Nat.blt pc 45 then (bif Nat.beq pc 44 then some (.bastore, 1) else none) else
     (bif Nat.beq pc 45 then some (.aload_n 0, 1) else none)) else
    (bif Nat.blt pc 49 then (bif Nat.beq pc 46 then some (.getfield 16, 3) else none) else
     (bif Nat.beq pc 49 then some (.iload_n 1, 1) else none))) else
   (bif Nat.blt pc 52 then (bif Nat.blt pc 51 then (bif Nat.beq pc 50 then some (.iload_n 3, 1) else none) else
     (bif Nat.beq pc 51 then some (.iconst 1, 1) else none)) else
    (bif Nat.blt pc 53 then (bif Nat.beq pc 52 then some (.iadd, 1) else none) else
     (bif Nat.blt pc 54 then (bif Nat.beq pc 53 then some (.iastore, 1) else none) else
      (bif Nat.beq pc 54 then some (.return_, 1) else none))))))) else none
set_option maxRecDepth 10000 in
noncomputable def zc_117 (pc : Nat) : Option (Instr × Nat) :=
 bif Nat.blt pc 21 then (bif Nat.blt pc 11 then (bif Nat.blt pc 5 then (bif Nat.blt pc 1 then (bif Nat.beq pc 0 then some (.iload_n 1, 1) else none) else
   (bif Nat.blt pc 4 then (bif Nat.beq pc 1 then some (.ifCond .lt 18, 3) else none) else
    (bif Nat.beq pc 4 then some (.iload_n 1, 1) else none))) else
  (bif Nat.blt pc 7 then (bif Nat.beq pc 5 then some (.bipush 25, 2) else none) else
   (bif Nat.blt pc 10 then (bif Nat.beq pc 7 then some (.if_icmp .ge 12, 3) else none) else
    (bif Nat.beq pc 10 then some (.aload_n 0, 1) else none)))) else
 (bif Nat.blt pc 16 then (bif Nat.blt pc 14 then (bif Nat.beq pc 11 then some (.getfield 16, 3) else none) else
   (bif Nat.blt pc 15 then (bif Nat.beq pc 14 then some (.iload_n 1, 1) else none) else
    (bif Nat.beq pc 15 then some (.iaload, 1) else none))) else
  (bif Nat.blt pc 19 then (bif Nat.beq pc 16 then some (.goto 4, 3) else none) else
   (bif Nat.blt pc 20 then (bif Nat.beq pc 19 then some (.iconst (-1), 1) else none) else
    (bif Nat.beq pc 20 then some (.ireturn, 1) else none))))) else none
set_option maxRecDepth 10000 in
noncomputable def zc_118 (pc : Nat) : Option (Instr × Nat) :=
 bif Nat.blt pc 18 then (bif Nat.blt pc 10 then (bif Nat.blt pc 4 then (bif Nat.blt pc 1 then (bif Nat.beq pc 0 then some (.iload_n 1, 1) else none) else
   (bif Nat.beq pc 1 then some (.ifCond .lt 16, 3) else none)) else
  (bif Nat.blt pc 5 then (bif Nat.beq pc 4 then some (.iload_n 1, 1) else none) else
   (bif Nat.blt pc 7 then (bif Nat.beq pc 5 then some (.bipush 25, 2) else none) else
    (bif Nat.beq pc 7 then some (.if_icmp .ge 10, 3) else none)))) else
 (bif Nat.blt pc 15 then (bif Nat.blt pc 11 then (bif Nat.beq pc 10 then some (.aload_n 0, 1) else none) else
   (bif Nat.blt pc 14 then (bif Nat.beq pc 11 then some (.getfield 16, 3) else none) else
    (bif Nat.beq pc 14 then some (.iload_n 1, 1) else none))) else
  (bif Nat.blt pc 16 then (bif Nat.beq pc 15 then some (.iconst (-1), 1) else none) else
   (bif Nat.blt pc 17 then (bif Nat.beq pc 16 then some (.iastore, 1) else none) else
    (bif Nat.beq pc 17 then some (.return_, 1) else none))))) else none
set_option maxRecDepth 10000 in
noncomputable def zc_119 (pc : Nat) : Option (Instr × Nat) :=
 bif Nat.blt pc 84 then (bif Nat.blt pc 40 then (bif Nat.blt pc 20 then (bif Nat.blt pc 10 then (bif Nat.blt pc 5 then (bif Nat.blt pc 1 then (bif Nat.beq pc 0 then some (.aload_n 0, 1) else none) else
     (bif Nat.blt pc 4 then (bif Nat.beq pc 1 then some (.getfield 24, 3) else none) else
      (bif Nat.beq pc 4 then some (.iload_n 1, 1) else none))) else
    (bif Nat.blt pc 8 then (bif Nat.beq pc 5 then some (.invokevirtual 78, 3) else none) else
     (bif Nat.blt pc 9 then (bif Nat.beq pc 8 then some (.astore_n 2, 1) else none) else
      (bif Nat.beq pc 9 then some (.aload_n 0, 1) else none)))) else
   (bif Nat.blt pc 16 then (bif Nat.blt pc 11 then (bif Nat.beq pc 10 then some (.iload_n 1, 1) else none) else
     (bif Nat.blt pc 13 then (bif Nat.beq pc 11 then some (.bipush 16, 2) else none) else
      (bif Nat.beq pc 13 then some (.invokevirtual 83, 3) else none))) else
    (bif Nat.blt pc 17 then (bif Nat.beq pc 16 then some (.aload_n 0, 1) else none) else
     (bif Nat.blt pc 18 then (bif Nat.beq pc 17 then some (.iload_n 1, 1) else none) else
      (bif Nat.beq pc 18 then some (.bipush 15, 2) else none))))) else
  (bif Nat.blt pc 30 then (bif Nat.blt pc 25 then (bif Nat.blt pc 23 then (bif Nat.beq pc 20 then some (.invokevirtual 83, 3) else none) else
     (bif Nat.blt pc 24 then (bif Nat.beq pc 23 then some (.aload_n 0, 1) else none) else
      (bif Nat.beq pc 24 then some (.iload_n 1, 1) else none))) else
    (bif Nat.blt pc 26 then (bif Nat.beq pc 25 then some (.aload_n 2, 1) else none) else
     (bif Nat.blt pc 29 then (bif Nat.beq pc 26 then some (.invokevirtual 40, 3) else none) else
      (bif Nat.beq pc 29 then some (.aload_n 0, 1) else none)))) else
   (bif Nat.blt pc 35 then (bif Nat.blt pc 31 then (bif Nat.beq pc 30 then some (.iload_n 1, 1) else none) else
     (bif Nat.blt pc 32 then (bif Nat.beq pc 31 then some (.aload_n 0, 1) else none) else
      (bif Nat.beq pc 32 then some (.getfield 24, 3) else none))) else
    (bif Nat.blt pc 36 then (bif Nat.beq pc 35 then some (.iload_n 1, 1) else none) else
     (bif Nat.blt pc 37 then (bif Nat.beq pc 36 then some (.iconst 1, 1) else none) else
      (bif Nat.beq pc 37 then some (.invokevirtual 86, 3) else none)))))) else
 (bif Nat.blt pc 62 then (bif Nat.blt pc 53 then (bif Nat.blt pc 47 then (bif Nat.blt pc 43 then (bif Nat.beq pc 40 then some (.invokestatic 71, 3) else none) else
     (bif Nat.blt pc 46 then (bif Nat.beq pc 43 then some (.invokevirtual 90, 3) else none) else
      (bif Nat.beq pc 46 then some (.aload_n 0, 1) else none))) else
    (bif Nat.blt pc 48 then (bif Nat.beq pc 47 then some (.iload_n 1, 1) else none) else
     (bif Nat.blt pc 50 then (bif Nat.beq pc 48 then some (.bipush 15, 2) else none) else
      (bif Nat.beq pc 50 then some (.invokevirtual 83, 3) else none)))) else
   (bif Nat.blt pc 57 then (bif Nat.blt pc 54 then (bif Nat.beq pc 53 then some (.aload_n 0, 1) else none) else
     (bif Nat.blt pc 55 then (bif Nat.beq pc 54 then some (.iload_n 1, 1) else none) else
      (bif Nat.beq pc 55 then some (.bipush 14, 2) else none))) else
    (bif Nat.blt pc 60 then (bif Nat.beq pc 57 then some (.invokevirtual 83, 3) else none) else
     (bif Nat.blt pc 61 then (bif Nat.beq pc 60 then some (.aload_n 0, 1) else none) else
      (bif Nat.beq pc 61 then some (.iload_n 1, 1) else none))))) else
  (bif Nat.blt pc 72 then (bif Nat.blt pc 67 then (bif Nat.blt pc 63 then (bif Nat.beq pc 62 then some (.aload_n 2, 1) else none) else
     (bif Nat.blt pc 66 then (bif Nat.beq pc 63 then some (.invokevirtual 40, 3) else none) else
      (bif Nat.beq pc 66 then some (.aload_n 0, 1) else none))) else
    (bif Nat.blt pc 68 then (bif Nat.beq pc 67 then some (.iload_n 1, 1) else none) else
     (bif Nat.blt pc 69 then (bif Nat.beq pc 68 then some (.aload_n 0, 1) else none) else
      (bif Nat.beq pc 69 then some (.getfield 24, 3) else none)))) else
   (bif Nat.blt pc 77 then (bif Nat.blt pc 73 then (bif Nat.beq pc 72 then some (.iload_n 1, 1) else none) else
     (bif Nat.blt pc 74 then (bif Nat.beq pc 73 then some (.iconst 0, 1) else none) else
      (bif Nat.beq pc 74 then some (.invokevirtual 86, 3) else none))) else
    (bif Nat.blt pc 80 then (bif Nat.beq pc 77 then some (.invokestatic 71, 3) else none) else
     (bif Nat.blt pc 83 then (bif Nat.beq pc 80 then some (.invokevirtual 90, 3) else none) else
      (bif Nat.beq pc 83 then some (.return_, 1) else none))))))) else none
set_option maxRecDepth 10000 in
noncomputable def zc_120 (pc : Nat) : Option (Instr × Nat) :=
 bif Nat.blt pc 12 then (bif Nat.blt pc 5 then (bif Nat.blt pc 1 then (bif Nat.beq pc 0 then some (.iload_n 0, 1) else none) else
  (bif Nat.blt pc 2 then (bif Nat.beq pc 1 then some (.iconst (-1), 1) else none) else
   (bif Nat.beq pc 2 then some (.if_icmp .ne 8, 3) else none))) else
 (bif Nat.blt pc 10 then (bif Nat.blt pc 7 then (bif Nat.beq pc 5 then some (.bipush 24, 2) else none) else
   (bif Nat.beq pc 7 then some (.goto 4, 3) else none)) else
  (bif Nat.blt pc 11 then (bif Nat.beq pc 10 then some (.iload_n 0, 1) else none) else
   (bif Nat.beq pc 11 then some (.ireturn, 1) else none)))) else none
set_option maxRecDepth 10000 in
noncomputable def zc_121 (pc : Nat) : Option (Instr × Nat) :=
 bif Nat.blt pc 57 then (bif Nat.blt pc 26 then (bif Nat.blt pc 14 then (bif Nat.blt pc 6 then (bif Nat.blt pc 2 then (bif Nat.blt pc 1 then (bif Nat.beq pc 0 then some (.aload_n 0, 1) else none) else
     (bif Nat.beq pc 1 then some (.iload_n 2, 1) else none)) else
    (bif Nat.blt pc 5 then (bif Nat.beq pc 2 then some (.invokevirtual 98, 3) else none) else
     (bif Nat.beq pc 5 then some (.iconst (-1), 1) else none))) else
   (bif Nat.blt pc 10 then (bif Nat.blt pc 9 then (bif Nat.beq pc 6 then some (.if_icmp .ne 9, 3) else none) else
     (bif Nat.beq pc 9 then some (.aload_n 0, 1) else none)) else
    (bif Nat.blt pc 11 then (bif Nat.beq pc 10 then some (.iload_n 1, 1) else none) else
     (bif Nat.beq pc 11 then some (.invokevirtual 108, 3) else none)))) else
  (bif Nat.blt pc 20 then (bif Nat.blt pc 16 then (bif Nat.blt pc 15 then (bif Nat.beq pc 14 then some (.return_, 1) else none) else
     (bif Nat.beq pc 15 then some (.aload_n 0, 1) else none)) else
    (bif Nat.blt pc 17 then (bif Nat.beq pc 16 then some (.iload_n 2, 1) else none) else
     (bif Nat.beq pc 17 then some (.invokevirtual 101, 3) else none))) else
   (bif Nat.blt pc 22 then (bif Nat.blt pc 21 then (bif Nat.beq pc 20 then some (.astore_n 3, 1) else none) else
     (bif Nat.beq pc 21 then some (.iconst 0, 1) else none)) else
    (bif Nat.blt pc 24 then (bif Nat.beq pc 22 then some (.istore 4, 2) else none) else
     (bif Nat.beq pc 24 then some (.iload 4, 2) else none))))) else
 (bif Nat.blt pc 41 then (bif Nat.blt pc 34 then (bif Nat.blt pc 28 then (bif Nat.blt pc 27 then (bif Nat.beq pc 26 then some (.aload_n 0, 1) else none) else
     (bif Nat.beq pc 27 then some (.iload_n 2, 1) else none)) else
    (bif Nat.blt pc 31 then (bif Nat.beq pc 28 then some (.invokevirtual 98, 3) else none) else
     (bif Nat.beq pc 31 then some (.if_icmp .ge 25, 3) else none))) else
   (bif Nat.blt pc 37 then (bif Nat.blt pc 36 then (bif Nat.beq pc 34 then some (.iload 4, 2) else none) else
     (bif Nat.beq pc 36 then some (.aload_n 3, 1) else none)) else
    (bif Nat.blt pc 38 then (bif Nat.beq pc 37 then some (.arraylength, 1) else none) else
     (bif Nat.beq pc 38 then some (.if_icmp .ge 18, 3) else none)))) else
  (bif Nat.blt pc 46 then (bif Nat.blt pc 43 then (bif Nat.blt pc 42 then (bif Nat.beq pc 41 then some (.aload_n 0, 1) else none) else
     (bif Nat.beq pc 42 then some (.iload_n 1, 1) else none)) else
    (bif Nat.blt pc 44 then (bif Nat.beq pc 43 then some (.aload_n 3, 1) else none) else
     (bif Nat.beq pc 44 then some (.iload 4, 2) else none))) else
   (bif Nat.blt pc 50 then (bif Nat.blt pc 47 then (bif Nat.beq pc 46 then some (.baload, 1) else none) else
     (bif Nat.beq pc 47 then some (.invokevirtual 83, 3) else none)) else
    (bif Nat.blt pc 53 then (bif Nat.beq pc 50 then some (.iinc 4 1, 3) else none) else
     (bif Nat.blt pc 56 then (bif Nat.beq pc 53 then some (.goto (-29), 3) else none) else
      (bif Nat.beq pc 56 then some (.return_, 1) else none))))))) else none
set_option maxRecDepth 10000 in
noncomputable def zc_122 (pc : Nat) : Option (Instr × Nat) :=
 bif Nat.blt pc 22 then (bif Nat.blt pc 11 then (bif Nat.blt pc 5 then (bif Nat.blt pc 1 then (bif Nat.beq pc 0 then some (.aload_n 0, 1) else none) else
   (bif Nat.blt pc 4 then (bif Nat.beq pc 1 then some (.getfield 13, 3) else none) else
    (bif Nat.beq pc 4 then some (.iload_n 1, 1) else none))) else
  (bif Nat.blt pc 8 then (bif Nat.beq pc 5 then some (.ifCond .lt 13, 3) else none) else
   (bif Nat.blt pc 9 then (bif Nat.beq pc 8 then some (.iload_n 1, 1) else none) else
    (bif Nat.beq pc 9 then some (.bipush 25, 2) else none)))) else
 (bif Nat.blt pc 18 then (bif Nat.blt pc 14 then (bif Nat.beq pc 11 then some (.if_icmp .ge 7, 3) else none) else
   (bif Nat.blt pc 15 then (bif Nat.beq pc 14 then some (.iload_n 1, 1) else none) else
    (bif Nat.beq pc 15 then some (.goto 5, 3) else none))) else
  (bif Nat.blt pc 20 then (bif Nat.beq pc 18 then some (.bipush 24, 2) else none) else
   (bif Nat.blt pc 21 then (bif Nat.beq pc 20 then some (.aaload, 1) else none) else
    (bif Nat.beq pc 21 then some (.areturn, 1) else none))))) else none
set_option maxRecDepth 10000 in
noncomputable def zc_123 (pc : Nat) : Option (Instr × Nat) :=
 bif Nat.blt pc 102 then (bif Nat.blt pc 47 then (bif Nat.blt pc 24 then (bif Nat.blt pc 11 then (bif Nat.blt pc 5 then (bif Nat.blt pc 1 then (bif Nat.beq pc 0 then some (.aload_n 0, 1) else none) else
     (bif Nat.blt pc 4 then (bif Nat.beq pc 1 then some (.getfield 20, 3) else none) else
      (bif Nat.beq pc 4 then some (.iload_n 1, 1) else none))) else
    (bif Nat.blt pc 9 then (bif Nat.blt pc 8 then (bif Nat.beq pc 5 then some (.invokevirtual 93, 3) else none) else
      (bif Nat.beq pc 8 then some (.istore_n 3, 1) else none)) else
     (bif Nat.blt pc 10 then (bif Nat.beq pc 9 then some (.iload_n 3, 1) else none) else
      (bif Nat.beq pc 10 then some (.iconst (-1), 1) else none)))) else
   (bif Nat.blt pc 16 then (bif Nat.blt pc 14 then (bif Nat.beq pc 11 then some (.if_icmp .eq 12, 3) else none) else
     (bif Nat.blt pc 15 then (bif Nat.beq pc 14 then some (.aload_n 0, 1) else none) else
      (bif Nat.beq pc 15 then some (.iload_n 2, 1) else none))) else
    (bif Nat.blt pc 20 then (bif Nat.blt pc 19 then (bif Nat.beq pc 16 then some (.invokevirtual 98, 3) else none) else
      (bif Nat.beq pc 19 then some (.iconst (-1), 1) else none)) else
     (bif Nat.blt pc 23 then (bif Nat.beq pc 20 then some (.if_icmp .ne 10, 3) else none) else
      (bif Nat.beq pc 23 then some (.aload_n 0, 1) else none))))) else
  (bif Nat.blt pc 35 then (bif Nat.blt pc 29 then (bif Nat.blt pc 25 then (bif Nat.beq pc 24 then some (.iload_n 1, 1) else none) else
     (bif Nat.blt pc 26 then (bif Nat.beq pc 25 then some (.iload_n 2, 1) else none) else
      (bif Nat.beq pc 26 then some (.invokevirtual 90, 3) else none))) else
    (bif Nat.blt pc 31 then (bif Nat.blt pc 30 then (bif Nat.beq pc 29 then some (.return_, 1) else none) else
      (bif Nat.beq pc 30 then some (.aload_n 0, 1) else none)) else
     (bif Nat.blt pc 32 then (bif Nat.beq pc 31 then some (.iload_n 2, 1) else none) else
      (bif Nat.beq pc 32 then some (.invokevirtual 101, 3) else none)))) else
   (bif Nat.blt pc 40 then (bif Nat.blt pc 37 then (bif Nat.beq pc 35 then some (.astore 4, 2) else none) else
     (bif Nat.blt pc 38 then (bif Nat.beq pc 37 then some (.iconst 0, 1) else none) else
      (bif Nat.beq pc 38 then some (.istore 5, 2) else none))) else
    (bif Nat.blt pc 43 then (bif Nat.blt pc 42 then (bif Nat.beq pc 40 then some (.iload 5, 2) else none) else
      (bif Nat.beq pc 42 then some (.aload_n 0, 1) else none)) else
     (bif Nat.blt pc 44 then (bif Nat.beq pc 43 then some (.iload_n 2, 1) else none) else
      (bif Nat.beq pc 44 then some (.invokevirtual 98, 3) else none)))))) else
 (bif Nat.blt pc 71 then (bif Nat.blt pc 62 then (bif Nat.blt pc 54 then (bif Nat.blt pc 50 then (bif Nat.beq pc 47 then some (.if_icmp .ge 54, 3) else none) else
     (bif Nat.blt pc 52 then (bif Nat.beq pc 50 then some (.iload 5, 2) else none) else
      (bif Nat.beq pc 52 then some (.aload 4, 2) else none))) else
    (bif Nat.blt pc 58 then (bif Nat.blt pc 55 then (bif Nat.beq pc 54 then some (.arraylength, 1) else none) else
      (bif Nat.beq pc 55 then some (.if_icmp .ge 46, 3) else none)) else
     (bif Nat.blt pc 60 then (bif Nat.beq pc 58 then some (.aload 4, 2) else none) else
      (bif Nat.beq pc 60 then some (.iload 5, 2) else none)))) else
   (bif Nat.blt pc 65 then (bif Nat.blt pc 63 then (bif Nat.beq pc 62 then some (.baload, 1) else none) else
     (bif Nat.blt pc 64 then (bif Nat.beq pc 63 then some (.iconst 4, 1) else none) else
      (bif Nat.beq pc 64 then some (.iload_n 3, 1) else none))) else
    (bif Nat.blt pc 69 then (bif Nat.blt pc 66 then (bif Nat.beq pc 65 then some (.iadd, 1) else none) else
      (bif Nat.beq pc 66 then some (.if_icmp .ne 19, 3) else none)) else
     (bif Nat.blt pc 70 then (bif Nat.beq pc 69 then some (.aload_n 0, 1) else none) else
      (bif Nat.beq pc 70 then some (.iload_n 1, 1) else none))))) else
  (bif Nat.blt pc 86 then (bif Nat.blt pc 76 then (bif Nat.blt pc 72 then (bif Nat.beq pc 71 then some (.aload_n 0, 1) else none) else
     (bif Nat.blt pc 75 then (bif Nat.beq pc 72 then some (.getfield 20, 3) else none) else
      (bif Nat.beq pc 75 then some (.iload_n 1, 1) else none))) else
    (bif Nat.blt pc 82 then (bif Nat.blt pc 79 then (bif Nat.beq pc 76 then some (.invokevirtual 105, 3) else none) else
      (bif Nat.beq pc 79 then some (.invokevirtual 40, 3) else none)) else
     (bif Nat.blt pc 85 then (bif Nat.beq pc 82 then some (.goto 13, 3) else none) else
      (bif Nat.beq pc 85 then some (.aload_n 0, 1) else none)))) else
   (bif Nat.blt pc 92 then (bif Nat.blt pc 89 then (bif Nat.blt pc 87 then (bif Nat.beq pc 86 then some (.iload_n 1, 1) else none) else
      (bif Nat.beq pc 87 then some (.aload 4, 2) else none)) else
     (bif Nat.blt pc 91 then (bif Nat.beq pc 89 then some (.iload 5, 2) else none) else
      (bif Nat.beq pc 91 then some (.baload, 1) else none))) else
    (bif Nat.blt pc 98 then (bif Nat.blt pc 95 then (bif Nat.beq pc 92 then some (.invokevirtual 83, 3) else none) else
      (bif Nat.beq pc 95 then some (.iinc 5 1, 3) else none)) else
     (bif Nat.blt pc 101 then (bif Nat.beq pc 98 then some (.goto (-58), 3) else none) else
      (bif Nat.beq pc 101 then some (.return_, 1) else none))))))) else none
set_option maxRecDepth 10000 in
noncomputable def zc_124 (pc : Nat) : Option (Instr × Nat) :=
 bif Nat.blt pc 97 then (bif Nat.blt pc 53 then (bif Nat.blt pc 27 then (bif Nat.blt pc 13 then (bif Nat.blt pc 5 then (bif Nat.blt pc 1 then (bif Nat.beq pc 0 then some (.aload_n 0, 1) else none) else
     (bif Nat.blt pc 4 then (bif Nat.beq pc 1 then some (.invokespecial 3, 3) else none) else
      (bif Nat.beq pc 4 then some (.aload_n 0, 1) else none))) else
    (bif Nat.blt pc 7 then (bif Nat.beq pc 5 then some (.bipush 24, 2) else none) else
     (bif Nat.blt pc 10 then (bif Nat.beq pc 7 then some (.anewarray 9, 3) else none) else
      (bif Nat.beq pc 10 then some (.putfield 11, 3) else none)))) else
   (bif Nat.blt pc 19 then (bif Nat.blt pc 14 then (bif Nat.beq pc 13 then some (.aload_n 0, 1) else none) else
     (bif Nat.blt pc 16 then (bif Nat.beq pc 14 then some (.bipush 24, 2) else none) else
      (bif Nat.beq pc 16 then some (.anewarray 9, 3) else none))) else
    (bif Nat.blt pc 23 then (bif Nat.blt pc 22 then (bif Nat.beq pc 19 then some (.putfield 17, 3) else none) else
      (bif Nat.beq pc 22 then some (.aload_n 0, 1) else none)) else
     (bif Nat.blt pc 25 then (bif Nat.beq pc 23 then some (.bipush 24, 2) else none) else
      (bif Nat.beq pc 25 then some (.newarray .int, 2) else none))))) else
  (bif Nat.blt pc 40 then (bif Nat.blt pc 33 then (bif Nat.blt pc 30 then (bif Nat.beq pc 27 then some (.putfield 20, 3) else none) else
     (bif Nat.blt pc 31 then (bif Nat.beq pc 30 then some (.aload_n 0, 1) else none) else
      (bif Nat.beq pc 31 then some (.bipush 24, 2) else none))) else
    (bif Nat.blt pc 38 then (bif Nat.blt pc 35 then (bif Nat.beq pc 33 then some (.newarray .int, 2) else none) else
      (bif Nat.beq pc 35 then some (.putfield 24, 3) else none)) else
     (bif Nat.blt pc 39 then (bif Nat.beq pc 38 then some (.aload_n 0, 1) else none) else
      (bif Nat.beq pc 39 then some (.aload_n 1, 1) else none)))) else
   (bif Nat.blt pc 45 then (bif Nat.blt pc 43 then (bif Nat.beq pc 40 then some (.putfield 27, 3) else none) else
     (bif Nat.blt pc 44 then (bif Nat.beq pc 43 then some (.aload_n 0, 1) else none) else
      (bif Nat.beq pc 44 then some (.aload_n 1, 1) else none))) else
    (bif Nat.blt pc 49 then (bif Nat.blt pc 48 then (bif Nat.beq pc 45 then some (.putfield 31, 3) else none) else
      (bif Nat.beq pc 48 then some (.aload_n 0, 1) else none)) else
     (bif Nat.blt pc 50 then (bif Nat.beq pc 49 then some (.aload_n 1, 1) else none) else
      (bif Nat.beq pc 50 then some (.putfield 34, 3) else none)))))) else
 (bif Nat.blt pc 74 then (bif Nat.blt pc 65 then (bif Nat.blt pc 56 then (bif Nat.blt pc 54 then (bif Nat.beq pc 53 then some (.iconst 0, 1) else none) else
     (bif Nat.blt pc 55 then (bif Nat.beq pc 54 then some (.istore_n 2, 1) else none) else
      (bif Nat.beq pc 55 then some (.iload_n 2, 1) else none))) else
    (bif Nat.blt pc 61 then (bif Nat.blt pc 58 then (bif Nat.beq pc 56 then some (.bipush 24, 2) else none) else
      (bif Nat.beq pc 58 then some (.if_icmp .ge 38, 3) else none)) else
     (bif Nat.blt pc 62 then (bif Nat.beq pc 61 then some (.aload_n 0, 1) else none) else
      (bif Nat.beq pc 62 then some (.getfield 11, 3) else none)))) else
   (bif Nat.blt pc 68 then (bif Nat.blt pc 66 then (bif Nat.beq pc 65 then some (.iload_n 2, 1) else none) else
     (bif Nat.blt pc 67 then (bif Nat.beq pc 66 then some (.aload_n 1, 1) else none) else
      (bif Nat.beq pc 67 then some (.aastore, 1) else none))) else
    (bif Nat.blt pc 72 then (bif Nat.blt pc 69 then (bif Nat.beq pc 68 then some (.aload_n 0, 1) else none) else
      (bif Nat.beq pc 69 then some (.getfield 17, 3) else none)) else
     (bif Nat.blt pc 73 then (bif Nat.beq pc 72 then some (.iload_n 2, 1) else none) else
      (bif Nat.beq pc 73 then some (.aload_n 1, 1) else none))))) else
  (bif Nat.blt pc 83 then (bif Nat.blt pc 79 then (bif Nat.blt pc 75 then (bif Nat.beq pc 74 then some (.aastore, 1) else none) else
     (bif Nat.blt pc 76 then (bif Nat.beq pc 75 then some (.aload_n 0, 1) else none) else
      (bif Nat.beq pc 76 then some (.getfield 20, 3) else none))) else
    (bif Nat.blt pc 81 then (bif Nat.blt pc 80 then (bif Nat.beq pc 79 then some (.iload_n 2, 1) else none) else
      (bif Nat.beq pc 80 then some (.iconst (-1), 1) else none)) else
     (bif Nat.blt pc 82 then (bif Nat.beq pc 81 then some (.iastore, 1) else none) else
      (bif Nat.beq pc 82 then some (.aload_n 0, 1) else none)))) else
   (bif Nat.blt pc 89 then (bif Nat.blt pc 86 then (bif Nat.beq pc 83 then some (.getfield 24, 3) else none) else
     (bif Nat.blt pc 87 then (bif Nat.beq pc 86 then some (.iload_n 2, 1) else none) else
      (bif Nat.beq pc 87 then some (.bipush 10, 2) else none))) else
    (bif Nat.blt pc 93 then (bif Nat.blt pc 90 then (bif Nat.beq pc 89 then some (.iastore, 1) else none) else
      (bif Nat.beq pc 90 then some (.iinc 2 1, 3) else none)) else
     (bif Nat.blt pc 96 then (bif Nat.beq pc 93 then some (.goto (-38), 3) else none) else
      (bif Nat.beq pc 96 then some (.return_, 1) else none))))))) else none
set_option maxRecDepth 10000 in
noncomputable def zc_125 (pc : Nat) : Option (Instr × Nat) :=
 bif Nat.blt pc 15 then (bif Nat.blt pc 8 then (bif Nat.blt pc 4 then (bif Nat.blt pc 1 then (bif Nat.beq pc 0 then some (.iload_n 1, 1) else none) else
   (bif Nat.beq pc 1 then some (.invokestatic 37, 3) else none)) else
  (bif Nat.blt pc 7 then (bif Nat.beq pc 4 then some (.ifCond .eq 10, 3) else none) else
   (bif Nat.beq pc 7 then some (.aload_n 0, 1) else none))) else
 (bif Nat.blt pc 12 then (bif Nat.blt pc 11 then (bif Nat.beq pc 8 then some (.getfield 11, 3) else none) else
   (bif Nat.beq pc 11 then some (.iload_n 1, 1) else none)) else
  (bif Nat.blt pc 13 then (bif Nat.beq pc 12 then some (.aload_n 2, 1) else none) else
   (bif Nat.blt pc 14 then (bif Nat.beq pc 13 then some (.aastore, 1) else none) else
    (bif Nat.beq pc 14 then some (.return_, 1) else none))))) else none
set_option maxRecDepth 10000 in
noncomputable def zc_126 (pc : Nat) : Option (Instr × Nat) :=
 bif Nat.blt pc 16 then (bif Nat.blt pc 7 then (bif Nat.blt pc 4 then (bif Nat.blt pc 1 then (bif Nat.beq pc 0 then some (.iload_n 0, 1) else none) else
   (bif Nat.beq pc 1 then some (.ifCond .lt 13, 3) else none)) else
  (bif Nat.blt pc 5 then (bif Nat.beq pc 4 then some (.iload_n 0, 1) else none) else
   (bif Nat.beq pc 5 then some (.bipush 24, 2) else none))) else
 (bif Nat.blt pc 11 then (bif Nat.blt pc 10 then (bif Nat.beq pc 7 then some (.if_icmp .ge 7, 3) else none) else
   (bif Nat.beq pc 10 then some (.iconst 1, 1) else none)) else
  (bif Nat.blt pc 14 then (bif Nat.beq pc 11 then some (.goto 4, 3) else none) else
   (bif Nat.blt pc 15 then (bif Nat.beq pc 14 then some (.iconst 0, 1) else none) else
    (bif Nat.beq pc 15 then some (.ireturn, 1) else none))))) else none
set_option maxRecDepth 10000 in
noncomputable def zc_127 (pc : Nat) : Option (Instr × Nat) :=
 bif Nat.blt pc 15 then (bif Nat.blt pc 8 then (bif Nat.blt pc 4 then (bif Nat.blt pc 1 then (bif Nat.beq pc 0 then some (.iload_n 1, 1) else none) else
   (bif Nat.beq pc 1 then some (.invokestatic 37, 3) else none)) else
  (bif Nat.blt pc 7 then (bif Nat.beq pc 4 then some (.ifCond .eq 10, 3) else none) else
   (bif Nat.beq pc 7 then some (.aload_n 0, 1) else none))) else
 (bif Nat.blt pc 12 then (bif Nat.blt pc 11 then (bif Nat.beq pc 8 then some (.getfield 17, 3) else none) else
   (bif Nat.beq pc 11 then some (.iload_n 1, 1) else none)) else
  (bif Nat.blt pc 13 then (bif Nat.beq pc 12 then some (.aload_n 2, 1) else none) else
   (bif Nat.blt pc 14 then (bif Nat.beq pc 13 then some (.aastore, 1) else none) else
    (bif Nat.beq pc 14 then some (.return_, 1) else none))))) else none
set_option maxRecDepth 10000 in
noncomputable def zc_128 (pc : Nat) : Option (Instr × Nat) :=
 bif Nat.blt pc 18 then (bif Nat.blt pc 11 then (bif Nat.blt pc 4 then (bif Nat.blt pc 1 then (bif Nat.beq pc 0 then some (.iload_n 1, 1) else none) else
   (bif Nat.beq pc 1 then some (.invokestatic 37, 3) else none)) else
  (bif Nat.blt pc 7 then (bif Nat.beq pc 4 then some (.ifCond .eq 12, 3) else none) else
   (bif Nat.blt pc 8 then (bif Nat.beq pc 7 then some (.aload_n 0, 1) else none) else
    (bif Nat.beq pc 8 then some (.getfield 20, 3) else none)))) else
 (bif Nat.blt pc 13 then (bif Nat.blt pc 12 then (bif Nat.beq pc 11 then some (.iload_n 1, 1) else none) else
   (bif Nat.beq pc 12 then some (.iaload, 1) else none)) else
  (bif Nat.blt pc 16 then (bif Nat.beq pc 13 then some (.goto 4, 3) else none) else
   (bif Nat.blt pc 17 then (bif Nat.beq pc 16 then some (.iconst (-1), 1) else none) else
    (bif Nat.beq pc 17 then some (.ireturn, 1) else none))))) else none
set_option maxRecDepth 10000 in
noncomputable def zc_129 (pc : Nat) : Option (Instr × Nat) :=
 bif Nat.blt pc 21 then (bif Nat.blt pc 11 then (bif Nat.blt pc 4 then (bif Nat.blt pc 1 then (bif Nat.beq pc 0 then some (.iload_n 1, 1) else none) else
   (bif Nat.beq pc 1 then some (.invokestatic 37, 3) else none)) else
  (bif Nat.blt pc 7 then (bif Nat.beq pc 4 then some (.ifCond .eq 12, 3) else none) else
   (bif Nat.blt pc 8 then (bif Nat.beq pc 7 then some (.aload_n 0, 1) else none) else
    (bif Nat.beq pc 8 then some (.getfield 11, 3) else none)))) else
 (bif Nat.blt pc 16 then (bif Nat.blt pc 12 then (bif Nat.beq pc 11 then some (.iload_n 1, 1) else none) else
   (bif Nat.blt pc 13 then (bif Nat.beq pc 12 then some (.aaload, 1) else none) else
    (bif Nat.beq pc 13 then some (.goto 7, 3) else none))) else
  (bif Nat.blt pc 17 then (bif Nat.beq pc 16 then some (.aload_n 0, 1) else none) else
   (bif Nat.blt pc 20 then (bif Nat.beq pc 17 then some (.getfield 27, 3) else none) else
    (bif Nat.beq pc 20 then some (.areturn, 1) else none))))) else none
set_option maxRecDepth 10000 in
noncomputable def zc_130 (pc : Nat) : Option (Instr × Nat) :=
 bif Nat.blt pc 21 then (bif Nat.blt pc 11 then (bif Nat.blt pc 4 then (bif Nat.blt pc 1 then (bif Nat.beq pc 0 then some (.iload_n 1, 1) else none) else
   (bif Nat.beq pc 1 then some (.invokestatic 37, 3) else none)) else
  (bif Nat.blt pc 7 then (bif Nat.beq pc 4 then some (.ifCond .eq 12, 3) else none) else
   (bif Nat.blt pc 8 then (bif Nat.beq pc 7 then some (.aload_n 0, 1) else none) else
    (bif Nat.beq pc 8 then some (.getfield 17, 3) else none)))) else
 (bif Nat.blt pc 16 then (bif Nat.blt pc 12 then (bif Nat.beq pc 11 then some (.iload_n 1, 1) else none) else
   (bif Nat.blt pc 13 then (bif Nat.beq pc 12 then some (.aaload, 1) else none) else
    (bif Nat.beq pc 13 then some (.goto 7, 3) else none))) else
  (bif Nat.blt pc 17 then (bif Nat.beq pc 16 then some (.aload_n 0, 1) else none) else
   (bif Nat.blt pc 20 then (bif Nat.beq pc 17 then some (.getfield 27, 3) else none) else
    (bif Nat.beq pc 20 then some (.areturn, 1) else none))))) else none
set_option maxRecDepth 10000 in
noncomputable def zc_131 (pc : Nat) : Option (Instr × Nat) :=
 bif Nat.blt pc 18 then (bif Nat.blt pc 11 then (bif Nat.blt pc 4 then (bif Nat.blt pc 1 then (bif Nat.beq pc 0 then some (.iload_n 1, 1) else none) else
   (bif Nat.beq pc 1 then some (.invokestatic 37, 3) else none)) else
  (bif Nat.blt pc 7 then (bif Nat.beq pc 4 then some (.ifCond .eq 12, 3) else none) else
   (bif Nat.blt pc 8 then (bif Nat.beq pc 7 then some (.aload_n 0, 1) else none) else
    (bif Nat.beq pc 8 then some (.getfield 24, 3) else none)))) else
 (bif Nat.blt pc 13 then (bif Nat.blt pc 12 then (bif Nat.beq pc 11 then some (.iload_n 1, 1) else none) else
   (bif Nat.beq pc 12 then some (.iaload, 1) else none)) else
  (bif Nat.blt pc 16 then (bif Nat.beq pc 13 then some (.goto 4, 3) else none) else
   (bif Nat.blt pc 17 then (bif Nat.beq pc 16 then some (.iconst 0, 1) else none) else
    (bif Nat.beq pc 17 then some (.ireturn, 1) else none))))) else none
set_option maxRecDepth 10000 in
noncomputable def zc_132 (pc : Nat) : Option (Instr × Nat) :=
 bif Nat.blt pc 36 then (bif Nat.blt pc 15 then (bif Nat.blt pc 5 then (bif Nat.blt pc 2 then (bif Nat.blt pc 1 then (bif Nat.beq pc 0 then some (.iconst 0, 1) else none) else
    (bif Nat.beq pc 1 then some (.istore_n 2, 1) else none)) else
   (bif Nat.blt pc 3 then (bif Nat.beq pc 2 then some (.iconst 0, 1) else none) else
    (bif Nat.blt pc 4 then (bif Nat.beq pc 3 then some (.istore_n 3, 1) else none) else
     (bif Nat.beq pc 4 then some (.iload_n 3, 1) else none)))) else
  (bif Nat.blt pc 9 then (bif Nat.blt pc 6 then (bif Nat.beq pc 5 then some (.iload_n 1, 1) else none) else
    (bif Nat.beq pc 6 then some (.if_icmp .ge 28, 3) else none)) else
   (bif Nat.blt pc 10 then (bif Nat.beq pc 9 then some (.iload_n 3, 1) else none) else
    (bif Nat.blt pc 12 then (bif Nat.beq pc 10 then some (.bipush 24, 2) else none) else
     (bif Nat.beq pc 12 then some (.if_icmp .ge 22, 3) else none))))) else
 (bif Nat.blt pc 22 then (bif Nat.blt pc 19 then (bif Nat.blt pc 16 then (bif Nat.beq pc 15 then some (.aload_n 0, 1) else none) else
    (bif Nat.beq pc 16 then some (.getfield 20, 3) else none)) else
   (bif Nat.blt pc 20 then (bif Nat.beq pc 19 then some (.iload_n 3, 1) else none) else
    (bif Nat.blt pc 21 then (bif Nat.beq pc 20 then some (.iaload, 1) else none) else
     (bif Nat.beq pc 21 then some (.iconst (-1), 1) else none)))) else
  (bif Nat.blt pc 31 then (bif Nat.blt pc 25 then (bif Nat.beq pc 22 then some (.if_icmp .eq 6, 3) else none) else
    (bif Nat.blt pc 28 then (bif Nat.beq pc 25 then some (.iinc 2 1, 3) else none) else
     (bif Nat.beq pc 28 then some (.iinc 3 1, 3) else none))) else
   (bif Nat.blt pc 34 then (bif Nat.beq pc 31 then some (.goto (-27), 3) else none) else
    (bif Nat.blt pc 35 then (bif Nat.beq pc 34 then some (.iload_n 2, 1) else none) else
     (bif Nat.beq pc 35 then some (.ireturn, 1) else none)))))) else none
set_option maxRecDepth 10000 in
noncomputable def zc_133 (pc : Nat) : Option (Instr × Nat) :=
 bif Nat.blt pc 15 then (bif Nat.blt pc 8 then (bif Nat.blt pc 4 then (bif Nat.blt pc 1 then (bif Nat.beq pc 0 then some (.iload_n 1, 1) else none) else
   (bif Nat.beq pc 1 then some (.invokestatic 37, 3) else none)) else
  (bif Nat.blt pc 7 then (bif Nat.beq pc 4 then some (.ifCond .eq 10, 3) else none) else
   (bif Nat.beq pc 7 then some (.aload_n 0, 1) else none))) else
 (bif Nat.blt pc 12 then (bif Nat.blt pc 11 then (bif Nat.beq pc 8 then some (.getfield 20, 3) else none) else
   (bif Nat.beq pc 11 then some (.iload_n 1, 1) else none)) else
  (bif Nat.blt pc 13 then (bif Nat.beq pc 12 then some (.iload_n 2, 1) else none) else
   (bif Nat.blt pc 14 then (bif Nat.beq pc 13 then some (.iastore, 1) else none) else
    (bif Nat.beq pc 14 then some (.return_, 1) else none))))) else none
set_option maxRecDepth 10000 in
noncomputable def zc_134 (pc : Nat) : Option (Instr × Nat) :=
 bif Nat.blt pc 79 then (bif Nat.blt pc 41 then (bif Nat.blt pc 21 then (bif Nat.blt pc 10 then (bif Nat.blt pc 5 then (bif Nat.blt pc 1 then (bif Nat.beq pc 0 then some (.aload_n 0, 1) else none) else
     (bif Nat.blt pc 2 then (bif Nat.beq pc 1 then some (.aload_n 1, 1) else none) else
      (bif Nat.beq pc 2 then some (.getfield 31, 3) else none))) else
    (bif Nat.blt pc 8 then (bif Nat.beq pc 5 then some (.putfield 31, 3) else none) else
     (bif Nat.blt pc 9 then (bif Nat.beq pc 8 then some (.aload_n 0, 1) else none) else
      (bif Nat.beq pc 9 then some (.aload_n 1, 1) else none)))) else
   (bif Nat.blt pc 17 then (bif Nat.blt pc 13 then (bif Nat.beq pc 10 then some (.getfield 34, 3) else none) else
     (bif Nat.blt pc 16 then (bif Nat.beq pc 13 then some (.putfield 34, 3) else none) else
      (bif Nat.beq pc 16 then some (.iconst 0, 1) else none))) else
    (bif Nat.blt pc 18 then (bif Nat.beq pc 17 then some (.istore_n 2, 1) else none) else
     (bif Nat.blt pc 19 then (bif Nat.beq pc 18 then some (.iload_n 2, 1) else none) else
      (bif Nat.beq pc 19 then some (.bipush 24, 2) else none))))) else
  (bif Nat.blt pc 33 then (bif Nat.blt pc 28 then (bif Nat.blt pc 24 then (bif Nat.beq pc 21 then some (.if_icmp .ge 57, 3) else none) else
     (bif Nat.blt pc 25 then (bif Nat.beq pc 24 then some (.aload_n 0, 1) else none) else
      (bif Nat.beq pc 25 then some (.getfield 11, 3) else none))) else
    (bif Nat.blt pc 29 then (bif Nat.beq pc 28 then some (.iload_n 2, 1) else none) else
     (bif Nat.blt pc 30 then (bif Nat.beq pc 29 then some (.aload_n 1, 1) else none) else
      (bif Nat.beq pc 30 then some (.getfield 11, 3) else none)))) else
   (bif Nat.blt pc 36 then (bif Nat.blt pc 34 then (bif Nat.beq pc 33 then some (.iload_n 2, 1) else none) else
     (bif Nat.blt pc 35 then (bif Nat.beq pc 34 then some (.aaload, 1) else none) else
      (bif Nat.beq pc 35 then some (.aastore, 1) else none))) else
    (bif Nat.blt pc 37 then (bif Nat.beq pc 36 then some (.aload_n 0, 1) else none) else
     (bif Nat.blt pc 40 then (bif Nat.beq pc 37 then some (.getfield 17, 3) else none) else
      (bif Nat.beq pc 40 then some (.iload_n 2, 1) else none)))))) else
 (bif Nat.blt pc 59 then (bif Nat.blt pc 49 then (bif Nat.blt pc 46 then (bif Nat.blt pc 42 then (bif Nat.beq pc 41 then some (.aload_n 1, 1) else none) else
     (bif Nat.blt pc 45 then (bif Nat.beq pc 42 then some (.getfield 17, 3) else none) else
      (bif Nat.beq pc 45 then some (.iload_n 2, 1) else none))) else
    (bif Nat.blt pc 47 then (bif Nat.beq pc 46 then some (.aaload, 1) else none) else
     (bif Nat.blt pc 48 then (bif Nat.beq pc 47 then some (.aastore, 1) else none) else
      (bif Nat.beq pc 48 then some (.aload_n 0, 1) else none)))) else
   (bif Nat.blt pc 54 then (bif Nat.blt pc 52 then (bif Nat.beq pc 49 then some (.getfield 20, 3) else none) else
     (bif Nat.blt pc 53 then (bif Nat.beq pc 52 then some (.iload_n 2, 1) else none) else
      (bif Nat.beq pc 53 then some (.aload_n 1, 1) else none))) else
    (bif Nat.blt pc 57 then (bif Nat.beq pc 54 then some (.getfield 20, 3) else none) else
     (bif Nat.blt pc 58 then (bif Nat.beq pc 57 then some (.iload_n 2, 1) else none) else
      (bif Nat.beq pc 58 then some (.iaload, 1) else none))))) else
  (bif Nat.blt pc 69 then (bif Nat.blt pc 64 then (bif Nat.blt pc 60 then (bif Nat.beq pc 59 then some (.iastore, 1) else none) else
     (bif Nat.blt pc 61 then (bif Nat.beq pc 60 then some (.aload_n 0, 1) else none) else
      (bif Nat.beq pc 61 then some (.getfield 24, 3) else none))) else
    (bif Nat.blt pc 65 then (bif Nat.beq pc 64 then some (.iload_n 2, 1) else none) else
     (bif Nat.blt pc 66 then (bif Nat.beq pc 65 then some (.aload_n 1, 1) else none) else
      (bif Nat.beq pc 66 then some (.getfield 24, 3) else none)))) else
   (bif Nat.blt pc 72 then (bif Nat.blt pc 70 then (bif Nat.beq pc 69 then some (.iload_n 2, 1) else none) else
     (bif Nat.blt pc 71 then (bif Nat.beq pc 70 then some (.iaload, 1) else none) else
      (bif Nat.beq pc 71 then some (.iastore, 1) else none))) else
    (bif Nat.blt pc 75 then (bif Nat.beq pc 72 then some (.iinc 2 1, 3) else none) else
     (bif Nat.blt pc 78 then (bif Nat.beq pc 75 then some (.goto (-57), 3) else none) else
      (bif Nat.beq pc 78 then some (.return_, 1) else none))))))) else none
set_option maxRecDepth 10000 in
noncomputable def zc_135 (pc : Nat) : Option (Instr × Nat) :=
 bif Nat.blt pc 15 then (bif Nat.blt pc 8 then (bif Nat.blt pc 4 then (bif Nat.blt pc 1 then (bif Nat.beq pc 0 then some (.iload_n 1, 1) else none) else
   (bif Nat.beq pc 1 then some (.invokestatic 37, 3) else none)) else
  (bif Nat.blt pc 7 then (bif Nat.beq pc 4 then some (.ifCond .eq 10, 3) else none) else
   (bif Nat.beq pc 7 then some (.aload_n 0, 1) else none))) else
 (bif Nat.blt pc 12 then (bif Nat.blt pc 11 then (bif Nat.beq pc 8 then some (.getfield 24, 3) else none) else
   (bif Nat.beq pc 11 then some (.iload_n 1, 1) else none)) else
  (bif Nat.blt pc 13 then (bif Nat.beq pc 12 then some (.iload_n 2, 1) else none) else
   (bif Nat.blt pc 14 then (bif Nat.beq pc 13 then some (.iastore, 1) else none) else
    (bif Nat.beq pc 14 then some (.return_, 1) else none))))) else none
set_option maxRecDepth 10000 in
noncomputable def zc_136 (pc : Nat) : Option (Instr × Nat) :=
 bif Nat.blt pc 45 then (bif Nat.blt pc 21 then (bif Nat.blt pc 9 then (bif Nat.blt pc 5 then (bif Nat.blt pc 1 then (bif Nat.beq pc 0 then some (.iload_n 2, 1) else none) else
    (bif Nat.blt pc 2 then (bif Nat.beq pc 1 then some (.iconst 0, 1) else none) else
     (bif Nat.beq pc 2 then some (.invokestatic 81, 3) else none))) else
   (bif Nat.blt pc 6 then (bif Nat.beq pc 5 then some (.istore_n 3, 1) else none) else
    (bif Nat.blt pc 7 then (bif Nat.beq pc 6 then some (.iconst 0, 1) else none) else
     (bif Nat.beq pc 7 then some (.istore 4, 2) else none)))) else
  (bif Nat.blt pc 15 then (bif Nat.blt pc 11 then (bif Nat.beq pc 9 then some (.iload 4, 2) else none) else
    (bif Nat.blt pc 12 then (bif Nat.beq pc 11 then some (.aload_n 0, 1) else none) else
     (bif Nat.beq pc 12 then some (.invokevirtual 71, 3) else none))) else
   (bif Nat.blt pc 19 then (bif Nat.blt pc 18 then (bif Nat.beq pc 15 then some (.if_icmp .ge 28, 3) else none) else
     (bif Nat.beq pc 18 then some (.iload_n 3, 1) else none)) else
    (bif Nat.blt pc 20 then (bif Nat.beq pc 19 then some (.aload_n 1, 1) else none) else
     (bif Nat.beq pc 20 then some (.arraylength, 1) else none))))) else
 (bif Nat.blt pc 32 then (bif Nat.blt pc 26 then (bif Nat.blt pc 24 then (bif Nat.beq pc 21 then some (.if_icmp .ge 22, 3) else none) else
    (bif Nat.blt pc 25 then (bif Nat.beq pc 24 then some (.aload_n 1, 1) else none) else
     (bif Nat.beq pc 25 then some (.iload_n 3, 1) else none))) else
   (bif Nat.blt pc 27 then (bif Nat.beq pc 26 then some (.aload_n 0, 1) else none) else
    (bif Nat.blt pc 29 then (bif Nat.beq pc 27 then some (.iload 4, 2) else none) else
     (bif Nat.beq pc 29 then some (.invokevirtual 77, 3) else none)))) else
  (bif Nat.blt pc 37 then (bif Nat.blt pc 33 then (bif Nat.beq pc 32 then some (.i2b, 1) else none) else
    (bif Nat.blt pc 34 then (bif Nat.beq pc 33 then some (.bastore, 1) else none) else
     (bif Nat.beq pc 34 then some (.iinc 3 1, 3) else none))) else
   (bif Nat.blt pc 43 then (bif Nat.blt pc 40 then (bif Nat.beq pc 37 then some (.iinc 4 1, 3) else none) else
     (bif Nat.beq pc 40 then some (.goto (-31), 3) else none)) else
    (bif Nat.blt pc 44 then (bif Nat.beq pc 43 then some (.iload_n 3, 1) else none) else
     (bif Nat.beq pc 44 then some (.ireturn, 1) else none)))))) else none
set_option maxRecDepth 10000 in
noncomputable def zc_137 (pc : Nat) : Option (Instr × Nat) :=
 bif Nat.blt pc 32 then (bif Nat.blt pc 14 then (bif Nat.blt pc 5 then (bif Nat.blt pc 2 then (bif Nat.blt pc 1 then (bif Nat.beq pc 0 then some (.iconst 4, 1) else none) else
    (bif Nat.beq pc 1 then some (.istore_n 3, 1) else none)) else
   (bif Nat.blt pc 3 then (bif Nat.beq pc 2 then some (.iload_n 3, 1) else none) else
    (bif Nat.beq pc 3 then some (.bipush 26, 2) else none))) else
  (bif Nat.blt pc 9 then (bif Nat.blt pc 8 then (bif Nat.beq pc 5 then some (.if_icmp .ge 24, 3) else none) else
    (bif Nat.beq pc 8 then some (.iload_n 3, 1) else none)) else
   (bif Nat.blt pc 12 then (bif Nat.beq pc 9 then some (.invokestatic 63, 3) else none) else
    (bif Nat.blt pc 13 then (bif Nat.beq pc 12 then some (.aload_n 0, 1) else none) else
     (bif Nat.beq pc 13 then some (.iload_n 1, 1) else none))))) else
 (bif Nat.blt pc 22 then (bif Nat.blt pc 18 then (bif Nat.blt pc 15 then (bif Nat.beq pc 14 then some (.iload_n 2, 1) else none) else
    (bif Nat.beq pc 15 then some (.invokestatic 67, 3) else none)) else
   (bif Nat.blt pc 21 then (bif Nat.beq pc 18 then some (.ifCond .eq 5, 3) else none) else
    (bif Nat.beq pc 21 then some (.iload_n 3, 1) else none))) else
  (bif Nat.blt pc 26 then (bif Nat.blt pc 23 then (bif Nat.beq pc 22 then some (.ireturn, 1) else none) else
    (bif Nat.beq pc 23 then some (.iinc 3 1, 3) else none)) else
   (bif Nat.blt pc 29 then (bif Nat.beq pc 26 then some (.goto (-24), 3) else none) else
    (bif Nat.blt pc 31 then (bif Nat.beq pc 29 then some (.bipush 26, 2) else none) else
     (bif Nat.beq pc 31 then some (.ireturn, 1) else none)))))) else none
set_option maxRecDepth 10000 in
noncomputable def zc_138 (pc : Nat) : Option (Instr × Nat) :=
 bif Nat.blt pc 201 then (bif Nat.blt pc 159 then (bif Nat.blt pc 138 then (bif Nat.blt pc 128 then (bif Nat.blt pc 122 then (bif Nat.blt pc 1 then (bif Nat.beq pc 0 then some (.iload_n 0, 1) else none) else
     (bif Nat.blt pc 120 then (bif Nat.beq pc 1 then some (.tableswitch 197 0 25 #[119, 122, 125, 128, 131, 134, 137, 140, 143, 146, 149, 152, 155, 158, 161, 164, 167, 170, 173, 176, 179, 182, 185, 188, 191, 194], 119) else none) else
      (bif Nat.beq pc 120 then some (.ldc 7, 2) else none))) else
    (bif Nat.blt pc 125 then (bif Nat.blt pc 123 then (bif Nat.beq pc 122 then some (.areturn, 1) else none) else
      (bif Nat.beq pc 123 then some (.ldc 9, 2) else none)) else
     (bif Nat.blt pc 126 then (bif Nat.beq pc 125 then some (.areturn, 1) else none) else
      (bif Nat.beq pc 126 then some (.ldc 11, 2) else none)))) else
   (bif Nat.blt pc 132 then (bif Nat.blt pc 129 then (bif Nat.beq pc 128 then some (.areturn, 1) else none) else
     (bif Nat.blt pc 131 then (bif Nat.beq pc 129 then some (.ldc 13, 2) else none) else
      (bif Nat.beq pc 131 then some (.areturn, 1) else none))) else
    (bif Nat.blt pc 135 then (bif Nat.blt pc 134 then (bif Nat.beq pc 132 then some (.ldc 15, 2) else none) else
      (bif Nat.beq pc 134 then some (.areturn, 1) else none)) else
     (bif Nat.blt pc 137 then (bif Nat.beq pc 135 then some (.ldc 17, 2) else none) else
      (bif Nat.beq pc 137 then some (.areturn, 1) else none))))) else
  (bif Nat.blt pc 149 then (bif Nat.blt pc 143 then (bif Nat.blt pc 140 then (bif Nat.beq pc 138 then some (.ldc 19, 2) else none) else
     (bif Nat.blt pc 141 then (bif Nat.beq pc 140 then some (.areturn, 1) else none) else
      (bif Nat.beq pc 141 then some (.ldc 21, 2) else none))) else
    (bif Nat.blt pc 146 then (bif Nat.blt pc 144 then (bif Nat.beq pc 143 then some (.areturn, 1) else none) else
      (bif Nat.beq pc 144 then some (.ldc 23, 2) else none)) else
     (bif Nat.blt pc 147 then (bif Nat.beq pc 146 then some (.areturn, 1) else none) else
      (bif Nat.beq pc 147 then some (.ldc 25, 2) else none)))) else
   (bif Nat.blt pc 153 then (bif Nat.blt pc 150 then (bif Nat.beq pc 149 then some (.areturn, 1) else none) else
     (bif Nat.blt pc 152 then (bif Nat.beq pc 150 then some (.ldc 27, 2) else none) else
      (bif Nat.beq pc 152 then some (.areturn, 1) else none))) else
    (bif Nat.blt pc 156 then (bif Nat.blt pc 155 then (bif Nat.beq pc 153 then some (.ldc 29, 2) else none) else
      (bif Nat.beq pc 155 then some (.areturn, 1) else none)) else
     (bif Nat.blt pc 158 then (bif Nat.beq pc 156 then some (.ldc 31, 2) else none) else
      (bif Nat.beq pc 158 then some (.areturn, 1) else none)))))) else
 (bif Nat.blt pc 180 then (bif Nat.blt pc 170 then (bif Nat.blt pc 164 then (bif Nat.blt pc 161 then (bif Nat.beq pc 159 then some (.ldc 33, 2) else none) else
     (bif Nat.blt pc 162 then (bif Nat.beq pc 161 then some (.areturn, 1) else none) else
      (bif Nat.beq pc 162 then some (.ldc 35, 2) else none))) else
    (bif Nat.blt pc 167 then (bif Nat.blt pc 165 then (bif Nat.beq pc 164 then some (.areturn, 1) else none) else
      (bif Nat.beq pc 165 then some (.ldc 37, 2) else none)) else
     (bif Nat.blt pc 168 then (bif Nat.beq pc 167 then some (.areturn, 1) else none) else
      (bif Nat.beq pc 168 then some (.ldc 39, 2) else none)))) else
   (bif Nat.blt pc 174 then (bif Nat.blt pc 171 then (bif Nat.beq pc 170 then some (.areturn, 1) else none) else
     (bif Nat.blt pc 173 then (bif Nat.beq pc 171 then some (.ldc 41, 2) else none) else
      (bif Nat.beq pc 173 then some (.areturn, 1) else none))) else
    (bif Nat.blt pc 177 then (bif Nat.blt pc 176 then (bif Nat.beq pc 174 then some (.ldc 43, 2) else none) else
      (bif Nat.beq pc 176 then some (.areturn, 1) else none)) else
     (bif Nat.blt pc 179 then (bif Nat.beq pc 177 then some (.ldc 45, 2) else none) else
      (bif Nat.beq pc 179 then some (.areturn, 1) else none))))) else
  (bif Nat.blt pc 191 then (bif Nat.blt pc 185 then (bif Nat.blt pc 182 then (bif Nat.beq pc 180 then some (.ldc 47, 2) else none) else
     (bif Nat.blt pc 183 then (bif Nat.beq pc 182 then some (.areturn, 1) else none) else
      (bif Nat.beq pc 183 then some (.ldc 49, 2) else none))) else
    (bif Nat.blt pc 188 then (bif Nat.blt pc 186 then (bif Nat.beq pc 185 then some (.areturn, 1) else none) else
      (bif Nat.beq pc 186 then some (.ldc 51, 2) else none)) else
     (bif Nat.blt pc 189 then (bif Nat.beq pc 188 then some (.areturn, 1) else none) else
      (bif Nat.beq pc 189 then some (.ldc 53, 2) else none)))) else
   (bif Nat.blt pc 195 then (bif Nat.blt pc 192 then (bif Nat.beq pc 191 then some (.areturn, 1) else none) else
     (bif Nat.blt pc 194 then (bif Nat.beq pc 192 then some (.ldc 55, 2) else none) else
      (bif Nat.beq pc 194 then some (.areturn, 1) else none))) else
    (bif Nat.blt pc 198 then (bif Nat.blt pc 197 then (bif Nat.beq pc 195 then some (.ldc 57, 2) else none) else
      (bif Nat.beq pc 197 then some (.areturn, 1) else none)) else
     (bif Nat.blt pc 200 then (bif Nat.beq pc 198 then some (.ldc 59, 2) else none) else
      (bif Nat.beq pc 200 then some (.areturn, 1) else none))))))) else none
set_option maxRecDepth 10000 in
noncomputable def zc_139 (pc : Nat) : Option (Instr × Nat) :=
 bif Nat.blt pc 59 then (bif Nat.blt pc 27 then (bif Nat.blt pc 12 then (bif Nat.blt pc 6 then (bif Nat.blt pc 4 then (bif Nat.blt pc 1 then (bif Nat.beq pc 0 then some (.iload_n 2, 1) else none) else
     (bif Nat.beq pc 1 then some (.ifCond .lt 19, 3) else none)) else
    (bif Nat.blt pc 5 then (bif Nat.beq pc 4 then some (.iload_n 3, 1) else none) else
     (bif Nat.beq pc 5 then some (.aload_n 1, 1) else none))) else
   (bif Nat.blt pc 10 then (bif Nat.blt pc 7 then (bif Nat.beq pc 6 then some (.arraylength, 1) else none) else
     (bif Nat.beq pc 7 then some (.if_icmp .gt 13, 3) else none)) else
    (bif Nat.blt pc 11 then (bif Nat.beq pc 10 then some (.iload_n 3, 1) else none) else
     (bif Nat.beq pc 11 then some (.iload_n 2, 1) else none)))) else
  (bif Nat.blt pc 20 then (bif Nat.blt pc 14 then (bif Nat.blt pc 13 then (bif Nat.beq pc 12 then some (.isub, 1) else none) else
     (bif Nat.beq pc 13 then some (.aload_n 0, 1) else none)) else
    (bif Nat.blt pc 17 then (bif Nat.beq pc 14 then some (.invokevirtual 71, 3) else none) else
     (bif Nat.beq pc 17 then some (.if_icmp .eq 5, 3) else none))) else
   (bif Nat.blt pc 22 then (bif Nat.blt pc 21 then (bif Nat.beq pc 20 then some (.iconst 0, 1) else none) else
     (bif Nat.beq pc 21 then some (.ireturn, 1) else none)) else
    (bif Nat.blt pc 23 then (bif Nat.beq pc 22 then some (.iconst 0, 1) else none) else
     (bif Nat.blt pc 25 then (bif Nat.beq pc 23 then some (.istore 4, 2) else none) else
      (bif Nat.beq pc 25 then some (.iload 4, 2) else none)))))) else
 (bif Nat.blt pc 41 then (bif Nat.blt pc 35 then (bif Nat.blt pc 31 then (bif Nat.blt pc 28 then (bif Nat.beq pc 27 then some (.aload_n 0, 1) else none) else
     (bif Nat.beq pc 28 then some (.invokevirtual 71, 3) else none)) else
    (bif Nat.blt pc 34 then (bif Nat.beq pc 31 then some (.if_icmp .ge 26, 3) else none) else
     (bif Nat.beq pc 34 then some (.aload_n 1, 1) else none))) else
   (bif Nat.blt pc 38 then (bif Nat.blt pc 36 then (bif Nat.beq pc 35 then some (.iload_n 2, 1) else none) else
     (bif Nat.beq pc 36 then some (.iload 4, 2) else none)) else
    (bif Nat.blt pc 39 then (bif Nat.beq pc 38 then some (.iadd, 1) else none) else
     (bif Nat.blt pc 40 then (bif Nat.beq pc 39 then some (.baload, 1) else none) else
      (bif Nat.beq pc 40 then some (.aload_n 0, 1) else none))))) else
  (bif Nat.blt pc 50 then (bif Nat.blt pc 46 then (bif Nat.blt pc 43 then (bif Nat.beq pc 41 then some (.iload 4, 2) else none) else
     (bif Nat.beq pc 43 then some (.invokevirtual 77, 3) else none)) else
    (bif Nat.blt pc 49 then (bif Nat.beq pc 46 then some (.if_icmp .eq 5, 3) else none) else
     (bif Nat.beq pc 49 then some (.iconst 0, 1) else none))) else
   (bif Nat.blt pc 54 then (bif Nat.blt pc 51 then (bif Nat.beq pc 50 then some (.ireturn, 1) else none) else
     (bif Nat.beq pc 51 then some (.iinc 4 1, 3) else none)) else
    (bif Nat.blt pc 57 then (bif Nat.beq pc 54 then some (.goto (-29), 3) else none) else
     (bif Nat.blt pc 58 then (bif Nat.beq pc 57 then some (.iconst 1, 1) else none) else
      (bif Nat.beq pc 58 then some (.ireturn, 1) else none))))))) else none
set_option maxRecDepth 10000 in
noncomputable def zc_140 (pc : Nat) : Option (Instr × Nat) :=
 bif Nat.blt pc 16 then (bif Nat.blt pc 7 then (bif Nat.blt pc 4 then (bif Nat.blt pc 1 then (bif Nat.beq pc 0 then some (.iload_n 0, 1) else none) else
   (bif Nat.beq pc 1 then some (.ifCond .lt 13, 3) else none)) else
  (bif Nat.blt pc 5 then (bif Nat.beq pc 4 then some (.iload_n 0, 1) else none) else
   (bif Nat.beq pc 5 then some (.bipush 9, 2) else none))) else
 (bif Nat.blt pc 11 then (bif Nat.blt pc 10 then (bif Nat.beq pc 7 then some (.if_icmp .gt 7, 3) else none) else
   (bif Nat.beq pc 10 then some (.iconst 1, 1) else none)) else
  (bif Nat.blt pc 14 then (bif Nat.beq pc 11 then some (.goto 4, 3) else none) else
   (bif Nat.blt pc 15 then (bif Nat.beq pc 14 then some (.iconst 0, 1) else none) else
    (bif Nat.beq pc 15 then some (.ireturn, 1) else none))))) else none
set_option maxRecDepth 10000 in
noncomputable def zc_141 (pc : Nat) : Option (Instr × Nat) :=
 bif Nat.blt pc 18 then (bif Nat.blt pc 9 then (bif Nat.blt pc 3 then (bif Nat.blt pc 1 then (bif Nat.beq pc 0 then some (.iload_n 0, 1) else none) else
   (bif Nat.beq pc 1 then some (.bipush 10, 2) else none)) else
  (bif Nat.blt pc 6 then (bif Nat.beq pc 3 then some (.if_icmp .lt 13, 3) else none) else
   (bif Nat.blt pc 7 then (bif Nat.beq pc 6 then some (.iload_n 0, 1) else none) else
    (bif Nat.beq pc 7 then some (.bipush 16, 2) else none)))) else
 (bif Nat.blt pc 13 then (bif Nat.blt pc 12 then (bif Nat.beq pc 9 then some (.if_icmp .gt 7, 3) else none) else
   (bif Nat.beq pc 12 then some (.iconst 1, 1) else none)) else
  (bif Nat.blt pc 16 then (bif Nat.beq pc 13 then some (.goto 4, 3) else none) else
   (bif Nat.blt pc 17 then (bif Nat.beq pc 16 then some (.iconst 0, 1) else none) else
    (bif Nat.beq pc 17 then some (.ireturn, 1) else none))))) else none
set_option maxRecDepth 10000 in
noncomputable def zc_142 (pc : Nat) : Option (Instr × Nat) :=
 bif Nat.blt pc 30 then (bif Nat.blt pc 15 then (bif Nat.blt pc 7 then (bif Nat.blt pc 3 then (bif Nat.blt pc 1 then (bif Nat.beq pc 0 then some (.iload_n 0, 1) else none) else
    (bif Nat.beq pc 1 then some (.bipush 7, 2) else none)) else
   (bif Nat.blt pc 6 then (bif Nat.beq pc 3 then some (.if_icmp .lt 9, 3) else none) else
    (bif Nat.beq pc 6 then some (.iload_n 0, 1) else none))) else
  (bif Nat.blt pc 12 then (bif Nat.blt pc 9 then (bif Nat.beq pc 7 then some (.bipush 9, 2) else none) else
    (bif Nat.beq pc 9 then some (.if_icmp .le 15, 3) else none)) else
   (bif Nat.blt pc 13 then (bif Nat.beq pc 12 then some (.iload_n 0, 1) else none) else
    (bif Nat.beq pc 13 then some (.bipush 12, 2) else none)))) else
 (bif Nat.blt pc 24 then (bif Nat.blt pc 19 then (bif Nat.blt pc 18 then (bif Nat.beq pc 15 then some (.if_icmp .eq 9, 3) else none) else
    (bif Nat.beq pc 18 then some (.iload_n 0, 1) else none)) else
   (bif Nat.blt pc 21 then (bif Nat.beq pc 19 then some (.bipush 13, 2) else none) else
    (bif Nat.beq pc 21 then some (.if_icmp .ne 7, 3) else none))) else
  (bif Nat.blt pc 28 then (bif Nat.blt pc 25 then (bif Nat.beq pc 24 then some (.iconst 2, 1) else none) else
    (bif Nat.beq pc 25 then some (.goto 4, 3) else none)) else
   (bif Nat.blt pc 29 then (bif Nat.beq pc 28 then some (.iconst 0, 1) else none) else
    (bif Nat.beq pc 29 then some (.ireturn, 1) else none))))) else none
set_option maxRecDepth 10000 in
noncomputable def zc_143 (pc : Nat) : Option (Instr × Nat) :=
 bif Nat.blt pc 28 then (bif Nat.blt pc 13 then (bif Nat.blt pc 6 then (bif Nat.blt pc 1 then (bif Nat.beq pc 0 then some (.iload_n 0, 1) else none) else
   (bif Nat.blt pc 3 then (bif Nat.beq pc 1 then some (.bipush 15, 2) else none) else
    (bif Nat.beq pc 3 then some (.if_icmp .eq 9, 3) else none))) else
  (bif Nat.blt pc 9 then (bif Nat.blt pc 7 then (bif Nat.beq pc 6 then some (.iload_n 0, 1) else none) else
    (bif Nat.beq pc 7 then some (.bipush 16, 2) else none)) else
   (bif Nat.blt pc 12 then (bif Nat.beq pc 9 then some (.if_icmp .ne 7, 3) else none) else
    (bif Nat.beq pc 12 then some (.iconst 2, 1) else none)))) else
 (bif Nat.blt pc 22 then (bif Nat.blt pc 17 then (bif Nat.blt pc 16 then (bif Nat.beq pc 13 then some (.goto 14, 3) else none) else
    (bif Nat.beq pc 16 then some (.iload_n 0, 1) else none)) else
   (bif Nat.blt pc 19 then (bif Nat.beq pc 17 then some (.bipush 14, 2) else none) else
    (bif Nat.beq pc 19 then some (.if_icmp .ne 7, 3) else none))) else
  (bif Nat.blt pc 26 then (bif Nat.blt pc 23 then (bif Nat.beq pc 22 then some (.iconst 1, 1) else none) else
    (bif Nat.beq pc 23 then some (.goto 4, 3) else none)) else
   (bif Nat.blt pc 27 then (bif Nat.beq pc 26 then some (.iconst 0, 1) else none) else
    (bif Nat.beq pc 27 then some (.ireturn, 1) else none))))) else none
set_option maxRecDepth 10000 in
noncomputable def zc_144 (pc : Nat) : Option (Instr × Nat) :=
 bif Nat.blt pc 18 then (bif Nat.blt pc 9 then (bif Nat.blt pc 3 then (bif Nat.blt pc 1 then (bif Nat.beq pc 0 then some (.iload_n 0, 1) else none) else
   (bif Nat.beq pc 1 then some (.bipush 17, 2) else none)) else
  (bif Nat.blt pc 6 then (bif Nat.beq pc 3 then some (.if_icmp .lt 13, 3) else none) else
   (bif Nat.blt pc 7 then (bif Nat.beq pc 6 then some (.iload_n 0, 1) else none) else
    (bif Nat.beq pc 7 then some (.bipush 20, 2) else none)))) else
 (bif Nat.blt pc 13 then (bif Nat.blt pc 12 then (bif Nat.beq pc 9 then some (.if_icmp .gt 7, 3) else none) else
   (bif Nat.beq pc 12 then some (.iconst 1, 1) else none)) else
  (bif Nat.blt pc 16 then (bif Nat.beq pc 13 then some (.goto 4, 3) else none) else
   (bif Nat.blt pc 17 then (bif Nat.beq pc 16 then some (.iconst 0, 1) else none) else
    (bif Nat.beq pc 17 then some (.ireturn, 1) else none))))) else none
set_option maxRecDepth 10000 in
noncomputable def zc_145 (pc : Nat) : Option (Instr × Nat) :=
 bif Nat.blt pc 17 then (bif Nat.blt pc 8 then (bif Nat.blt pc 2 then (bif Nat.blt pc 1 then (bif Nat.beq pc 0 then some (.iload_n 0, 1) else none) else
   (bif Nat.beq pc 1 then some (.iconst 4, 1) else none)) else
  (bif Nat.blt pc 5 then (bif Nat.beq pc 2 then some (.if_icmp .lt 13, 3) else none) else
   (bif Nat.blt pc 6 then (bif Nat.beq pc 5 then some (.iload_n 0, 1) else none) else
    (bif Nat.beq pc 6 then some (.bipush 6, 2) else none)))) else
 (bif Nat.blt pc 12 then (bif Nat.blt pc 11 then (bif Nat.beq pc 8 then some (.if_icmp .gt 7, 3) else none) else
   (bif Nat.beq pc 11 then some (.iconst 1, 1) else none)) else
  (bif Nat.blt pc 15 then (bif Nat.beq pc 12 then some (.goto 4, 3) else none) else
   (bif Nat.blt pc 16 then (bif Nat.beq pc 15 then some (.iconst 0, 1) else none) else
    (bif Nat.beq pc 16 then some (.ireturn, 1) else none))))) else none
set_option maxRecDepth 10000 in
noncomputable def zc_146 (pc : Nat) : Option (Instr × Nat) :=
 bif Nat.blt pc 228 then (bif Nat.blt pc 114 then (bif Nat.blt pc 57 then (bif Nat.blt pc 27 then (bif Nat.blt pc 13 then (bif Nat.blt pc 5 then (bif Nat.blt pc 1 then (bif Nat.beq pc 0 then some (.aload_n 0, 1) else none) else
      (bif Nat.blt pc 4 then (bif Nat.beq pc 1 then some (.invokespecial 3, 3) else none) else
       (bif Nat.beq pc 4 then some (.aload_n 0, 1) else none))) else
     (bif Nat.blt pc 8 then (bif Nat.beq pc 5 then some (.sipush 800, 3) else none) else
      (bif Nat.blt pc 10 then (bif Nat.beq pc 8 then some (.newarray .byte, 2) else none) else
       (bif Nat.beq pc 10 then some (.putfield 9, 3) else none)))) else
    (bif Nat.blt pc 19 then (bif Nat.blt pc 14 then (bif Nat.beq pc 13 then some (.aload_n 0, 1) else none) else
      (bif Nat.blt pc 17 then (bif Nat.beq pc 14 then some (.sipush 1200, 3) else none) else
       (bif Nat.beq pc 17 then some (.newarray .byte, 2) else none))) else
     (bif Nat.blt pc 23 then (bif Nat.blt pc 22 then (bif Nat.beq pc 19 then some (.putfield 13, 3) else none) else
       (bif Nat.beq pc 22 then some (.aload_n 0, 1) else none)) else
      (bif Nat.blt pc 26 then (bif Nat.beq pc 23 then some (.new 16, 3) else none) else
       (bif Nat.beq pc 26 then some (.dup, 1) else none))))) else
   (bif Nat.blt pc 42 then (bif Nat.blt pc 32 then (bif Nat.blt pc 28 then (bif Nat.beq pc 27 then some (.aload_n 0, 1) else none) else
      (bif Nat.blt pc 31 then (bif Nat.beq pc 28 then some (.getfield 9, 3) else none) else
       (bif Nat.beq pc 31 then some (.iconst 0, 1) else none))) else
     (bif Nat.blt pc 38 then (bif Nat.blt pc 35 then (bif Nat.beq pc 32 then some (.invokespecial 18, 3) else none) else
       (bif Nat.beq pc 35 then some (.putfield 21, 3) else none)) else
      (bif Nat.blt pc 39 then (bif Nat.beq pc 38 then some (.aload_n 0, 1) else none) else
       (bif Nat.beq pc 39 then some (.new 25, 3) else none)))) else
    (bif Nat.blt pc 47 then (bif Nat.blt pc 43 then (bif Nat.beq pc 42 then some (.dup, 1) else none) else
      (bif Nat.blt pc 44 then (bif Nat.beq pc 43 then some (.aload_n 0, 1) else none) else
       (bif Nat.beq pc 44 then some (.getfield 9, 3) else none))) else
     (bif Nat.blt pc 53 then (bif Nat.blt pc 50 then (bif Nat.beq pc 47 then some (.invokespecial 27, 3) else none) else
       (bif Nat.beq pc 50 then some (.putfield 30, 3) else none)) else
      (bif Nat.blt pc 54 then (bif Nat.beq pc 53 then some (.aload_n 0, 1) else none) else
       (bif Nat.beq pc 54 then some (.new 34, 3) else none)))))) else
  (bif Nat.blt pc 84 then (bif Nat.blt pc 69 then (bif Nat.blt pc 62 then (bif Nat.blt pc 58 then (bif Nat.beq pc 57 then some (.dup, 1) else none) else
      (bif Nat.blt pc 59 then (bif Nat.beq pc 58 then some (.aload_n 0, 1) else none) else
       (bif Nat.beq pc 59 then some (.getfield 21, 3) else none))) else
     (bif Nat.blt pc 65 then (bif Nat.beq pc 62 then some (.invokespecial 36, 3) else none) else
      (bif Nat.blt pc 68 then (bif Nat.beq pc 65 then some (.putfield 39, 3) else none) else
       (bif Nat.beq pc 68 then some (.aload_n 0, 1) else none)))) else
    (bif Nat.blt pc 74 then (bif Nat.blt pc 72 then (bif Nat.beq pc 69 then some (.new 43, 3) else none) else
      (bif Nat.blt pc 73 then (bif Nat.beq pc 72 then some (.dup, 1) else none) else
       (bif Nat.beq pc 73 then some (.aload_n 0, 1) else none))) else
     (bif Nat.blt pc 80 then (bif Nat.blt pc 77 then (bif Nat.beq pc 74 then some (.getfield 21, 3) else none) else
       (bif Nat.beq pc 77 then some (.invokespecial 45, 3) else none)) else
      (bif Nat.blt pc 83 then (bif Nat.beq pc 80 then some (.putfield 46, 3) else none) else
       (bif Nat.beq pc 83 then some (.aload_n 0, 1) else none))))) else
   (bif Nat.blt pc 99 then (bif Nat.blt pc 89 then (bif Nat.blt pc 87 then (bif Nat.beq pc 84 then some (.new 50, 3) else none) else
      (bif Nat.blt pc 88 then (bif Nat.beq pc 87 then some (.dup, 1) else none) else
       (bif Nat.beq pc 88 then some (.aload_n 0, 1) else none))) else
     (bif Nat.blt pc 95 then (bif Nat.blt pc 92 then (bif Nat.beq pc 89 then some (.getfield 21, 3) else none) else
       (bif Nat.beq pc 92 then some (.invokespecial 52, 3) else none)) else
      (bif Nat.blt pc 98 then (bif Nat.beq pc 95 then some (.putfield 53, 3) else none) else
       (bif Nat.beq pc 98 then some (.aload_n 0, 1) else none)))) else
    (bif Nat.blt pc 104 then (bif Nat.blt pc 102 then (bif Nat.beq pc 99 then some (.new 57, 3) else none) else
      (bif Nat.blt pc 103 then (bif Nat.beq pc 102 then some (.dup, 1) else none) else
       (bif Nat.beq pc 103 then some (.aload_n 0, 1) else none))) else
     (bif Nat.blt pc 110 then (bif Nat.blt pc 107 then (bif Nat.beq pc 104 then some (.getfield 21, 3) else none) else
       (bif Nat.beq pc 107 then some (.invokespecial 59, 3) else none)) else
      (bif Nat.blt pc 113 then (bif Nat.beq pc 110 then some (.putfield 60, 3) else none) else
       (bif Nat.beq pc 113 then some (.aload_n 0, 1) else none))))))) else
 (bif Nat.blt pc 170 then (bif Nat.blt pc 141 then (bif Nat.blt pc 128 then (bif Nat.blt pc 119 then (bif Nat.blt pc 117 then (bif Nat.beq pc 114 then some (.new 64, 3) else none) else
      (bif Nat.blt pc 118 then (bif Nat.beq pc 117 then some (.dup, 1) else none) else
       (bif Nat.beq pc 118 then some (.aload_n 0, 1) else none))) else
     (bif Nat.blt pc 122 then (bif Nat.beq pc 119 then some (.getfield 60, 3) else none) else
      (bif Nat.blt pc 125 then (bif Nat.beq pc 122 then some (.invokespecial 66, 3) else none) else
       (bif Nat.beq pc 125 then some (.putfield 69, 3) else none)))) else
    (bif Nat.blt pc 133 then (bif Nat.blt pc 129 then (bif Nat.beq pc 128 then some (.aload_n 0, 1) else none) else
      (bif Nat.blt pc 132 then (bif Nat.beq pc 129 then some (.new 73, 3) else none) else
       (bif Nat.beq pc 132 then some (.dup, 1) else none))) else
     (bif Nat.blt pc 137 then (bif Nat.blt pc 134 then (bif Nat.beq pc 133 then some (.aload_n 0, 1) else none) else
       (bif Nat.beq pc 134 then some (.getfield 60, 3) else none)) else
      (bif Nat.blt pc 138 then (bif Nat.beq pc 137 then some (.aload_n 0, 1) else none) else
       (bif Nat.beq pc 138 then some (.getfield 69, 3) else none))))) else
   (bif Nat.blt pc 156 then (bif Nat.blt pc 148 then (bif Nat.blt pc 144 then (bif Nat.beq pc 141 then some (.invokespecial 75, 3) else none) else
      (bif Nat.blt pc 147 then (bif Nat.beq pc 144 then some (.putfield 78, 3) else none) else
       (bif Nat.beq pc 147 then some (.aload_n 0, 1) else none))) else
     (bif Nat.blt pc 152 then (bif Nat.blt pc 151 then (bif Nat.beq pc 148 then some (.new 82, 3) else none) else
       (bif Nat.beq pc 151 then some (.dup, 1) else none)) else
      (bif Nat.blt pc 153 then (bif Nat.beq pc 152 then some (.aload_n 0, 1) else none) else
       (bif Nat.beq pc 153 then some (.getfield 60, 3) else none)))) else
    (bif Nat.blt pc 163 then (bif Nat.blt pc 159 then (bif Nat.beq pc 156 then some (.invokespecial 84, 3) else none) else
      (bif Nat.blt pc 162 then (bif Nat.beq pc 159 then some (.putfield 85, 3) else none) else
       (bif Nat.beq pc 162 then some (.aload_n 0, 1) else none))) else
     (bif Nat.blt pc 166 then (bif Nat.blt pc 165 then (bif Nat.beq pc 163 then some (.ldc 89, 2) else none) else
       (bif Nat.beq pc 165 then some (.aload_n 0, 1) else none)) else
      (bif Nat.blt pc 169 then (bif Nat.beq pc 166 then some (.getfield 9, 3) else none) else
       (bif Nat.beq pc 169 then some (.iconst 0, 1) else none)))))) else
  (bif Nat.blt pc 202 then (bif Nat.blt pc 187 then (bif Nat.blt pc 177 then (bif Nat.blt pc 173 then (bif Nat.beq pc 170 then some (.invokestatic 91, 3) else none) else
      (bif Nat.blt pc 176 then (bif Nat.beq pc 173 then some (.putfield 97, 3) else none) else
       (bif Nat.beq pc 176 then some (.aload_n 0, 1) else none))) else
     (bif Nat.blt pc 181 then (bif Nat.blt pc 180 then (bif Nat.beq pc 177 then some (.getfield 30, 3) else none) else
       (bif Nat.beq pc 180 then some (.aload_n 0, 1) else none)) else
      (bif Nat.blt pc 184 then (bif Nat.beq pc 181 then some (.getfield 97, 3) else none) else
       (bif Nat.beq pc 184 then some (.invokevirtual 101, 3) else none)))) else
    (bif Nat.blt pc 192 then (bif Nat.blt pc 188 then (bif Nat.beq pc 187 then some (.aload_n 0, 1) else none) else
      (bif Nat.blt pc 191 then (bif Nat.beq pc 188 then some (.getfield 30, 3) else none) else
       (bif Nat.beq pc 191 then some (.aload_n 0, 1) else none))) else
     (bif Nat.blt pc 196 then (bif Nat.blt pc 195 then (bif Nat.beq pc 192 then some (.getfield 46, 3) else none) else
       (bif Nat.beq pc 195 then some (.aload_n 0, 1) else none)) else
      (bif Nat.blt pc 199 then (bif Nat.beq pc 196 then some (.getfield 53, 3) else none) else
       (bif Nat.beq pc 199 then some (.invokevirtual 105, 3) else none))))) else
   (bif Nat.blt pc 213 then (bif Nat.blt pc 207 then (bif Nat.blt pc 203 then (bif Nat.beq pc 202 then some (.aload_n 0, 1) else none) else
      (bif Nat.blt pc 204 then (bif Nat.beq pc 203 then some (.iconst 0, 1) else none) else
       (bif Nat.beq pc 204 then some (.putfield 97, 3) else none))) else
     (bif Nat.blt pc 209 then (bif Nat.blt pc 208 then (bif Nat.beq pc 207 then some (.aload_n 0, 1) else none) else
       (bif Nat.beq pc 208 then some (.iconst (-1), 1) else none)) else
      (bif Nat.blt pc 212 then (bif Nat.beq pc 209 then some (.putfield 109, 3) else none) else
       (bif Nat.beq pc 212 then some (.aload_n 0, 1) else none)))) else
    (bif Nat.blt pc 220 then (bif Nat.blt pc 216 then (bif Nat.beq pc 213 then some (.getfield 78, 3) else none) else
      (bif Nat.blt pc 217 then (bif Nat.beq pc 216 then some (.aload_n 0, 1) else none) else
       (bif Nat.beq pc 217 then some (.getfield 46, 3) else none))) else
     (bif Nat.blt pc 224 then (bif Nat.blt pc 221 then (bif Nat.beq pc 220 then some (.aload_n 0, 1) else none) else
       (bif Nat.beq pc 221 then some (.getfield 53, 3) else none)) else
      (bif Nat.blt pc 227 then (bif Nat.beq pc 224 then some (.invokevirtual 112, 3) else none) else
       (bif Nat.beq pc 227 then some (.return_, 1) else none)))))))) else none
set_option maxRecDepth 10000 in
noncomputable def zc_147 (pc : Nat) : Option (Instr × Nat) :=
 bif Nat.blt pc 5 then (bif Nat.blt pc 1 then (bif Nat.beq pc 0 then some (.aload_n 0, 1) else none) else
 (bif Nat.blt pc 4 then (bif Nat.beq pc 1 then some (.getfield 133, 3) else none) else
  (bif Nat.beq pc 4 then some (.ireturn, 1) else none))) else none
set_option maxRecDepth 10000 in
noncomputable def zc_148 (pc : Nat) : Option (Instr × Nat) :=
 bif Nat.blt pc 6 then (bif Nat.blt pc 2 then (bif Nat.blt pc 1 then (bif Nat.beq pc 0 then some (.aload_n 0, 1) else none) else
  (bif Nat.beq pc 1 then some (.aload_n 1, 1) else none)) else
 (bif Nat.blt pc 5 then (bif Nat.beq pc 2 then some (.invokevirtual 23, 3) else none) else
  (bif Nat.beq pc 5 then some (.areturn, 1) else none))) else none
set_option maxRecDepth 10000 in
noncomputable def zc_149 (pc : Nat) : Option (Instr × Nat) :=
 bif Nat.blt pc 8 then (bif Nat.blt pc 4 then (bif Nat.blt pc 1 then (bif Nat.beq pc 0 then some (.aload_n 0, 1) else none) else
  (bif Nat.beq pc 1 then some (.getfield 60, 3) else none)) else
 (bif Nat.blt pc 7 then (bif Nat.beq pc 4 then some (.getfield 186, 3) else none) else
  (bif Nat.beq pc 7 then some (.lreturn, 1) else none))) else none
set_option maxRecDepth 10000 in
noncomputable def zc_150 (pc : Nat) : Option (Instr × Nat) :=
 bif Nat.blt pc 8 then (bif Nat.blt pc 4 then (bif Nat.blt pc 1 then (bif Nat.beq pc 0 then some (.aload_n 0, 1) else none) else
  (bif Nat.beq pc 1 then some (.getfield 60, 3) else none)) else
 (bif Nat.blt pc 7 then (bif Nat.beq pc 4 then some (.getfield 190, 3) else none) else
  (bif Nat.beq pc 7 then some (.lreturn, 1) else none))) else none
set_option maxRecDepth 10000 in
noncomputable def zc_151 (pc : Nat) : Option (Instr × Nat) :=
 bif Nat.blt pc 15 then (bif Nat.blt pc 5 then (bif Nat.blt pc 1 then (bif Nat.beq pc 0 then some (.aload_n 0, 1) else none) else
  (bif Nat.blt pc 4 then (bif Nat.beq pc 1 then some (.getfield 78, 3) else none) else
   (bif Nat.beq pc 4 then some (.aload_n 0, 1) else none))) else
 (bif Nat.blt pc 11 then (bif Nat.blt pc 8 then (bif Nat.beq pc 5 then some (.getfield 46, 3) else none) else
   (bif Nat.beq pc 8 then some (.invokevirtual 216, 3) else none)) else
  (bif Nat.blt pc 14 then (bif Nat.beq pc 11 then some (.invokevirtual 213, 3) else none) else
   (bif Nat.beq pc 14 then some (.lreturn, 1) else none)))) else none
set_option maxRecDepth 10000 in
noncomputable def zc_152 (pc : Nat) : Option (Instr × Nat) :=
 bif Nat.blt pc 31 then (bif Nat.blt pc 16 then (bif Nat.blt pc 5 then (bif Nat.blt pc 2 then (bif Nat.blt pc 1 then (bif Nat.beq pc 0 then some (.iconst 0, 1) else none) else
    (bif Nat.beq pc 1 then some (.istore_n 1, 1) else none)) else
   (bif Nat.blt pc 3 then (bif Nat.beq pc 2 then some (.iload_n 1, 1) else none) else
    (bif Nat.beq pc 3 then some (.bipush 73, 2) else none))) else
  (bif Nat.blt pc 9 then (bif Nat.blt pc 8 then (bif Nat.beq pc 5 then some (.if_icmp .ge 24, 3) else none) else
    (bif Nat.beq pc 8 then some (.aload_n 0, 1) else none)) else
   (bif Nat.blt pc 12 then (bif Nat.beq pc 9 then some (.getfield 78, 3) else none) else
    (bif Nat.blt pc 13 then (bif Nat.beq pc 12 then some (.iload_n 1, 1) else none) else
     (bif Nat.beq pc 13 then some (.invokevirtual 222, 3) else none))))) else
 (bif Nat.blt pc 22 then (bif Nat.blt pc 18 then (bif Nat.blt pc 17 then (bif Nat.beq pc 16 then some (.lconst 0, 1) else none) else
    (bif Nat.beq pc 17 then some (.lcmp, 1) else none)) else
   (bif Nat.blt pc 21 then (bif Nat.beq pc 18 then some (.ifCond .eq 5, 3) else none) else
    (bif Nat.beq pc 21 then some (.iload_n 1, 1) else none))) else
  (bif Nat.blt pc 26 then (bif Nat.blt pc 23 then (bif Nat.beq pc 22 then some (.ireturn, 1) else none) else
    (bif Nat.beq pc 23 then some (.iinc 1 1, 3) else none)) else
   (bif Nat.blt pc 29 then (bif Nat.beq pc 26 then some (.goto (-24), 3) else none) else
    (bif Nat.blt pc 30 then (bif Nat.beq pc 29 then some (.iconst (-1), 1) else none) else
     (bif Nat.beq pc 30 then some (.ireturn, 1) else none)))))) else none
set_option maxRecDepth 10000 in
noncomputable def zc_153 (pc : Nat) : Option (Instr × Nat) :=
 bif Nat.blt pc 8 then (bif Nat.blt pc 4 then (bif Nat.blt pc 1 then (bif Nat.beq pc 0 then some (.aload_n 0, 1) else none) else
  (bif Nat.beq pc 1 then some (.getfield 69, 3) else none)) else
 (bif Nat.blt pc 7 then (bif Nat.beq pc 4 then some (.invokevirtual 254, 3) else none) else
  (bif Nat.beq pc 7 then some (.lreturn, 1) else none))) else none
set_option maxRecDepth 10000 in
noncomputable def zc_154 (pc : Nat) : Option (Instr × Nat) :=
 bif Nat.blt pc 8 then (bif Nat.blt pc 4 then (bif Nat.blt pc 1 then (bif Nat.beq pc 0 then some (.aload_n 0, 1) else none) else
  (bif Nat.beq pc 1 then some (.getfield 69, 3) else none)) else
 (bif Nat.blt pc 7 then (bif Nat.beq pc 4 then some (.invokevirtual 258, 3) else none) else
  (bif Nat.beq pc 7 then some (.ireturn, 1) else none))) else none
set_option maxRecDepth 10000 in
noncomputable def zc_155 (pc : Nat) : Option (Instr × Nat) :=
 bif Nat.blt pc 8 then (bif Nat.blt pc 4 then (bif Nat.blt pc 1 then (bif Nat.beq pc 0 then some (.aload_n 0, 1) else none) else
  (bif Nat.beq pc 1 then some (.getfield 69, 3) else none)) else
 (bif Nat.blt pc 7 then (bif Nat.beq pc 4 then some (.invokevirtual 261, 3) else none) else
  (bif Nat.beq pc 7 then some (.dreturn, 1) else none))) else none
set_option maxRecDepth 10000 in
noncomputable def zc_156 (pc : Nat) : Option (Instr × Nat) :=
 bif Nat.blt pc 11 then (bif Nat.blt pc 4 then (bif Nat.blt pc 1 then (bif Nat.beq pc 0 then some (.aload_n 0, 1) else none) else
  (bif Nat.beq pc 1 then some (.getfield 69, 3) else none)) else
 (bif Nat.blt pc 7 then (bif Nat.beq pc 4 then some (.invokevirtual 261, 3) else none) else
  (bif Nat.blt pc 10 then (bif Nat.beq pc 7 then some (.invokestatic 265, 3) else none) else
   (bif Nat.beq pc 10 then some (.lreturn, 1) else none)))) else none
set_option maxRecDepth 10000 in
noncomputable def zc_157 (pc : Nat) : Option (Instr × Nat) :=
 bif Nat.blt pc 23 then (bif Nat.blt pc 11 then (bif Nat.blt pc 4 then (bif Nat.blt pc 1 then (bif Nat.beq pc 0 then some (.aload_n 0, 1) else none) else
   (bif Nat.beq pc 1 then some (.getfield 78, 3) else none)) else
  (bif Nat.blt pc 5 then (bif Nat.beq pc 4 then some (.aload_n 0, 1) else none) else
   (bif Nat.blt pc 8 then (bif Nat.beq pc 5 then some (.getfield 46, 3) else none) else
    (bif Nat.beq pc 8 then some (.invokevirtual 216, 3) else none)))) else
 (bif Nat.blt pc 18 then (bif Nat.blt pc 14 then (bif Nat.beq pc 11 then some (.invokevirtual 213, 3) else none) else
   (bif Nat.blt pc 17 then (bif Nat.beq pc 14 then some (.invokestatic 225, 3) else none) else
    (bif Nat.beq pc 17 then some (.i2f, 1) else none))) else
  (bif Nat.blt pc 21 then (bif Nat.beq pc 18 then some (.ldc_w 268, 3) else none) else
   (bif Nat.blt pc 22 then (bif Nat.beq pc 21 then some (.fdiv, 1) else none) else
    (bif Nat.beq pc 22 then some (.freturn, 1) else none))))) else none
set_option maxRecDepth 10000 in
noncomputable def zc_158 (pc : Nat) : Option (Instr × Nat) :=
 bif Nat.blt pc 53 then (bif Nat.blt pc 27 then (bif Nat.blt pc 16 then (bif Nat.blt pc 6 then (bif Nat.blt pc 1 then (bif Nat.beq pc 0 then some (.aload_n 0, 1) else none) else
    (bif Nat.blt pc 4 then (bif Nat.beq pc 1 then some (.getfield 97, 3) else none) else
     (bif Nat.beq pc 4 then some (.bipush 20, 2) else none))) else
   (bif Nat.blt pc 10 then (bif Nat.blt pc 7 then (bif Nat.beq pc 6 then some (.iadd, 1) else none) else
     (bif Nat.beq pc 7 then some (.sipush 800, 3) else none)) else
    (bif Nat.blt pc 13 then (bif Nat.beq pc 10 then some (.if_icmp .le 11, 3) else none) else
     (bif Nat.beq pc 13 then some (.new 115, 3) else none)))) else
  (bif Nat.blt pc 21 then (bif Nat.blt pc 17 then (bif Nat.beq pc 16 then some (.dup, 1) else none) else
    (bif Nat.blt pc 20 then (bif Nat.beq pc 17 then some (.invokespecial 117, 3) else none) else
     (bif Nat.beq pc 20 then some (.athrow, 1) else none))) else
   (bif Nat.blt pc 23 then (bif Nat.blt pc 22 then (bif Nat.beq pc 21 then some (.aload_n 0, 1) else none) else
     (bif Nat.beq pc 22 then some (.iload_n 1, 1) else none)) else
    (bif Nat.blt pc 26 then (bif Nat.beq pc 23 then some (.invokevirtual 118, 3) else none) else
     (bif Nat.beq pc 26 then some (.aload_n 0, 1) else none))))) else
 (bif Nat.blt pc 39 then (bif Nat.blt pc 32 then (bif Nat.blt pc 28 then (bif Nat.beq pc 27 then some (.iload_n 2, 1) else none) else
    (bif Nat.blt pc 31 then (bif Nat.beq pc 28 then some (.invokevirtual 118, 3) else none) else
     (bif Nat.beq pc 31 then some (.aload_n 0, 1) else none))) else
   (bif Nat.blt pc 36 then (bif Nat.blt pc 33 then (bif Nat.beq pc 32 then some (.iload_n 3, 1) else none) else
     (bif Nat.beq pc 33 then some (.invokevirtual 118, 3) else none)) else
    (bif Nat.blt pc 37 then (bif Nat.beq pc 36 then some (.aload_n 0, 1) else none) else
     (bif Nat.beq pc 37 then some (.iload 4, 2) else none)))) else
  (bif Nat.blt pc 45 then (bif Nat.blt pc 42 then (bif Nat.beq pc 39 then some (.invokevirtual 118, 3) else none) else
    (bif Nat.blt pc 43 then (bif Nat.beq pc 42 then some (.aload_n 0, 1) else none) else
     (bif Nat.beq pc 43 then some (.iload 5, 2) else none))) else
   (bif Nat.blt pc 49 then (bif Nat.blt pc 48 then (bif Nat.beq pc 45 then some (.invokevirtual 118, 3) else none) else
     (bif Nat.beq pc 48 then some (.aload_n 0, 1) else none)) else
    (bif Nat.blt pc 52 then (bif Nat.beq pc 49 then some (.getfield 97, 3) else none) else
     (bif Nat.beq pc 52 then some (.ireturn, 1) else none)))))) else none
set_option maxRecDepth 10000 in
noncomputable def zc_159 (pc : Nat) : Option (Instr × Nat) :=
 bif Nat.blt pc 54 then (bif Nat.blt pc 29 then (bif Nat.blt pc 14 then (bif Nat.blt pc 4 then (bif Nat.blt pc 2 then (bif Nat.beq pc 0 then some (.bipush 24, 2) else none) else
    (bif Nat.blt pc 3 then (bif Nat.beq pc 2 then some (.istore_n 2, 1) else none) else
     (bif Nat.beq pc 3 then some (.iload_n 2, 1) else none))) else
   (bif Nat.blt pc 8 then (bif Nat.blt pc 7 then (bif Nat.beq pc 4 then some (.ifCond .lt 49, 3) else none) else
     (bif Nat.beq pc 7 then some (.aload_n 0, 1) else none)) else
    (bif Nat.blt pc 11 then (bif Nat.beq pc 8 then some (.getfield 97, 3) else none) else
     (bif Nat.beq pc 11 then some (.ifCond .lt 36, 3) else none)))) else
  (bif Nat.blt pc 21 then (bif Nat.blt pc 15 then (bif Nat.beq pc 14 then some (.aload_n 0, 1) else none) else
    (bif Nat.blt pc 18 then (bif Nat.beq pc 15 then some (.getfield 97, 3) else none) else
     (bif Nat.beq pc 18 then some (.sipush 800, 3) else none))) else
   (bif Nat.blt pc 25 then (bif Nat.blt pc 24 then (bif Nat.beq pc 21 then some (.if_icmp .ge 26, 3) else none) else
     (bif Nat.beq pc 24 then some (.aload_n 0, 1) else none)) else
    (bif Nat.blt pc 28 then (bif Nat.beq pc 25 then some (.getfield 9, 3) else none) else
     (bif Nat.beq pc 28 then some (.aload_n 0, 1) else none))))) else
 (bif Nat.blt pc 38 then (bif Nat.blt pc 34 then (bif Nat.blt pc 32 then (bif Nat.beq pc 29 then some (.getfield 97, 3) else none) else
    (bif Nat.blt pc 33 then (bif Nat.beq pc 32 then some (.iload_n 1, 1) else none) else
     (bif Nat.beq pc 33 then some (.iload_n 2, 1) else none))) else
   (bif Nat.blt pc 36 then (bif Nat.blt pc 35 then (bif Nat.beq pc 34 then some (.iushr, 1) else none) else
     (bif Nat.beq pc 35 then some (.i2b, 1) else none)) else
    (bif Nat.blt pc 37 then (bif Nat.beq pc 36 then some (.bastore, 1) else none) else
     (bif Nat.beq pc 37 then some (.aload_n 0, 1) else none)))) else
  (bif Nat.blt pc 44 then (bif Nat.blt pc 42 then (bif Nat.blt pc 39 then (bif Nat.beq pc 38 then some (.dup, 1) else none) else
     (bif Nat.beq pc 39 then some (.getfield 97, 3) else none)) else
    (bif Nat.blt pc 43 then (bif Nat.beq pc 42 then some (.iconst 1, 1) else none) else
     (bif Nat.beq pc 43 then some (.iadd, 1) else none))) else
   (bif Nat.blt pc 50 then (bif Nat.blt pc 47 then (bif Nat.beq pc 44 then some (.putfield 97, 3) else none) else
     (bif Nat.beq pc 47 then some (.iinc 2 (-8), 3) else none)) else
    (bif Nat.blt pc 53 then (bif Nat.beq pc 50 then some (.goto (-47), 3) else none) else
     (bif Nat.beq pc 53 then some (.return_, 1) else none)))))) else none
set_option maxRecDepth 10000 in
noncomputable def zc_160 (pc : Nat) : Option (Instr × Nat) :=
 bif Nat.blt pc 90 then (bif Nat.blt pc 43 then (bif Nat.blt pc 21 then (bif Nat.blt pc 9 then (bif Nat.blt pc 2 then (bif Nat.blt pc 1 then (bif Nat.beq pc 0 then some (.aload_n 0, 1) else none) else
     (bif Nat.beq pc 1 then some (.iload_n 1, 1) else none)) else
    (bif Nat.blt pc 5 then (bif Nat.beq pc 2 then some (.invokevirtual 121, 3) else none) else
     (bif Nat.blt pc 8 then (bif Nat.beq pc 5 then some (.new 43, 3) else none) else
      (bif Nat.beq pc 8 then some (.dup, 1) else none)))) else
   (bif Nat.blt pc 16 then (bif Nat.blt pc 10 then (bif Nat.beq pc 9 then some (.aload_n 0, 1) else none) else
     (bif Nat.blt pc 13 then (bif Nat.beq pc 10 then some (.getfield 21, 3) else none) else
      (bif Nat.beq pc 13 then some (.invokespecial 45, 3) else none))) else
    (bif Nat.blt pc 17 then (bif Nat.beq pc 16 then some (.astore_n 2, 1) else none) else
     (bif Nat.blt pc 20 then (bif Nat.beq pc 17 then some (.new 50, 3) else none) else
      (bif Nat.beq pc 20 then some (.dup, 1) else none))))) else
  (bif Nat.blt pc 33 then (bif Nat.blt pc 28 then (bif Nat.blt pc 22 then (bif Nat.beq pc 21 then some (.aload_n 0, 1) else none) else
     (bif Nat.blt pc 25 then (bif Nat.beq pc 22 then some (.getfield 21, 3) else none) else
      (bif Nat.beq pc 25 then some (.invokespecial 52, 3) else none))) else
    (bif Nat.blt pc 29 then (bif Nat.beq pc 28 then some (.astore_n 3, 1) else none) else
     (bif Nat.blt pc 30 then (bif Nat.beq pc 29 then some (.aload_n 0, 1) else none) else
      (bif Nat.beq pc 30 then some (.getfield 30, 3) else none)))) else
   (bif Nat.blt pc 38 then (bif Nat.blt pc 34 then (bif Nat.beq pc 33 then some (.iload_n 1, 1) else none) else
     (bif Nat.blt pc 37 then (bif Nat.beq pc 34 then some (.invokevirtual 101, 3) else none) else
      (bif Nat.beq pc 37 then some (.aload_n 0, 1) else none))) else
    (bif Nat.blt pc 41 then (bif Nat.beq pc 38 then some (.getfield 30, 3) else none) else
     (bif Nat.blt pc 42 then (bif Nat.beq pc 41 then some (.aload_n 2, 1) else none) else
      (bif Nat.beq pc 42 then some (.aload_n 3, 1) else none)))))) else
 (bif Nat.blt pc 64 then (bif Nat.blt pc 52 then (bif Nat.blt pc 47 then (bif Nat.blt pc 46 then (bif Nat.beq pc 43 then some (.invokevirtual 105, 3) else none) else
     (bif Nat.beq pc 46 then some (.aload_n 0, 1) else none)) else
    (bif Nat.blt pc 50 then (bif Nat.beq pc 47 then some (.invokevirtual 124, 3) else none) else
     (bif Nat.blt pc 51 then (bif Nat.beq pc 50 then some (.aload_n 0, 1) else none) else
      (bif Nat.beq pc 51 then some (.aload_n 2, 1) else none)))) else
   (bif Nat.blt pc 57 then (bif Nat.blt pc 55 then (bif Nat.beq pc 52 then some (.putfield 46, 3) else none) else
     (bif Nat.blt pc 56 then (bif Nat.beq pc 55 then some (.aload_n 0, 1) else none) else
      (bif Nat.beq pc 56 then some (.aload_n 3, 1) else none))) else
    (bif Nat.blt pc 60 then (bif Nat.beq pc 57 then some (.putfield 53, 3) else none) else
     (bif Nat.blt pc 61 then (bif Nat.beq pc 60 then some (.aload_n 0, 1) else none) else
      (bif Nat.beq pc 61 then some (.getfield 39, 3) else none))))) else
  (bif Nat.blt pc 76 then (bif Nat.blt pc 71 then (bif Nat.blt pc 67 then (bif Nat.beq pc 64 then some (.invokevirtual 127, 3) else none) else
     (bif Nat.blt pc 68 then (bif Nat.beq pc 67 then some (.aload_n 0, 1) else none) else
      (bif Nat.beq pc 68 then some (.getfield 78, 3) else none))) else
    (bif Nat.blt pc 72 then (bif Nat.beq pc 71 then some (.aload_n 0, 1) else none) else
     (bif Nat.blt pc 75 then (bif Nat.beq pc 72 then some (.getfield 46, 3) else none) else
      (bif Nat.beq pc 75 then some (.aload_n 0, 1) else none)))) else
   (bif Nat.blt pc 83 then (bif Nat.blt pc 79 then (bif Nat.beq pc 76 then some (.getfield 53, 3) else none) else
     (bif Nat.blt pc 82 then (bif Nat.beq pc 79 then some (.invokevirtual 112, 3) else none) else
      (bif Nat.beq pc 82 then some (.aload_n 0, 1) else none))) else
    (bif Nat.blt pc 86 then (bif Nat.beq pc 83 then some (.getfield 46, 3) else none) else
     (bif Nat.blt pc 89 then (bif Nat.beq pc 86 then some (.getfield 130, 3) else none) else
      (bif Nat.beq pc 89 then some (.ireturn, 1) else none))))))) else none
set_option maxRecDepth 10000 in
noncomputable def zc_161 (pc : Nat) : Option (Instr × Nat) :=
 bif Nat.blt pc 21 then (bif Nat.blt pc 9 then (bif Nat.blt pc 4 then (bif Nat.blt pc 1 then (bif Nat.beq pc 0 then some (.iload_n 1, 1) else none) else
   (bif Nat.beq pc 1 then some (.ifCond .lt 11, 3) else none)) else
  (bif Nat.blt pc 5 then (bif Nat.beq pc 4 then some (.iload_n 1, 1) else none) else
   (bif Nat.blt pc 6 then (bif Nat.beq pc 5 then some (.aload_n 0, 1) else none) else
    (bif Nat.beq pc 6 then some (.getfield 97, 3) else none)))) else
 (bif Nat.blt pc 16 then (bif Nat.blt pc 12 then (bif Nat.beq pc 9 then some (.if_icmp .le 11, 3) else none) else
   (bif Nat.blt pc 15 then (bif Nat.beq pc 12 then some (.new 153, 3) else none) else
    (bif Nat.beq pc 15 then some (.dup, 1) else none))) else
  (bif Nat.blt pc 19 then (bif Nat.beq pc 16 then some (.invokespecial 155, 3) else none) else
   (bif Nat.blt pc 20 then (bif Nat.beq pc 19 then some (.athrow, 1) else none) else
    (bif Nat.beq pc 20 then some (.return_, 1) else none))))) else none
set_option maxRecDepth 10000 in
noncomputable def zc_162 (pc : Nat) : Option (Instr × Nat) :=
 bif Nat.blt pc 43 then (bif Nat.blt pc 18 then (bif Nat.blt pc 7 then (bif Nat.blt pc 2 then (bif Nat.blt pc 1 then (bif Nat.beq pc 0 then some (.aload_n 0, 1) else none) else
    (bif Nat.beq pc 1 then some (.iconst 0, 1) else none)) else
   (bif Nat.blt pc 5 then (bif Nat.beq pc 2 then some (.putfield 97, 3) else none) else
    (bif Nat.blt pc 6 then (bif Nat.beq pc 5 then some (.aload_n 0, 1) else none) else
     (bif Nat.beq pc 6 then some (.aload_n 0, 1) else none)))) else
  (bif Nat.blt pc 13 then (bif Nat.blt pc 10 then (bif Nat.beq pc 7 then some (.getfield 30, 3) else none) else
    (bif Nat.beq pc 10 then some (.getfield 358, 3) else none)) else
   (bif Nat.blt pc 16 then (bif Nat.beq pc 13 then some (.putfield 133, 3) else none) else
    (bif Nat.blt pc 17 then (bif Nat.beq pc 16 then some (.aload_n 0, 1) else none) else
     (bif Nat.beq pc 17 then some (.aload_n 0, 1) else none))))) else
 (bif Nat.blt pc 31 then (bif Nat.blt pc 24 then (bif Nat.blt pc 21 then (bif Nat.beq pc 18 then some (.getfield 30, 3) else none) else
    (bif Nat.beq pc 21 then some (.getfield 359, 3) else none)) else
   (bif Nat.blt pc 27 then (bif Nat.beq pc 24 then some (.putfield 109, 3) else none) else
    (bif Nat.blt pc 28 then (bif Nat.beq pc 27 then some (.aload_n 0, 1) else none) else
     (bif Nat.beq pc 28 then some (.getfield 133, 3) else none)))) else
  (bif Nat.blt pc 38 then (bif Nat.blt pc 34 then (bif Nat.beq pc 31 then some (.ifCond .eq 11, 3) else none) else
    (bif Nat.blt pc 37 then (bif Nat.beq pc 34 then some (.new 115, 3) else none) else
     (bif Nat.beq pc 37 then some (.dup, 1) else none))) else
   (bif Nat.blt pc 41 then (bif Nat.beq pc 38 then some (.invokespecial 117, 3) else none) else
    (bif Nat.blt pc 42 then (bif Nat.beq pc 41 then some (.athrow, 1) else none) else
     (bif Nat.beq pc 42 then some (.return_, 1) else none)))))) else none
set_option maxRecDepth 10000 in
noncomputable def zc_163 (pc : Nat) : Option (Instr × Nat) :=
 bif Nat.blt pc 135 then (bif Nat.blt pc 88 then (bif Nat.blt pc 65 then (bif Nat.blt pc 55 then (bif Nat.blt pc 48 then (bif Nat.blt pc 1 then (bif Nat.beq pc 0 then some (.iload_n 1, 1) else none) else
     (bif Nat.beq pc 1 then some (.tableswitch 126 0 7 #[47, 55, 63, 71, 86, 94, 102, 118], 47) else none)) else
    (bif Nat.blt pc 49 then (bif Nat.beq pc 48 then some (.aload_n 0, 1) else none) else
     (bif Nat.blt pc 52 then (bif Nat.beq pc 49 then some (.getfield 46, 3) else none) else
      (bif Nat.beq pc 52 then some (.getfield 130, 3) else none)))) else
   (bif Nat.blt pc 60 then (bif Nat.blt pc 56 then (bif Nat.beq pc 55 then some (.ireturn, 1) else none) else
     (bif Nat.blt pc 57 then (bif Nat.beq pc 56 then some (.aload_n 0, 1) else none) else
      (bif Nat.beq pc 57 then some (.getfield 46, 3) else none))) else
    (bif Nat.blt pc 63 then (bif Nat.beq pc 60 then some (.getfield 136, 3) else none) else
     (bif Nat.blt pc 64 then (bif Nat.beq pc 63 then some (.ireturn, 1) else none) else
      (bif Nat.beq pc 64 then some (.aload_n 0, 1) else none))))) else
  (bif Nat.blt pc 76 then (bif Nat.blt pc 71 then (bif Nat.blt pc 68 then (bif Nat.beq pc 65 then some (.getfield 46, 3) else none) else
     (bif Nat.beq pc 68 then some (.getfield 139, 3) else none)) else
    (bif Nat.blt pc 72 then (bif Nat.beq pc 71 then some (.ireturn, 1) else none) else
     (bif Nat.blt pc 73 then (bif Nat.beq pc 72 then some (.aload_n 0, 1) else none) else
      (bif Nat.beq pc 73 then some (.getfield 53, 3) else none)))) else
   (bif Nat.blt pc 83 then (bif Nat.blt pc 77 then (bif Nat.beq pc 76 then some (.aload_n 0, 1) else none) else
     (bif Nat.blt pc 80 then (bif Nat.beq pc 77 then some (.getfield 46, 3) else none) else
      (bif Nat.beq pc 80 then some (.getfield 139, 3) else none))) else
    (bif Nat.blt pc 86 then (bif Nat.beq pc 83 then some (.invokevirtual 142, 3) else none) else
     (bif Nat.blt pc 87 then (bif Nat.beq pc 86 then some (.ireturn, 1) else none) else
      (bif Nat.beq pc 87 then some (.aload_n 0, 1) else none)))))) else
 (bif Nat.blt pc 113 then (bif Nat.blt pc 99 then (bif Nat.blt pc 94 then (bif Nat.blt pc 91 then (bif Nat.beq pc 88 then some (.getfield 78, 3) else none) else
     (bif Nat.beq pc 91 then some (.invokevirtual 146, 3) else none)) else
    (bif Nat.blt pc 95 then (bif Nat.beq pc 94 then some (.ireturn, 1) else none) else
     (bif Nat.blt pc 96 then (bif Nat.beq pc 95 then some (.aload_n 0, 1) else none) else
      (bif Nat.beq pc 96 then some (.getfield 78, 3) else none)))) else
   (bif Nat.blt pc 104 then (bif Nat.blt pc 102 then (bif Nat.beq pc 99 then some (.invokevirtual 149, 3) else none) else
     (bif Nat.blt pc 103 then (bif Nat.beq pc 102 then some (.ireturn, 1) else none) else
      (bif Nat.beq pc 103 then some (.aload_n 0, 1) else none))) else
    (bif Nat.blt pc 107 then (bif Nat.beq pc 104 then some (.getfield 78, 3) else none) else
     (bif Nat.blt pc 110 then (bif Nat.beq pc 107 then some (.invokevirtual 149, 3) else none) else
      (bif Nat.beq pc 110 then some (.ifCond .ne 7, 3) else none))))) else
  (bif Nat.blt pc 123 then (bif Nat.blt pc 118 then (bif Nat.blt pc 114 then (bif Nat.beq pc 113 then some (.iconst 1, 1) else none) else
     (bif Nat.blt pc 117 then (bif Nat.beq pc 114 then some (.goto 4, 3) else none) else
      (bif Nat.beq pc 117 then some (.iconst 0, 1) else none))) else
    (bif Nat.blt pc 119 then (bif Nat.beq pc 118 then some (.ireturn, 1) else none) else
     (bif Nat.blt pc 120 then (bif Nat.beq pc 119 then some (.aload_n 0, 1) else none) else
      (bif Nat.beq pc 120 then some (.getfield 39, 3) else none)))) else
   (bif Nat.blt pc 130 then (bif Nat.blt pc 126 then (bif Nat.beq pc 123 then some (.getfield 152, 3) else none) else
     (bif Nat.blt pc 127 then (bif Nat.beq pc 126 then some (.ireturn, 1) else none) else
      (bif Nat.beq pc 127 then some (.new 153, 3) else none))) else
    (bif Nat.blt pc 131 then (bif Nat.beq pc 130 then some (.dup, 1) else none) else
     (bif Nat.blt pc 134 then (bif Nat.beq pc 131 then some (.invokespecial 155, 3) else none) else
      (bif Nat.beq pc 134 then some (.athrow, 1) else none))))))) else none
set_option maxRecDepth 10000 in
noncomputable def zc_164 (pc : Nat) : Option (Instr × Nat) :=
 bif Nat.blt pc 143 then (bif Nat.blt pc 94 then (bif Nat.blt pc 66 then (bif Nat.blt pc 53 then (bif Nat.blt pc 5 then (bif Nat.blt pc 1 then (bif Nat.beq pc 0 then some (.aload_n 0, 1) else none) else
     (bif Nat.blt pc 2 then (bif Nat.beq pc 1 then some (.iload_n 1, 1) else none) else
      (bif Nat.beq pc 2 then some (.invokevirtual 156, 3) else none))) else
    (bif Nat.blt pc 6 then (bif Nat.beq pc 5 then some (.iload_n 2, 1) else none) else
     (bif Nat.blt pc 52 then (bif Nat.beq pc 6 then some (.tableswitch 129 0 7 #[46, 55, 64, 73, 89, 105, 114, 120], 46) else none) else
      (bif Nat.beq pc 52 then some (.aload_n 0, 1) else none)))) else
   (bif Nat.blt pc 60 then (bif Nat.blt pc 56 then (bif Nat.beq pc 53 then some (.getfield 46, 3) else none) else
     (bif Nat.blt pc 57 then (bif Nat.beq pc 56 then some (.iload_n 1, 1) else none) else
      (bif Nat.beq pc 57 then some (.invokevirtual 159, 3) else none))) else
    (bif Nat.blt pc 62 then (bif Nat.blt pc 61 then (bif Nat.beq pc 60 then some (.ireturn, 1) else none) else
      (bif Nat.beq pc 61 then some (.aload_n 0, 1) else none)) else
     (bif Nat.blt pc 65 then (bif Nat.beq pc 62 then some (.getfield 60, 3) else none) else
      (bif Nat.beq pc 65 then some (.iload_n 1, 1) else none))))) else
  (bif Nat.blt pc 79 then (bif Nat.blt pc 71 then (bif Nat.blt pc 69 then (bif Nat.beq pc 66 then some (.invokevirtual 162, 3) else none) else
     (bif Nat.blt pc 70 then (bif Nat.beq pc 69 then some (.ireturn, 1) else none) else
      (bif Nat.beq pc 70 then some (.aload_n 0, 1) else none))) else
    (bif Nat.blt pc 75 then (bif Nat.blt pc 74 then (bif Nat.beq pc 71 then some (.getfield 46, 3) else none) else
      (bif Nat.beq pc 74 then some (.iload_n 1, 1) else none)) else
     (bif Nat.blt pc 78 then (bif Nat.beq pc 75 then some (.invokevirtual 165, 3) else none) else
      (bif Nat.beq pc 78 then some (.ireturn, 1) else none)))) else
   (bif Nat.blt pc 84 then (bif Nat.blt pc 80 then (bif Nat.beq pc 79 then some (.aload_n 0, 1) else none) else
     (bif Nat.blt pc 83 then (bif Nat.beq pc 80 then some (.getfield 46, 3) else none) else
      (bif Nat.beq pc 83 then some (.aload_n 0, 1) else none))) else
    (bif Nat.blt pc 88 then (bif Nat.blt pc 87 then (bif Nat.beq pc 84 then some (.getfield 46, 3) else none) else
      (bif Nat.beq pc 87 then some (.iload_n 1, 1) else none)) else
     (bif Nat.blt pc 91 then (bif Nat.beq pc 88 then some (.invokevirtual 168, 3) else none) else
      (bif Nat.beq pc 91 then some (.invokevirtual 171, 3) else none)))))) else
 (bif Nat.blt pc 119 then (bif Nat.blt pc 104 then (bif Nat.blt pc 99 then (bif Nat.blt pc 95 then (bif Nat.beq pc 94 then some (.ireturn, 1) else none) else
     (bif Nat.blt pc 96 then (bif Nat.beq pc 95 then some (.aload_n 0, 1) else none) else
      (bif Nat.beq pc 96 then some (.getfield 46, 3) else none))) else
    (bif Nat.blt pc 100 then (bif Nat.beq pc 99 then some (.aload_n 0, 1) else none) else
     (bif Nat.blt pc 103 then (bif Nat.beq pc 100 then some (.getfield 46, 3) else none) else
      (bif Nat.beq pc 103 then some (.iload_n 1, 1) else none)))) else
   (bif Nat.blt pc 111 then (bif Nat.blt pc 107 then (bif Nat.beq pc 104 then some (.invokevirtual 174, 3) else none) else
     (bif Nat.blt pc 110 then (bif Nat.beq pc 107 then some (.invokevirtual 171, 3) else none) else
      (bif Nat.beq pc 110 then some (.ireturn, 1) else none))) else
    (bif Nat.blt pc 115 then (bif Nat.blt pc 112 then (bif Nat.beq pc 111 then some (.aload_n 0, 1) else none) else
      (bif Nat.beq pc 112 then some (.getfield 53, 3) else none)) else
     (bif Nat.blt pc 116 then (bif Nat.beq pc 115 then some (.iload_n 1, 1) else none) else
      (bif Nat.beq pc 116 then some (.invokevirtual 177, 3) else none))))) else
  (bif Nat.blt pc 130 then (bif Nat.blt pc 122 then (bif Nat.blt pc 120 then (bif Nat.beq pc 119 then some (.ireturn, 1) else none) else
     (bif Nat.blt pc 121 then (bif Nat.beq pc 120 then some (.aload_n 0, 1) else none) else
      (bif Nat.beq pc 121 then some (.iload_n 1, 1) else none))) else
    (bif Nat.blt pc 126 then (bif Nat.blt pc 125 then (bif Nat.beq pc 122 then some (.invokevirtual 180, 3) else none) else
      (bif Nat.beq pc 125 then some (.ireturn, 1) else none)) else
     (bif Nat.blt pc 127 then (bif Nat.beq pc 126 then some (.aload_n 0, 1) else none) else
      (bif Nat.beq pc 127 then some (.getfield 46, 3) else none)))) else
   (bif Nat.blt pc 135 then (bif Nat.blt pc 131 then (bif Nat.beq pc 130 then some (.iload_n 1, 1) else none) else
     (bif Nat.blt pc 134 then (bif Nat.beq pc 131 then some (.invokevirtual 183, 3) else none) else
      (bif Nat.beq pc 134 then some (.ireturn, 1) else none))) else
    (bif Nat.blt pc 139 then (bif Nat.blt pc 138 then (bif Nat.beq pc 135 then some (.new 153, 3) else none) else
      (bif Nat.beq pc 138 then some (.dup, 1) else none)) else
     (bif Nat.blt pc 142 then (bif Nat.beq pc 139 then some (.invokespecial 155, 3) else none) else
      (bif Nat.beq pc 142 then some (.athrow, 1) else none))))))) else none
set_option maxRecDepth 10000 in
noncomputable def zc_165 (pc : Nat) : Option (Instr × Nat) :=
 bif Nat.blt pc 24 then (bif Nat.blt pc 12 then (bif Nat.blt pc 5 then (bif Nat.blt pc 1 then (bif Nat.beq pc 0 then some (.iload_n 1, 1) else none) else
   (bif Nat.blt pc 4 then (bif Nat.beq pc 1 then some (.ifCond .lt 14, 3) else none) else
    (bif Nat.beq pc 4 then some (.iload_n 1, 1) else none))) else
  (bif Nat.blt pc 6 then (bif Nat.beq pc 5 then some (.aload_n 0, 1) else none) else
   (bif Nat.blt pc 9 then (bif Nat.beq pc 6 then some (.getfield 46, 3) else none) else
    (bif Nat.beq pc 9 then some (.getfield 130, 3) else none)))) else
 (bif Nat.blt pc 19 then (bif Nat.blt pc 15 then (bif Nat.beq pc 12 then some (.if_icmp .lt 11, 3) else none) else
   (bif Nat.blt pc 18 then (bif Nat.beq pc 15 then some (.new 380, 3) else none) else
    (bif Nat.beq pc 18 then some (.dup, 1) else none))) else
  (bif Nat.blt pc 22 then (bif Nat.beq pc 19 then some (.invokespecial 382, 3) else none) else
   (bif Nat.blt pc 23 then (bif Nat.beq pc 22 then some (.athrow, 1) else none) else
    (bif Nat.beq pc 23 then some (.return_, 1) else none))))) else none
set_option maxRecDepth 10000 in
noncomputable def zc_166 (pc : Nat) : Option (Instr × Nat) :=
 bif Nat.blt pc 61 then (bif Nat.blt pc 32 then (bif Nat.blt pc 16 then (bif Nat.blt pc 8 then (bif Nat.blt pc 4 then (bif Nat.blt pc 1 then (bif Nat.beq pc 0 then some (.aload_n 0, 1) else none) else
     (bif Nat.beq pc 1 then some (.getfield 46, 3) else none)) else
    (bif Nat.blt pc 5 then (bif Nat.beq pc 4 then some (.iload_n 1, 1) else none) else
     (bif Nat.beq pc 5 then some (.invokevirtual 360, 3) else none))) else
   (bif Nat.blt pc 12 then (bif Nat.blt pc 11 then (bif Nat.beq pc 8 then some (.invokevirtual 364, 3) else none) else
     (bif Nat.beq pc 11 then some (.istore_n 2, 1) else none)) else
    (bif Nat.blt pc 13 then (bif Nat.beq pc 12 then some (.aload_n 0, 1) else none) else
     (bif Nat.beq pc 13 then some (.getfield 46, 3) else none)))) else
  (bif Nat.blt pc 24 then (bif Nat.blt pc 20 then (bif Nat.blt pc 17 then (bif Nat.beq pc 16 then some (.iload_n 1, 1) else none) else
     (bif Nat.beq pc 17 then some (.invokevirtual 159, 3) else none)) else
    (bif Nat.blt pc 21 then (bif Nat.beq pc 20 then some (.iconst 2, 1) else none) else
     (bif Nat.beq pc 21 then some (.if_icmp .ne 38, 3) else none))) else
   (bif Nat.blt pc 28 then (bif Nat.blt pc 25 then (bif Nat.beq pc 24 then some (.aload_n 0, 1) else none) else
     (bif Nat.beq pc 25 then some (.getfield 46, 3) else none)) else
    (bif Nat.blt pc 29 then (bif Nat.beq pc 28 then some (.iload_n 1, 1) else none) else
     (bif Nat.beq pc 29 then some (.invokevirtual 183, 3) else none))))) else
 (bif Nat.blt pc 46 then (bif Nat.blt pc 38 then (bif Nat.blt pc 34 then (bif Nat.blt pc 33 then (bif Nat.beq pc 32 then some (.istore_n 3, 1) else none) else
     (bif Nat.beq pc 33 then some (.iload_n 2, 1) else none)) else
    (bif Nat.blt pc 35 then (bif Nat.beq pc 34 then some (.aload_n 0, 1) else none) else
     (bif Nat.beq pc 35 then some (.getfield 53, 3) else none))) else
   (bif Nat.blt pc 42 then (bif Nat.blt pc 39 then (bif Nat.beq pc 38 then some (.iload_n 3, 1) else none) else
     (bif Nat.beq pc 39 then some (.invokevirtual 367, 3) else none)) else
    (bif Nat.blt pc 45 then (bif Nat.beq pc 42 then some (.invokevirtual 364, 3) else none) else
     (bif Nat.beq pc 45 then some (.aload_n 0, 1) else none)))) else
  (bif Nat.blt pc 56 then (bif Nat.blt pc 50 then (bif Nat.blt pc 49 then (bif Nat.beq pc 46 then some (.getfield 53, 3) else none) else
     (bif Nat.beq pc 49 then some (.iload_n 3, 1) else none)) else
    (bif Nat.blt pc 53 then (bif Nat.beq pc 50 then some (.invokevirtual 369, 3) else none) else
     (bif Nat.beq pc 53 then some (.invokevirtual 364, 3) else none))) else
   (bif Nat.blt pc 58 then (bif Nat.blt pc 57 then (bif Nat.beq pc 56 then some (.iadd, 1) else none) else
     (bif Nat.beq pc 57 then some (.iadd, 1) else none)) else
    (bif Nat.blt pc 59 then (bif Nat.beq pc 58 then some (.istore_n 2, 1) else none) else
     (bif Nat.blt pc 60 then (bif Nat.beq pc 59 then some (.iload_n 2, 1) else none) else
      (bif Nat.beq pc 60 then some (.ireturn, 1) else none))))))) else none
set_option maxRecDepth 10000 in
noncomputable def zc_167 (pc : Nat) : Option (Instr × Nat) :=
 bif Nat.blt pc 47 then (bif Nat.blt pc 24 then (bif Nat.blt pc 10 then (bif Nat.blt pc 5 then (bif Nat.blt pc 1 then (bif Nat.beq pc 0 then some (.aload_n 0, 1) else none) else
    (bif Nat.blt pc 2 then (bif Nat.beq pc 1 then some (.iload_n 1, 1) else none) else
     (bif Nat.beq pc 2 then some (.invokevirtual 193, 3) else none))) else
   (bif Nat.blt pc 6 then (bif Nat.beq pc 5 then some (.iload_n 2, 1) else none) else
    (bif Nat.blt pc 9 then (bif Nat.beq pc 6 then some (.ifCond .ne 19, 3) else none) else
     (bif Nat.beq pc 9 then some (.aload_n 0, 1) else none)))) else
  (bif Nat.blt pc 17 then (bif Nat.blt pc 13 then (bif Nat.beq pc 10 then some (.getfield 60, 3) else none) else
    (bif Nat.blt pc 14 then (bif Nat.beq pc 13 then some (.aload_n 0, 1) else none) else
     (bif Nat.beq pc 14 then some (.getfield 46, 3) else none))) else
   (bif Nat.blt pc 18 then (bif Nat.beq pc 17 then some (.iload_n 1, 1) else none) else
    (bif Nat.blt pc 21 then (bif Nat.beq pc 18 then some (.invokevirtual 196, 3) else none) else
     (bif Nat.beq pc 21 then some (.invokevirtual 199, 3) else none))))) else
 (bif Nat.blt pc 34 then (bif Nat.blt pc 27 then (bif Nat.blt pc 25 then (bif Nat.beq pc 24 then some (.lreturn, 1) else none) else
    (bif Nat.blt pc 26 then (bif Nat.beq pc 25 then some (.iload_n 2, 1) else none) else
     (bif Nat.beq pc 26 then some (.iconst 1, 1) else none))) else
   (bif Nat.blt pc 30 then (bif Nat.beq pc 27 then some (.if_icmp .ne 12, 3) else none) else
    (bif Nat.blt pc 31 then (bif Nat.beq pc 30 then some (.aload_n 0, 1) else none) else
     (bif Nat.beq pc 31 then some (.getfield 60, 3) else none)))) else
  (bif Nat.blt pc 39 then (bif Nat.blt pc 35 then (bif Nat.beq pc 34 then some (.iload_n 1, 1) else none) else
    (bif Nat.blt pc 38 then (bif Nat.beq pc 35 then some (.invokevirtual 203, 3) else none) else
     (bif Nat.beq pc 38 then some (.lreturn, 1) else none))) else
   (bif Nat.blt pc 43 then (bif Nat.blt pc 42 then (bif Nat.beq pc 39 then some (.new 153, 3) else none) else
     (bif Nat.beq pc 42 then some (.dup, 1) else none)) else
    (bif Nat.blt pc 46 then (bif Nat.beq pc 43 then some (.invokespecial 155, 3) else none) else
     (bif Nat.beq pc 46 then some (.athrow, 1) else none)))))) else none
set_option maxRecDepth 10000 in
noncomputable def zc_168 (pc : Nat) : Option (Instr × Nat) :=
 bif Nat.blt pc 24 then (bif Nat.blt pc 12 then (bif Nat.blt pc 5 then (bif Nat.blt pc 1 then (bif Nat.beq pc 0 then some (.iload_n 1, 1) else none) else
   (bif Nat.blt pc 4 then (bif Nat.beq pc 1 then some (.ifCond .lt 14, 3) else none) else
    (bif Nat.beq pc 4 then some (.iload_n 1, 1) else none))) else
  (bif Nat.blt pc 6 then (bif Nat.beq pc 5 then some (.aload_n 0, 1) else none) else
   (bif Nat.blt pc 9 then (bif Nat.beq pc 6 then some (.getfield 46, 3) else none) else
    (bif Nat.beq pc 9 then some (.getfield 136, 3) else none)))) else
 (bif Nat.blt pc 19 then (bif Nat.blt pc 15 then (bif Nat.beq pc 12 then some (.if_icmp .lt 11, 3) else none) else
   (bif Nat.blt pc 18 then (bif Nat.beq pc 15 then some (.new 380, 3) else none) else
    (bif Nat.beq pc 18 then some (.dup, 1) else none))) else
  (bif Nat.blt pc 22 then (bif Nat.beq pc 19 then some (.invokespecial 382, 3) else none) else
   (bif Nat.blt pc 23 then (bif Nat.beq pc 22 then some (.athrow, 1) else none) else
    (bif Nat.beq pc 23 then some (.return_, 1) else none))))) else none
set_option maxRecDepth 10000 in
noncomputable def zc_169 (pc : Nat) : Option (Instr × Nat) :=
 bif Nat.blt pc 20 then (bif Nat.blt pc 10 then (bif Nat.blt pc 5 then (bif Nat.blt pc 1 then (bif Nat.beq pc 0 then some (.aload_n 0, 1) else none) else
   (bif Nat.blt pc 2 then (bif Nat.beq pc 1 then some (.iload_n 1, 1) else none) else
    (bif Nat.beq pc 2 then some (.invokevirtual 193, 3) else none))) else
  (bif Nat.blt pc 6 then (bif Nat.beq pc 5 then some (.aload_n 0, 1) else none) else
   (bif Nat.blt pc 7 then (bif Nat.beq pc 6 then some (.iload_n 2, 1) else none) else
    (bif Nat.beq pc 7 then some (.invokevirtual 206, 3) else none)))) else
 (bif Nat.blt pc 15 then (bif Nat.blt pc 11 then (bif Nat.beq pc 10 then some (.aload_n 0, 1) else none) else
   (bif Nat.blt pc 14 then (bif Nat.beq pc 11 then some (.getfield 60, 3) else none) else
    (bif Nat.beq pc 14 then some (.iload_n 1, 1) else none))) else
  (bif Nat.blt pc 16 then (bif Nat.beq pc 15 then some (.iload_n 2, 1) else none) else
   (bif Nat.blt pc 19 then (bif Nat.beq pc 16 then some (.invokevirtual 209, 3) else none) else
    (bif Nat.beq pc 19 then some (.ireturn, 1) else none))))) else none
set_option maxRecDepth 10000 in
noncomputable def zc_170 (pc : Nat) : Option (Instr × Nat) :=
 bif Nat.blt pc 19 then (bif Nat.blt pc 10 then (bif Nat.blt pc 4 then (bif Nat.blt pc 1 then (bif Nat.beq pc 0 then some (.iload_n 1, 1) else none) else
   (bif Nat.beq pc 1 then some (.ifCond .lt 9, 3) else none)) else
  (bif Nat.blt pc 5 then (bif Nat.beq pc 4 then some (.iload_n 1, 1) else none) else
   (bif Nat.blt pc 7 then (bif Nat.beq pc 5 then some (.bipush 64, 2) else none) else
    (bif Nat.beq pc 7 then some (.if_icmp .lt 11, 3) else none)))) else
 (bif Nat.blt pc 14 then (bif Nat.blt pc 13 then (bif Nat.beq pc 10 then some (.new 153, 3) else none) else
   (bif Nat.beq pc 13 then some (.dup, 1) else none)) else
  (bif Nat.blt pc 17 then (bif Nat.beq pc 14 then some (.invokespecial 155, 3) else none) else
   (bif Nat.blt pc 18 then (bif Nat.beq pc 17 then some (.athrow, 1) else none) else
    (bif Nat.beq pc 18 then some (.return_, 1) else none))))) else none
set_option maxRecDepth 10000 in
noncomputable def zc_171 (pc : Nat) : Option (Instr × Nat) :=
 bif Nat.blt pc 14 then (bif Nat.blt pc 6 then (bif Nat.blt pc 2 then (bif Nat.blt pc 1 then (bif Nat.beq pc 0 then some (.aload_n 0, 1) else none) else
   (bif Nat.beq pc 1 then some (.iload_n 1, 1) else none)) else
  (bif Nat.blt pc 5 then (bif Nat.beq pc 2 then some (.invokevirtual 156, 3) else none) else
   (bif Nat.beq pc 5 then some (.aload_n 0, 1) else none))) else
 (bif Nat.blt pc 10 then (bif Nat.blt pc 9 then (bif Nat.beq pc 6 then some (.getfield 78, 3) else none) else
   (bif Nat.beq pc 9 then some (.iload_n 1, 1) else none)) else
  (bif Nat.blt pc 13 then (bif Nat.beq pc 10 then some (.invokevirtual 213, 3) else none) else
   (bif Nat.beq pc 13 then some (.lreturn, 1) else none)))) else none
set_option maxRecDepth 10000 in
noncomputable def zc_172 (pc : Nat) : Option (Instr × Nat) :=
 bif Nat.blt pc 105 then (bif Nat.blt pc 64 then (bif Nat.blt pc 46 then (bif Nat.blt pc 36 then (bif Nat.blt pc 2 then (bif Nat.blt pc 1 then (bif Nat.beq pc 0 then some (.aload_n 0, 1) else none) else
     (bif Nat.beq pc 1 then some (.iload_n 1, 1) else none)) else
    (bif Nat.blt pc 5 then (bif Nat.beq pc 2 then some (.invokevirtual 219, 3) else none) else
     (bif Nat.blt pc 6 then (bif Nat.beq pc 5 then some (.iload_n 2, 1) else none) else
      (bif Nat.beq pc 6 then some (.tableswitch 91 0 3 #[30, 46, 67, 79], 30) else none)))) else
   (bif Nat.blt pc 41 then (bif Nat.blt pc 37 then (bif Nat.beq pc 36 then some (.iload_n 1, 1) else none) else
     (bif Nat.blt pc 40 then (bif Nat.beq pc 37 then some (.ifCond .ne 7, 3) else none) else
      (bif Nat.beq pc 40 then some (.iconst 0, 1) else none))) else
    (bif Nat.blt pc 44 then (bif Nat.beq pc 41 then some (.goto 10, 3) else none) else
     (bif Nat.blt pc 45 then (bif Nat.beq pc 44 then some (.iconst 1, 1) else none) else
      (bif Nat.beq pc 45 then some (.iload_n 1, 1) else none))))) else
  (bif Nat.blt pc 52 then (bif Nat.blt pc 49 then (bif Nat.blt pc 47 then (bif Nat.beq pc 46 then some (.iconst 1, 1) else none) else
     (bif Nat.blt pc 48 then (bif Nat.beq pc 47 then some (.isub, 1) else none) else
      (bif Nat.beq pc 48 then some (.iconst 3, 1) else none))) else
    (bif Nat.blt pc 50 then (bif Nat.beq pc 49 then some (.irem, 1) else none) else
     (bif Nat.blt pc 51 then (bif Nat.beq pc 50 then some (.iadd, 1) else none) else
      (bif Nat.beq pc 51 then some (.ireturn, 1) else none)))) else
   (bif Nat.blt pc 57 then (bif Nat.blt pc 53 then (bif Nat.beq pc 52 then some (.iload_n 1, 1) else none) else
     (bif Nat.blt pc 56 then (bif Nat.beq pc 53 then some (.ifCond .ne 7, 3) else none) else
      (bif Nat.beq pc 56 then some (.iconst (-1), 1) else none))) else
    (bif Nat.blt pc 60 then (bif Nat.beq pc 57 then some (.goto 15, 3) else none) else
     (bif Nat.blt pc 61 then (bif Nat.beq pc 60 then some (.aload_n 0, 1) else none) else
      (bif Nat.beq pc 61 then some (.getfield 46, 3) else none)))))) else
 (bif Nat.blt pc 81 then (bif Nat.blt pc 69 then (bif Nat.blt pc 66 then (bif Nat.blt pc 65 then (bif Nat.beq pc 64 then some (.iload_n 1, 1) else none) else
     (bif Nat.beq pc 65 then some (.iconst 1, 1) else none)) else
    (bif Nat.blt pc 67 then (bif Nat.beq pc 66 then some (.isub, 1) else none) else
     (bif Nat.blt pc 68 then (bif Nat.beq pc 67 then some (.iconst 3, 1) else none) else
      (bif Nat.beq pc 68 then some (.idiv, 1) else none)))) else
   (bif Nat.blt pc 74 then (bif Nat.blt pc 72 then (bif Nat.beq pc 69 then some (.invokevirtual 196, 3) else none) else
     (bif Nat.blt pc 73 then (bif Nat.beq pc 72 then some (.ireturn, 1) else none) else
      (bif Nat.beq pc 73 then some (.aload_n 0, 1) else none))) else
    (bif Nat.blt pc 77 then (bif Nat.beq pc 74 then some (.getfield 78, 3) else none) else
     (bif Nat.blt pc 78 then (bif Nat.beq pc 77 then some (.iload_n 1, 1) else none) else
      (bif Nat.beq pc 78 then some (.invokevirtual 222, 3) else none))))) else
  (bif Nat.blt pc 93 then (bif Nat.blt pc 86 then (bif Nat.blt pc 84 then (bif Nat.beq pc 81 then some (.invokestatic 225, 3) else none) else
     (bif Nat.blt pc 85 then (bif Nat.beq pc 84 then some (.ireturn, 1) else none) else
      (bif Nat.beq pc 85 then some (.aload_n 0, 1) else none))) else
    (bif Nat.blt pc 89 then (bif Nat.beq pc 86 then some (.getfield 78, 3) else none) else
     (bif Nat.blt pc 90 then (bif Nat.beq pc 89 then some (.iload_n 1, 1) else none) else
      (bif Nat.beq pc 90 then some (.invokevirtual 222, 3) else none)))) else
   (bif Nat.blt pc 100 then (bif Nat.blt pc 96 then (bif Nat.beq pc 93 then some (.invokestatic 231, 3) else none) else
     (bif Nat.blt pc 97 then (bif Nat.beq pc 96 then some (.ireturn, 1) else none) else
      (bif Nat.beq pc 97 then some (.new 153, 3) else none))) else
    (bif Nat.blt pc 101 then (bif Nat.beq pc 100 then some (.dup, 1) else none) else
     (bif Nat.blt pc 104 then (bif Nat.beq pc 101 then some (.invokespecial 155, 3) else none) else
      (bif Nat.beq pc 104 then some (.athrow, 1) else none))))))) else none
set_option maxRecDepth 10000 in
noncomputable def zc_173 (pc : Nat) : Option (Instr × Nat) :=
 bif Nat.blt pc 24 then (bif Nat.blt pc 12 then (bif Nat.blt pc 5 then (bif Nat.blt pc 1 then (bif Nat.beq pc 0 then some (.iload_n 1, 1) else none) else
   (bif Nat.blt pc 4 then (bif Nat.beq pc 1 then some (.ifCond .lt 14, 3) else none) else
    (bif Nat.beq pc 4 then some (.iload_n 1, 1) else none))) else
  (bif Nat.blt pc 6 then (bif Nat.beq pc 5 then some (.aload_n 0, 1) else none) else
   (bif Nat.blt pc 9 then (bif Nat.beq pc 6 then some (.getfield 78, 3) else none) else
    (bif Nat.beq pc 9 then some (.invokevirtual 146, 3) else none)))) else
 (bif Nat.blt pc 19 then (bif Nat.blt pc 15 then (bif Nat.beq pc 12 then some (.if_icmp .lt 11, 3) else none) else
   (bif Nat.blt pc 18 then (bif Nat.beq pc 15 then some (.new 380, 3) else none) else
    (bif Nat.beq pc 18 then some (.dup, 1) else none))) else
  (bif Nat.blt pc 22 then (bif Nat.beq pc 19 then some (.invokespecial 382, 3) else none) else
   (bif Nat.blt pc 23 then (bif Nat.beq pc 22 then some (.athrow, 1) else none) else
    (bif Nat.beq pc 23 then some (.return_, 1) else none))))) else none
set_option maxRecDepth 10000 in
noncomputable def zc_174 (pc : Nat) : Option (Instr × Nat) :=
 bif Nat.blt pc 14 then (bif Nat.blt pc 6 then (bif Nat.blt pc 2 then (bif Nat.blt pc 1 then (bif Nat.beq pc 0 then some (.aload_n 0, 1) else none) else
   (bif Nat.beq pc 1 then some (.iload_n 1, 1) else none)) else
  (bif Nat.blt pc 5 then (bif Nat.beq pc 2 then some (.invokevirtual 219, 3) else none) else
   (bif Nat.beq pc 5 then some (.aload_n 0, 1) else none))) else
 (bif Nat.blt pc 10 then (bif Nat.blt pc 9 then (bif Nat.beq pc 6 then some (.getfield 78, 3) else none) else
   (bif Nat.beq pc 9 then some (.iload_n 1, 1) else none)) else
  (bif Nat.blt pc 13 then (bif Nat.beq pc 10 then some (.invokevirtual 222, 3) else none) else
   (bif Nat.beq pc 13 then some (.lreturn, 1) else none)))) else none
set_option maxRecDepth 10000 in
noncomputable def zc_175 (pc : Nat) : Option (Instr × Nat) :=
 bif Nat.blt pc 21 then (bif Nat.blt pc 9 then (bif Nat.blt pc 2 then (bif Nat.blt pc 1 then (bif Nat.beq pc 0 then some (.aload_n 0, 1) else none) else
   (bif Nat.beq pc 1 then some (.iload_n 1, 1) else none)) else
  (bif Nat.blt pc 5 then (bif Nat.beq pc 2 then some (.invokevirtual 206, 3) else none) else
   (bif Nat.blt pc 6 then (bif Nat.beq pc 5 then some (.aload_n 0, 1) else none) else
    (bif Nat.beq pc 6 then some (.getfield 69, 3) else none)))) else
 (bif Nat.blt pc 16 then (bif Nat.blt pc 10 then (bif Nat.beq pc 9 then some (.aload_n 0, 1) else none) else
   (bif Nat.blt pc 13 then (bif Nat.beq pc 10 then some (.getfield 46, 3) else none) else
    (bif Nat.beq pc 13 then some (.invokevirtual 216, 3) else none))) else
  (bif Nat.blt pc 17 then (bif Nat.beq pc 16 then some (.iload_n 1, 1) else none) else
   (bif Nat.blt pc 20 then (bif Nat.beq pc 17 then some (.invokevirtual 234, 3) else none) else
    (bif Nat.beq pc 20 then some (.ireturn, 1) else none))))) else none
set_option maxRecDepth 10000 in
noncomputable def zc_176 (pc : Nat) : Option (Instr × Nat) :=
 bif Nat.blt pc 14 then (bif Nat.blt pc 6 then (bif Nat.blt pc 2 then (bif Nat.blt pc 1 then (bif Nat.beq pc 0 then some (.aload_n 0, 1) else none) else
   (bif Nat.beq pc 1 then some (.iload_n 1, 1) else none)) else
  (bif Nat.blt pc 5 then (bif Nat.beq pc 2 then some (.invokevirtual 206, 3) else none) else
   (bif Nat.beq pc 5 then some (.aload_n 0, 1) else none))) else
 (bif Nat.blt pc 10 then (bif Nat.blt pc 9 then (bif Nat.beq pc 6 then some (.getfield 69, 3) else none) else
   (bif Nat.beq pc 9 then some (.iload_n 1, 1) else none)) else
  (bif Nat.blt pc 13 then (bif Nat.beq pc 10 then some (.invokevirtual 237, 3) else none) else
   (bif Nat.beq pc 13 then some (.ireturn, 1) else none)))) else none
set_option maxRecDepth 10000 in
noncomputable def zc_177 (pc : Nat) : Option (Instr × Nat) :=
 bif Nat.blt pc 14 then (bif Nat.blt pc 6 then (bif Nat.blt pc 2 then (bif Nat.blt pc 1 then (bif Nat.beq pc 0 then some (.aload_n 0, 1) else none) else
   (bif Nat.beq pc 1 then some (.iload_n 1, 1) else none)) else
  (bif Nat.blt pc 5 then (bif Nat.beq pc 2 then some (.invokevirtual 206, 3) else none) else
   (bif Nat.beq pc 5 then some (.aload_n 0, 1) else none))) else
 (bif Nat.blt pc 10 then (bif Nat.blt pc 9 then (bif Nat.beq pc 6 then some (.getfield 69, 3) else none) else
   (bif Nat.beq pc 9 then some (.iload_n 1, 1) else none)) else
  (bif Nat.blt pc 13 then (bif Nat.beq pc 10 then some (.invokevirtual 240, 3) else none) else
   (bif Nat.beq pc 13 then some (.freturn, 1) else none)))) else none
set_option maxRecDepth 10000 in
noncomputable def zc_178 (pc : Nat) : Option (Instr × Nat) :=
 bif Nat.blt pc 17 then (bif Nat.blt pc 6 then (bif Nat.blt pc 2 then (bif Nat.blt pc 1 then (bif Nat.beq pc 0 then some (.aload_n 0, 1) else none) else
   (bif Nat.beq pc 1 then some (.iload_n 1, 1) else none)) else
  (bif Nat.blt pc 5 then (bif Nat.beq pc 2 then some (.invokevirtual 206, 3) else none) else
   (bif Nat.beq pc 5 then some (.aload_n 0, 1) else none))) else
 (bif Nat.blt pc 10 then (bif Nat.blt pc 9 then (bif Nat.beq pc 6 then some (.getfield 69, 3) else none) else
   (bif Nat.beq pc 9 then some (.iload_n 1, 1) else none)) else
  (bif Nat.blt pc 13 then (bif Nat.beq pc 10 then some (.invokevirtual 240, 3) else none) else
   (bif Nat.blt pc 16 then (bif Nat.beq pc 13 then some (.invokestatic 244, 3) else none) else
    (bif Nat.beq pc 16 then some (.ireturn, 1) else none))))) else none
set_option maxRecDepth 10000 in
noncomputable def zc_179 (pc : Nat) : Option (Instr × Nat) :=
 bif Nat.blt pc 14 then (bif Nat.blt pc 6 then (bif Nat.blt pc 2 then (bif Nat.blt pc 1 then (bif Nat.beq pc 0 then some (.aload_n 0, 1) else none) else
   (bif Nat.beq pc 1 then some (.iload_n 1, 1) else none)) else
  (bif Nat.blt pc 5 then (bif Nat.beq pc 2 then some (.invokevirtual 156, 3) else none) else
   (bif Nat.beq pc 5 then some (.aload_n 0, 1) else none))) else
 (bif Nat.blt pc 10 then (bif Nat.blt pc 9 then (bif Nat.beq pc 6 then some (.getfield 69, 3) else none) else
   (bif Nat.beq pc 9 then some (.iload_n 1, 1) else none)) else
  (bif Nat.blt pc 13 then (bif Nat.beq pc 10 then some (.invokevirtual 248, 3) else none) else
   (bif Nat.beq pc 13 then some (.lreturn, 1) else none)))) else none
set_option maxRecDepth 10000 in
noncomputable def zc_180 (pc : Nat) : Option (Instr × Nat) :=
 bif Nat.blt pc 8 then (bif Nat.blt pc 5 then (bif Nat.blt pc 1 then (bif Nat.beq pc 0 then some (.aload_n 0, 1) else none) else
  (bif Nat.blt pc 2 then (bif Nat.beq pc 1 then some (.aload_n 1, 1) else none) else
   (bif Nat.beq pc 2 then some (.invokespecial 29, 3) else none))) else
 (bif Nat.blt pc 6 then (bif Nat.beq pc 5 then some (.pop, 1) else none) else
  (bif Nat.blt pc 7 then (bif Nat.beq pc 6 then some (.aload_n 0, 1) else none) else
   (bif Nat.beq pc 7 then some (.areturn, 1) else none)))) else none
set_option maxRecDepth 10000 in
noncomputable def zc_181 (pc : Nat) : Option (Instr × Nat) :=
 bif Nat.blt pc 12 then (bif Nat.blt pc 6 then (bif Nat.blt pc 2 then (bif Nat.blt pc 1 then (bif Nat.beq pc 0 then some (.aload_n 0, 1) else none) else
   (bif Nat.beq pc 1 then some (.iload_n 1, 1) else none)) else
  (bif Nat.blt pc 5 then (bif Nat.beq pc 2 then some (.invokevirtual 269, 3) else none) else
   (bif Nat.beq pc 5 then some (.aload_n 0, 1) else none))) else
 (bif Nat.blt pc 8 then (bif Nat.blt pc 7 then (bif Nat.beq pc 6 then some (.iload_n 1, 1) else none) else
   (bif Nat.beq pc 7 then some (.iconst 1, 1) else none)) else
  (bif Nat.blt pc 11 then (bif Nat.beq pc 8 then some (.invokevirtual 272, 3) else none) else
   (bif Nat.beq pc 11 then some (.ireturn, 1) else none)))) else none
set_option maxRecDepth 10000 in
noncomputable def zc_182 (pc : Nat) : Option (Instr × Nat) :=
 bif Nat.blt pc 24 then (bif Nat.blt pc 12 then (bif Nat.blt pc 5 then (bif Nat.blt pc 1 then (bif Nat.beq pc 0 then some (.iload_n 1, 1) else none) else
   (bif Nat.blt pc 4 then (bif Nat.beq pc 1 then some (.ifCond .lt 14, 3) else none) else
    (bif Nat.beq pc 4 then some (.iload_n 1, 1) else none))) else
  (bif Nat.blt pc 6 then (bif Nat.beq pc 5 then some (.aload_n 0, 1) else none) else
   (bif Nat.blt pc 9 then (bif Nat.beq pc 6 then some (.getfield 46, 3) else none) else
    (bif Nat.beq pc 9 then some (.getfield 139, 3) else none)))) else
 (bif Nat.blt pc 19 then (bif Nat.blt pc 15 then (bif Nat.beq pc 12 then some (.if_icmp .lt 11, 3) else none) else
   (bif Nat.blt pc 18 then (bif Nat.beq pc 15 then some (.new 380, 3) else none) else
    (bif Nat.beq pc 18 then some (.dup, 1) else none))) else
  (bif Nat.blt pc 22 then (bif Nat.beq pc 19 then some (.invokespecial 382, 3) else none) else
   (bif Nat.blt pc 23 then (bif Nat.beq pc 22 then some (.athrow, 1) else none) else
    (bif Nat.beq pc 23 then some (.return_, 1) else none))))) else none
set_option maxRecDepth 10000 in
noncomputable def zc_183 (pc : Nat) : Option (Instr × Nat) :=
 bif Nat.blt pc 119 then (bif Nat.blt pc 57 then (bif Nat.blt pc 25 then (bif Nat.blt pc 12 then (bif Nat.blt pc 5 then (bif Nat.blt pc 1 then (bif Nat.beq pc 0 then some (.aload_n 0, 1) else none) else
     (bif Nat.blt pc 4 then (bif Nat.beq pc 1 then some (.getfield 53, 3) else none) else
      (bif Nat.beq pc 4 then some (.iload_n 1, 1) else none))) else
    (bif Nat.blt pc 9 then (bif Nat.blt pc 8 then (bif Nat.beq pc 5 then some (.invokevirtual 371, 3) else none) else
      (bif Nat.beq pc 8 then some (.istore_n 3, 1) else none)) else
     (bif Nat.blt pc 10 then (bif Nat.beq pc 9 then some (.iconst (-1), 1) else none) else
      (bif Nat.beq pc 10 then some (.istore 4, 2) else none)))) else
   (bif Nat.blt pc 17 then (bif Nat.blt pc 13 then (bif Nat.beq pc 12 then some (.iconst 0, 1) else none) else
     (bif Nat.blt pc 15 then (bif Nat.beq pc 13 then some (.istore 5, 2) else none) else
      (bif Nat.beq pc 15 then some (.iload 5, 2) else none))) else
    (bif Nat.blt pc 22 then (bif Nat.blt pc 19 then (bif Nat.beq pc 17 then some (.bipush 39, 2) else none) else
      (bif Nat.beq pc 19 then some (.if_icmp .ge 73, 3) else none)) else
     (bif Nat.blt pc 24 then (bif Nat.beq pc 22 then some (.iload 4, 2) else none) else
      (bif Nat.beq pc 24 then some (.iconst (-1), 1) else none))))) else
  (bif Nat.blt pc 39 then (bif Nat.blt pc 32 then (bif Nat.blt pc 28 then (bif Nat.beq pc 25 then some (.if_icmp .ne 67, 3) else none) else
     (bif Nat.blt pc 29 then (bif Nat.beq pc 28 then some (.aload_n 0, 1) else none) else
      (bif Nat.beq pc 29 then some (.getfield 53, 3) else none))) else
    (bif Nat.blt pc 35 then (bif Nat.blt pc 33 then (bif Nat.beq pc 32 then some (.iload_n 1, 1) else none) else
      (bif Nat.beq pc 33 then some (.iload 5, 2) else none)) else
     (bif Nat.blt pc 38 then (bif Nat.beq pc 35 then some (.invokevirtual 328, 3) else none) else
      (bif Nat.beq pc 38 then some (.aload_n 0, 1) else none)))) else
   (bif Nat.blt pc 47 then (bif Nat.blt pc 43 then (bif Nat.blt pc 42 then (bif Nat.beq pc 39 then some (.getfield 78, 3) else none) else
      (bif Nat.beq pc 42 then some (.aload_n 0, 1) else none)) else
     (bif Nat.blt pc 46 then (bif Nat.beq pc 43 then some (.getfield 46, 3) else none) else
      (bif Nat.beq pc 46 then some (.aload_n 0, 1) else none))) else
    (bif Nat.blt pc 53 then (bif Nat.blt pc 50 then (bif Nat.beq pc 47 then some (.getfield 53, 3) else none) else
      (bif Nat.beq pc 50 then some (.invokevirtual 112, 3) else none)) else
     (bif Nat.blt pc 54 then (bif Nat.beq pc 53 then some (.iload_n 2, 1) else none) else
      (bif Nat.beq pc 54 then some (.ifCond .eq 16, 3) else none)))))) else
 (bif Nat.blt pc 89 then (bif Nat.blt pc 74 then (bif Nat.blt pc 64 then (bif Nat.blt pc 58 then (bif Nat.beq pc 57 then some (.aload_n 0, 1) else none) else
     (bif Nat.blt pc 61 then (bif Nat.beq pc 58 then some (.getfield 78, 3) else none) else
      (bif Nat.beq pc 61 then some (.invokevirtual 149, 3) else none))) else
    (bif Nat.blt pc 70 then (bif Nat.blt pc 67 then (bif Nat.beq pc 64 then some (.ifCond .ne 22, 3) else none) else
      (bif Nat.beq pc 67 then some (.goto 15, 3) else none)) else
     (bif Nat.blt pc 71 then (bif Nat.beq pc 70 then some (.aload_n 0, 1) else none) else
      (bif Nat.beq pc 71 then some (.getfield 69, 3) else none)))) else
   (bif Nat.blt pc 79 then (bif Nat.blt pc 77 then (bif Nat.beq pc 74 then some (.invokevirtual 254, 3) else none) else
     (bif Nat.blt pc 78 then (bif Nat.beq pc 77 then some (.lconst 0, 1) else none) else
      (bif Nat.beq pc 78 then some (.lcmp, 1) else none))) else
    (bif Nat.blt pc 84 then (bif Nat.blt pc 82 then (bif Nat.beq pc 79 then some (.ifCond .ne 7, 3) else none) else
      (bif Nat.beq pc 82 then some (.iload 5, 2) else none)) else
     (bif Nat.blt pc 86 then (bif Nat.beq pc 84 then some (.istore 4, 2) else none) else
      (bif Nat.beq pc 86 then some (.iinc 5 1, 3) else none))))) else
  (bif Nat.blt pc 102 then (bif Nat.blt pc 96 then (bif Nat.blt pc 92 then (bif Nat.beq pc 89 then some (.goto (-74), 3) else none) else
     (bif Nat.blt pc 93 then (bif Nat.beq pc 92 then some (.aload_n 0, 1) else none) else
      (bif Nat.beq pc 93 then some (.getfield 53, 3) else none))) else
    (bif Nat.blt pc 98 then (bif Nat.blt pc 97 then (bif Nat.beq pc 96 then some (.iload_n 1, 1) else none) else
      (bif Nat.beq pc 97 then some (.iload_n 3, 1) else none)) else
     (bif Nat.blt pc 101 then (bif Nat.beq pc 98 then some (.invokevirtual 328, 3) else none) else
      (bif Nat.beq pc 101 then some (.aload_n 0, 1) else none)))) else
   (bif Nat.blt pc 110 then (bif Nat.blt pc 106 then (bif Nat.blt pc 105 then (bif Nat.beq pc 102 then some (.getfield 78, 3) else none) else
      (bif Nat.beq pc 105 then some (.aload_n 0, 1) else none)) else
     (bif Nat.blt pc 109 then (bif Nat.beq pc 106 then some (.getfield 46, 3) else none) else
      (bif Nat.beq pc 109 then some (.aload_n 0, 1) else none))) else
    (bif Nat.blt pc 116 then (bif Nat.blt pc 113 then (bif Nat.beq pc 110 then some (.getfield 53, 3) else none) else
      (bif Nat.beq pc 113 then some (.invokevirtual 112, 3) else none)) else
     (bif Nat.blt pc 118 then (bif Nat.beq pc 116 then some (.iload 4, 2) else none) else
      (bif Nat.beq pc 118 then some (.ireturn, 1) else none))))))) else none
set_option maxRecDepth 10000 in
noncomputable def zc_184 (pc : Nat) : Option (Instr × Nat) :=
 bif Nat.blt pc 12 then (bif Nat.blt pc 6 then (bif Nat.blt pc 2 then (bif Nat.blt pc 1 then (bif Nat.beq pc 0 then some (.aload_n 0, 1) else none) else
   (bif Nat.beq pc 1 then some (.iload_n 1, 1) else none)) else
  (bif Nat.blt pc 5 then (bif Nat.beq pc 2 then some (.invokevirtual 269, 3) else none) else
   (bif Nat.beq pc 5 then some (.aload_n 0, 1) else none))) else
 (bif Nat.blt pc 8 then (bif Nat.blt pc 7 then (bif Nat.beq pc 6 then some (.iload_n 1, 1) else none) else
   (bif Nat.beq pc 7 then some (.iconst 0, 1) else none)) else
  (bif Nat.blt pc 11 then (bif Nat.beq pc 8 then some (.invokevirtual 272, 3) else none) else
   (bif Nat.beq pc 11 then some (.ireturn, 1) else none)))) else none
set_option maxRecDepth 10000 in
noncomputable def zc_185 (pc : Nat) : Option (Instr × Nat) :=
 bif Nat.blt pc 14 then (bif Nat.blt pc 6 then (bif Nat.blt pc 2 then (bif Nat.blt pc 1 then (bif Nat.beq pc 0 then some (.aload_n 0, 1) else none) else
   (bif Nat.beq pc 1 then some (.iload_n 1, 1) else none)) else
  (bif Nat.blt pc 5 then (bif Nat.beq pc 2 then some (.invokevirtual 193, 3) else none) else
   (bif Nat.beq pc 5 then some (.aload_n 0, 1) else none))) else
 (bif Nat.blt pc 10 then (bif Nat.blt pc 9 then (bif Nat.beq pc 6 then some (.getfield 78, 3) else none) else
   (bif Nat.beq pc 9 then some (.iload_n 1, 1) else none)) else
  (bif Nat.blt pc 13 then (bif Nat.beq pc 10 then some (.invokevirtual 276, 3) else none) else
   (bif Nat.beq pc 13 then some (.lreturn, 1) else none)))) else none
set_option maxRecDepth 10000 in
noncomputable def zc_186 (pc : Nat) : Option (Instr × Nat) :=
 bif Nat.blt pc 27 then (bif Nat.blt pc 13 then (bif Nat.blt pc 5 then (bif Nat.blt pc 1 then (bif Nat.beq pc 0 then some (.aload_n 0, 1) else none) else
   (bif Nat.blt pc 2 then (bif Nat.beq pc 1 then some (.iload_n 1, 1) else none) else
    (bif Nat.beq pc 2 then some (.invokevirtual 193, 3) else none))) else
  (bif Nat.blt pc 9 then (bif Nat.blt pc 6 then (bif Nat.beq pc 5 then some (.aload_n 0, 1) else none) else
    (bif Nat.beq pc 6 then some (.getfield 60, 3) else none)) else
   (bif Nat.blt pc 10 then (bif Nat.beq pc 9 then some (.iload_n 1, 1) else none) else
    (bif Nat.beq pc 10 then some (.invokevirtual 203, 3) else none)))) else
 (bif Nat.blt pc 21 then (bif Nat.blt pc 17 then (bif Nat.blt pc 14 then (bif Nat.beq pc 13 then some (.aload_n 0, 1) else none) else
    (bif Nat.beq pc 14 then some (.getfield 78, 3) else none)) else
   (bif Nat.blt pc 18 then (bif Nat.beq pc 17 then some (.iload_n 1, 1) else none) else
    (bif Nat.beq pc 18 then some (.invokevirtual 276, 3) else none))) else
  (bif Nat.blt pc 25 then (bif Nat.blt pc 24 then (bif Nat.beq pc 21 then some (.ldc2_w 279, 3) else none) else
    (bif Nat.beq pc 24 then some (.lxor, 1) else none)) else
   (bif Nat.blt pc 26 then (bif Nat.beq pc 25 then some (.land, 1) else none) else
    (bif Nat.beq pc 26 then some (.lreturn, 1) else none))))) else none
set_option maxRecDepth 10000 in
noncomputable def zc_187 (pc : Nat) : Option (Instr × Nat) :=
 bif Nat.blt pc 54 then (bif Nat.blt pc 29 then (bif Nat.blt pc 13 then (bif Nat.blt pc 5 then (bif Nat.blt pc 1 then (bif Nat.beq pc 0 then some (.aload_n 0, 1) else none) else
    (bif Nat.blt pc 2 then (bif Nat.beq pc 1 then some (.iload_n 1, 1) else none) else
     (bif Nat.beq pc 2 then some (.invokevirtual 156, 3) else none))) else
   (bif Nat.blt pc 9 then (bif Nat.blt pc 6 then (bif Nat.beq pc 5 then some (.aload_n 0, 1) else none) else
     (bif Nat.beq pc 6 then some (.getfield 85, 3) else none)) else
    (bif Nat.blt pc 10 then (bif Nat.beq pc 9 then some (.aload_n 0, 1) else none) else
     (bif Nat.beq pc 10 then some (.getfield 46, 3) else none)))) else
  (bif Nat.blt pc 21 then (bif Nat.blt pc 17 then (bif Nat.blt pc 14 then (bif Nat.beq pc 13 then some (.aload_n 0, 1) else none) else
     (bif Nat.beq pc 14 then some (.getfield 53, 3) else none)) else
    (bif Nat.blt pc 20 then (bif Nat.beq pc 17 then some (.invokevirtual 281, 3) else none) else
     (bif Nat.beq pc 20 then some (.aload_n 0, 1) else none))) else
   (bif Nat.blt pc 25 then (bif Nat.blt pc 24 then (bif Nat.beq pc 21 then some (.getfield 85, 3) else none) else
     (bif Nat.beq pc 24 then some (.iload_n 1, 1) else none)) else
    (bif Nat.blt pc 28 then (bif Nat.beq pc 25 then some (.invokevirtual 284, 3) else none) else
     (bif Nat.beq pc 28 then some (.istore_n 2, 1) else none))))) else
 (bif Nat.blt pc 38 then (bif Nat.blt pc 34 then (bif Nat.blt pc 30 then (bif Nat.beq pc 29 then some (.iload_n 2, 1) else none) else
    (bif Nat.blt pc 31 then (bif Nat.beq pc 30 then some (.iconst (-1), 1) else none) else
     (bif Nat.beq pc 31 then some (.if_icmp .ne 5, 3) else none))) else
   (bif Nat.blt pc 36 then (bif Nat.blt pc 35 then (bif Nat.beq pc 34 then some (.iconst (-1), 1) else none) else
     (bif Nat.beq pc 35 then some (.ireturn, 1) else none)) else
    (bif Nat.blt pc 37 then (bif Nat.beq pc 36 then some (.aload_n 0, 1) else none) else
     (bif Nat.beq pc 37 then some (.aload_n 0, 1) else none)))) else
  (bif Nat.blt pc 46 then (bif Nat.blt pc 42 then (bif Nat.blt pc 41 then (bif Nat.beq pc 38 then some (.getfield 85, 3) else none) else
     (bif Nat.beq pc 41 then some (.iload_n 1, 1) else none)) else
    (bif Nat.blt pc 45 then (bif Nat.beq pc 42 then some (.invokevirtual 287, 3) else none) else
     (bif Nat.beq pc 45 then some (.iload_n 2, 1) else none))) else
   (bif Nat.blt pc 50 then (bif Nat.blt pc 49 then (bif Nat.beq pc 46 then some (.invokevirtual 291, 3) else none) else
     (bif Nat.beq pc 49 then some (.aload_n 0, 1) else none)) else
    (bif Nat.blt pc 53 then (bif Nat.beq pc 50 then some (.getfield 294, 3) else none) else
     (bif Nat.beq pc 53 then some (.ireturn, 1) else none)))))) else none
set_option maxRecDepth 10000 in
noncomputable def zc_188 (pc : Nat) : Option (Instr × Nat) :=
 bif Nat.blt pc 68 then (bif Nat.blt pc 30 then (bif Nat.blt pc 13 then (bif Nat.blt pc 6 then (bif Nat.blt pc 2 then (bif Nat.blt pc 1 then (bif Nat.beq pc 0 then some (.aload_n 0, 1) else none) else
     (bif Nat.beq pc 1 then some (.iconst 0, 1) else none)) else
    (bif Nat.blt pc 5 then (bif Nat.beq pc 2 then some (.putfield 294, 3) else none) else
     (bif Nat.beq pc 5 then some (.iconst 0, 1) else none))) else
   (bif Nat.blt pc 8 then (bif Nat.blt pc 7 then (bif Nat.beq pc 6 then some (.istore_n 3, 1) else none) else
     (bif Nat.beq pc 7 then some (.iload_n 3, 1) else none)) else
    (bif Nat.blt pc 9 then (bif Nat.beq pc 8 then some (.iload_n 2, 1) else none) else
     (bif Nat.blt pc 12 then (bif Nat.beq pc 9 then some (.if_icmp .ge 58, 3) else none) else
      (bif Nat.beq pc 12 then some (.iload_n 3, 1) else none))))) else
  (bif Nat.blt pc 19 then (bif Nat.blt pc 15 then (bif Nat.blt pc 14 then (bif Nat.beq pc 13 then some (.aload_n 1, 1) else none) else
     (bif Nat.beq pc 14 then some (.arraylength, 1) else none)) else
    (bif Nat.blt pc 18 then (bif Nat.beq pc 15 then some (.if_icmp .ge 52, 3) else none) else
     (bif Nat.beq pc 18 then some (.iload_n 3, 1) else none))) else
   (bif Nat.blt pc 23 then (bif Nat.blt pc 22 then (bif Nat.beq pc 19 then some (.ifCond .le 21, 3) else none) else
     (bif Nat.beq pc 22 then some (.aload_n 0, 1) else none)) else
    (bif Nat.blt pc 26 then (bif Nat.beq pc 23 then some (.ldc_w 374, 3) else none) else
     (bif Nat.blt pc 27 then (bif Nat.beq pc 26 then some (.aload_n 0, 1) else none) else
      (bif Nat.beq pc 27 then some (.getfield 13, 3) else none)))))) else
 (bif Nat.blt pc 47 then (bif Nat.blt pc 40 then (bif Nat.blt pc 34 then (bif Nat.blt pc 31 then (bif Nat.beq pc 30 then some (.aload_n 0, 1) else none) else
     (bif Nat.beq pc 31 then some (.getfield 294, 3) else none)) else
    (bif Nat.blt pc 37 then (bif Nat.beq pc 34 then some (.invokestatic 91, 3) else none) else
     (bif Nat.beq pc 37 then some (.putfield 294, 3) else none))) else
   (bif Nat.blt pc 42 then (bif Nat.blt pc 41 then (bif Nat.beq pc 40 then some (.aload_n 0, 1) else none) else
     (bif Nat.beq pc 41 then some (.aload_n 1, 1) else none)) else
    (bif Nat.blt pc 43 then (bif Nat.beq pc 42 then some (.iload_n 3, 1) else none) else
     (bif Nat.blt pc 44 then (bif Nat.beq pc 43 then some (.baload, 1) else none) else
      (bif Nat.beq pc 44 then some (.invokestatic 376, 3) else none))))) else
  (bif Nat.blt pc 55 then (bif Nat.blt pc 51 then (bif Nat.blt pc 48 then (bif Nat.beq pc 47 then some (.aload_n 0, 1) else none) else
     (bif Nat.beq pc 48 then some (.getfield 13, 3) else none)) else
    (bif Nat.blt pc 52 then (bif Nat.beq pc 51 then some (.aload_n 0, 1) else none) else
     (bif Nat.beq pc 52 then some (.getfield 294, 3) else none))) else
   (bif Nat.blt pc 61 then (bif Nat.blt pc 58 then (bif Nat.beq pc 55 then some (.invokestatic 91, 3) else none) else
     (bif Nat.beq pc 58 then some (.putfield 294, 3) else none)) else
    (bif Nat.blt pc 64 then (bif Nat.beq pc 61 then some (.iinc 3 1, 3) else none) else
     (bif Nat.blt pc 67 then (bif Nat.beq pc 64 then some (.goto (-57), 3) else none) else
      (bif Nat.beq pc 67 then some (.return_, 1) else none))))))) else none
set_option maxRecDepth 10000 in
noncomputable def zc_189 (pc : Nat) : Option (Instr × Nat) :=
 bif Nat.blt pc 8 then (bif Nat.blt pc 5 then (bif Nat.blt pc 1 then (bif Nat.beq pc 0 then some (.aload_n 0, 1) else none) else
  (bif Nat.blt pc 2 then (bif Nat.beq pc 1 then some (.iload_n 1, 1) else none) else
   (bif Nat.beq pc 2 then some (.invokespecial 50, 3) else none))) else
 (bif Nat.blt pc 6 then (bif Nat.beq pc 5 then some (.pop, 1) else none) else
  (bif Nat.blt pc 7 then (bif Nat.beq pc 6 then some (.aload_n 0, 1) else none) else
   (bif Nat.beq pc 7 then some (.areturn, 1) else none)))) else none
set_option maxRecDepth 10000 in
noncomputable def zc_190 (pc : Nat) : Option (Instr × Nat) :=
 bif Nat.blt pc 29 then (bif Nat.blt pc 13 then (bif Nat.blt pc 5 then (bif Nat.blt pc 1 then (bif Nat.beq pc 0 then some (.aload_n 0, 1) else none) else
   (bif Nat.blt pc 2 then (bif Nat.beq pc 1 then some (.iload_n 1, 1) else none) else
    (bif Nat.beq pc 2 then some (.invokevirtual 156, 3) else none))) else
  (bif Nat.blt pc 9 then (bif Nat.blt pc 6 then (bif Nat.beq pc 5 then some (.aload_n 0, 1) else none) else
    (bif Nat.beq pc 6 then some (.getfield 85, 3) else none)) else
   (bif Nat.blt pc 10 then (bif Nat.beq pc 9 then some (.aload_n 0, 1) else none) else
    (bif Nat.beq pc 10 then some (.getfield 46, 3) else none)))) else
 (bif Nat.blt pc 21 then (bif Nat.blt pc 17 then (bif Nat.blt pc 14 then (bif Nat.beq pc 13 then some (.aload_n 0, 1) else none) else
    (bif Nat.beq pc 14 then some (.getfield 53, 3) else none)) else
   (bif Nat.blt pc 20 then (bif Nat.beq pc 17 then some (.invokevirtual 281, 3) else none) else
    (bif Nat.beq pc 20 then some (.aload_n 0, 1) else none))) else
  (bif Nat.blt pc 25 then (bif Nat.blt pc 24 then (bif Nat.beq pc 21 then some (.getfield 85, 3) else none) else
    (bif Nat.beq pc 24 then some (.iload_n 1, 1) else none)) else
   (bif Nat.blt pc 28 then (bif Nat.beq pc 25 then some (.invokevirtual 284, 3) else none) else
    (bif Nat.beq pc 28 then some (.ireturn, 1) else none))))) else none
set_option maxRecDepth 10000 in
noncomputable def zc_191 (pc : Nat) : Option (Instr × Nat) :=
 bif Nat.blt pc 72 then (bif Nat.blt pc 35 then (bif Nat.blt pc 17 then (bif Nat.blt pc 6 then (bif Nat.blt pc 2 then (bif Nat.blt pc 1 then (bif Nat.beq pc 0 then some (.aload_n 0, 1) else none) else
     (bif Nat.beq pc 1 then some (.iload_n 1, 1) else none)) else
    (bif Nat.blt pc 5 then (bif Nat.beq pc 2 then some (.invokevirtual 156, 3) else none) else
     (bif Nat.beq pc 5 then some (.aload_n 0, 1) else none))) else
   (bif Nat.blt pc 10 then (bif Nat.blt pc 9 then (bif Nat.beq pc 6 then some (.getfield 85, 3) else none) else
     (bif Nat.beq pc 9 then some (.aload_n 0, 1) else none)) else
    (bif Nat.blt pc 13 then (bif Nat.beq pc 10 then some (.getfield 46, 3) else none) else
     (bif Nat.blt pc 14 then (bif Nat.beq pc 13 then some (.aload_n 0, 1) else none) else
      (bif Nat.beq pc 14 then some (.getfield 53, 3) else none))))) else
  (bif Nat.blt pc 28 then (bif Nat.blt pc 21 then (bif Nat.blt pc 20 then (bif Nat.beq pc 17 then some (.invokevirtual 281, 3) else none) else
     (bif Nat.beq pc 20 then some (.aload_n 0, 1) else none)) else
    (bif Nat.blt pc 24 then (bif Nat.beq pc 21 then some (.getfield 85, 3) else none) else
     (bif Nat.blt pc 25 then (bif Nat.beq pc 24 then some (.iload_n 1, 1) else none) else
      (bif Nat.beq pc 25 then some (.invokevirtual 284, 3) else none)))) else
   (bif Nat.blt pc 30 then (bif Nat.blt pc 29 then (bif Nat.beq pc 28 then some (.istore_n 2, 1) else none) else
     (bif Nat.beq pc 29 then some (.iload_n 2, 1) else none)) else
    (bif Nat.blt pc 31 then (bif Nat.beq pc 30 then some (.iconst (-1), 1) else none) else
     (bif Nat.blt pc 34 then (bif Nat.beq pc 31 then some (.if_icmp .ne 5, 3) else none) else
      (bif Nat.beq pc 34 then some (.iconst 0, 1) else none)))))) else
 (bif Nat.blt pc 52 then (bif Nat.blt pc 41 then (bif Nat.blt pc 37 then (bif Nat.blt pc 36 then (bif Nat.beq pc 35 then some (.ireturn, 1) else none) else
     (bif Nat.beq pc 36 then some (.aload_n 0, 1) else none)) else
    (bif Nat.blt pc 40 then (bif Nat.beq pc 37 then some (.getfield 60, 3) else none) else
     (bif Nat.beq pc 40 then some (.aload_n 0, 1) else none))) else
   (bif Nat.blt pc 45 then (bif Nat.blt pc 44 then (bif Nat.beq pc 41 then some (.getfield 85, 3) else none) else
     (bif Nat.beq pc 44 then some (.iload_n 1, 1) else none)) else
    (bif Nat.blt pc 48 then (bif Nat.beq pc 45 then some (.invokevirtual 287, 3) else none) else
     (bif Nat.blt pc 49 then (bif Nat.beq pc 48 then some (.iload_n 2, 1) else none) else
      (bif Nat.beq pc 49 then some (.invokevirtual 300, 3) else none))))) else
  (bif Nat.blt pc 63 then (bif Nat.blt pc 56 then (bif Nat.blt pc 53 then (bif Nat.beq pc 52 then some (.aload_n 0, 1) else none) else
     (bif Nat.beq pc 53 then some (.getfield 60, 3) else none)) else
    (bif Nat.blt pc 59 then (bif Nat.beq pc 56 then some (.invokevirtual 303, 3) else none) else
     (bif Nat.blt pc 60 then (bif Nat.beq pc 59 then some (.aload_n 0, 1) else none) else
      (bif Nat.beq pc 60 then some (.getfield 78, 3) else none)))) else
   (bif Nat.blt pc 67 then (bif Nat.blt pc 64 then (bif Nat.beq pc 63 then some (.iload_n 1, 1) else none) else
     (bif Nat.beq pc 64 then some (.invokevirtual 213, 3) else none)) else
    (bif Nat.blt pc 68 then (bif Nat.beq pc 67 then some (.lxor, 1) else none) else
     (bif Nat.blt pc 71 then (bif Nat.beq pc 68 then some (.invokestatic 225, 3) else none) else
      (bif Nat.beq pc 71 then some (.ireturn, 1) else none))))))) else none
set_option maxRecDepth 10000 in
noncomputable def zc_192 (pc : Nat) : Option (Instr × Nat) :=
 bif Nat.blt pc 57 then (bif Nat.blt pc 24 then (bif Nat.blt pc 11 then (bif Nat.blt pc 5 then (bif Nat.blt pc 1 then (bif Nat.beq pc 0 then some (.aload_n 0, 1) else none) else
    (bif Nat.blt pc 2 then (bif Nat.beq pc 1 then some (.iload_n 1, 1) else none) else
     (bif Nat.beq pc 2 then some (.invokevirtual 121, 3) else none))) else
   (bif Nat.blt pc 7 then (bif Nat.blt pc 6 then (bif Nat.beq pc 5 then some (.aload_n 0, 1) else none) else
     (bif Nat.beq pc 6 then some (.iload_n 1, 1) else none)) else
    (bif Nat.blt pc 8 then (bif Nat.beq pc 7 then some (.iconst 1, 1) else none) else
     (bif Nat.beq pc 8 then some (.invokevirtual 306, 3) else none)))) else
  (bif Nat.blt pc 16 then (bif Nat.blt pc 12 then (bif Nat.beq pc 11 then some (.astore_n 2, 1) else none) else
    (bif Nat.blt pc 13 then (bif Nat.beq pc 12 then some (.aload_n 0, 1) else none) else
     (bif Nat.beq pc 13 then some (.getfield 39, 3) else none))) else
   (bif Nat.blt pc 20 then (bif Nat.blt pc 17 then (bif Nat.beq pc 16 then some (.aload_n 0, 1) else none) else
     (bif Nat.beq pc 17 then some (.getfield 53, 3) else none)) else
    (bif Nat.blt pc 23 then (bif Nat.beq pc 20 then some (.invokevirtual 310, 3) else none) else
     (bif Nat.beq pc 23 then some (.aload_n 0, 1) else none))))) else
 (bif Nat.blt pc 39 then (bif Nat.blt pc 31 then (bif Nat.blt pc 27 then (bif Nat.beq pc 24 then some (.getfield 53, 3) else none) else
    (bif Nat.blt pc 28 then (bif Nat.beq pc 27 then some (.aload_n 2, 1) else none) else
     (bif Nat.beq pc 28 then some (.putfield 314, 3) else none))) else
   (bif Nat.blt pc 35 then (bif Nat.blt pc 32 then (bif Nat.beq pc 31 then some (.aload_n 0, 1) else none) else
     (bif Nat.beq pc 32 then some (.getfield 78, 3) else none)) else
    (bif Nat.blt pc 36 then (bif Nat.beq pc 35 then some (.aload_n 0, 1) else none) else
     (bif Nat.beq pc 36 then some (.getfield 46, 3) else none)))) else
  (bif Nat.blt pc 47 then (bif Nat.blt pc 43 then (bif Nat.blt pc 40 then (bif Nat.beq pc 39 then some (.aload_n 0, 1) else none) else
     (bif Nat.beq pc 40 then some (.getfield 53, 3) else none)) else
    (bif Nat.blt pc 46 then (bif Nat.beq pc 43 then some (.invokevirtual 112, 3) else none) else
     (bif Nat.beq pc 46 then some (.aload_n 0, 1) else none))) else
   (bif Nat.blt pc 53 then (bif Nat.blt pc 50 then (bif Nat.beq pc 47 then some (.getfield 60, 3) else none) else
     (bif Nat.beq pc 50 then some (.getfield 186, 3) else none)) else
    (bif Nat.blt pc 56 then (bif Nat.beq pc 53 then some (.invokestatic 225, 3) else none) else
     (bif Nat.beq pc 56 then some (.ireturn, 1) else none)))))) else none
set_option maxRecDepth 10000 in
noncomputable def zc_193 (pc : Nat) : Option (Instr × Nat) :=
 bif Nat.blt pc 23 then (bif Nat.blt pc 12 then (bif Nat.blt pc 5 then (bif Nat.blt pc 1 then (bif Nat.beq pc 0 then some (.aload_n 0, 1) else none) else
   (bif Nat.blt pc 4 then (bif Nat.beq pc 1 then some (.getfield 30, 3) else none) else
    (bif Nat.beq pc 4 then some (.iload_n 1, 1) else none))) else
  (bif Nat.blt pc 8 then (bif Nat.beq pc 5 then some (.invokevirtual 101, 3) else none) else
   (bif Nat.blt pc 9 then (bif Nat.beq pc 8 then some (.aload_n 0, 1) else none) else
    (bif Nat.beq pc 9 then some (.getfield 30, 3) else none)))) else
 (bif Nat.blt pc 17 then (bif Nat.blt pc 13 then (bif Nat.beq pc 12 then some (.iload_n 2, 1) else none) else
   (bif Nat.blt pc 16 then (bif Nat.beq pc 13 then some (.invokevirtual 355, 3) else none) else
    (bif Nat.beq pc 16 then some (.astore_n 3, 1) else none))) else
  (bif Nat.blt pc 21 then (bif Nat.blt pc 18 then (bif Nat.beq pc 17 then some (.aload_n 0, 1) else none) else
    (bif Nat.beq pc 18 then some (.invokevirtual 124, 3) else none)) else
   (bif Nat.blt pc 22 then (bif Nat.beq pc 21 then some (.aload_n 3, 1) else none) else
    (bif Nat.beq pc 22 then some (.areturn, 1) else none))))) else none
set_option maxRecDepth 10000 in
noncomputable def zc_194 (pc : Nat) : Option (Instr × Nat) :=
 bif Nat.blt pc 57 then (bif Nat.blt pc 24 then (bif Nat.blt pc 11 then (bif Nat.blt pc 5 then (bif Nat.blt pc 1 then (bif Nat.beq pc 0 then some (.aload_n 0, 1) else none) else
    (bif Nat.blt pc 2 then (bif Nat.beq pc 1 then some (.iload_n 1, 1) else none) else
     (bif Nat.beq pc 2 then some (.invokevirtual 121, 3) else none))) else
   (bif Nat.blt pc 7 then (bif Nat.blt pc 6 then (bif Nat.beq pc 5 then some (.aload_n 0, 1) else none) else
     (bif Nat.beq pc 6 then some (.iload_n 1, 1) else none)) else
    (bif Nat.blt pc 8 then (bif Nat.beq pc 7 then some (.iconst 1, 1) else none) else
     (bif Nat.beq pc 8 then some (.invokevirtual 306, 3) else none)))) else
  (bif Nat.blt pc 16 then (bif Nat.blt pc 12 then (bif Nat.beq pc 11 then some (.astore_n 2, 1) else none) else
    (bif Nat.blt pc 13 then (bif Nat.beq pc 12 then some (.aload_n 0, 1) else none) else
     (bif Nat.beq pc 13 then some (.getfield 39, 3) else none))) else
   (bif Nat.blt pc 20 then (bif Nat.blt pc 17 then (bif Nat.beq pc 16 then some (.aload_n 0, 1) else none) else
     (bif Nat.beq pc 17 then some (.getfield 53, 3) else none)) else
    (bif Nat.blt pc 23 then (bif Nat.beq pc 20 then some (.invokevirtual 310, 3) else none) else
     (bif Nat.beq pc 23 then some (.aload_n 0, 1) else none))))) else
 (bif Nat.blt pc 39 then (bif Nat.blt pc 31 then (bif Nat.blt pc 27 then (bif Nat.beq pc 24 then some (.getfield 53, 3) else none) else
    (bif Nat.blt pc 28 then (bif Nat.beq pc 27 then some (.aload_n 2, 1) else none) else
     (bif Nat.beq pc 28 then some (.putfield 316, 3) else none))) else
   (bif Nat.blt pc 35 then (bif Nat.blt pc 32 then (bif Nat.beq pc 31 then some (.aload_n 0, 1) else none) else
     (bif Nat.beq pc 32 then some (.getfield 78, 3) else none)) else
    (bif Nat.blt pc 36 then (bif Nat.beq pc 35 then some (.aload_n 0, 1) else none) else
     (bif Nat.beq pc 36 then some (.getfield 46, 3) else none)))) else
  (bif Nat.blt pc 47 then (bif Nat.blt pc 43 then (bif Nat.blt pc 40 then (bif Nat.beq pc 39 then some (.aload_n 0, 1) else none) else
     (bif Nat.beq pc 40 then some (.getfield 53, 3) else none)) else
    (bif Nat.blt pc 46 then (bif Nat.beq pc 43 then some (.invokevirtual 112, 3) else none) else
     (bif Nat.beq pc 46 then some (.aload_n 0, 1) else none))) else
   (bif Nat.blt pc 53 then (bif Nat.blt pc 50 then (bif Nat.beq pc 47 then some (.getfield 60, 3) else none) else
     (bif Nat.beq pc 50 then some (.getfield 190, 3) else none)) else
    (bif Nat.blt pc 56 then (bif Nat.beq pc 53 then some (.invokestatic 225, 3) else none) else
     (bif Nat.beq pc 56 then some (.ireturn, 1) else none)))))) else none
set_option maxRecDepth 10000 in
noncomputable def zc_195 (pc : Nat) : Option (Instr × Nat) :=
 bif Nat.blt pc 64 then (bif Nat.blt pc 29 then (bif Nat.blt pc 12 then (bif Nat.blt pc 6 then (bif Nat.blt pc 2 then (bif Nat.blt pc 1 then (bif Nat.beq pc 0 then some (.aload_n 0, 1) else none) else
     (bif Nat.beq pc 1 then some (.iload_n 1, 1) else none)) else
    (bif Nat.blt pc 5 then (bif Nat.beq pc 2 then some (.invokevirtual 193, 3) else none) else
     (bif Nat.beq pc 5 then some (.aload_n 0, 1) else none))) else
   (bif Nat.blt pc 10 then (bif Nat.blt pc 7 then (bif Nat.beq pc 6 then some (.iload_n 2, 1) else none) else
     (bif Nat.beq pc 7 then some (.invokevirtual 121, 3) else none)) else
    (bif Nat.blt pc 11 then (bif Nat.beq pc 10 then some (.aload_n 0, 1) else none) else
     (bif Nat.beq pc 11 then some (.iload_n 2, 1) else none)))) else
  (bif Nat.blt pc 18 then (bif Nat.blt pc 16 then (bif Nat.blt pc 13 then (bif Nat.beq pc 12 then some (.iconst 1, 1) else none) else
     (bif Nat.beq pc 13 then some (.invokevirtual 306, 3) else none)) else
    (bif Nat.blt pc 17 then (bif Nat.beq pc 16 then some (.astore_n 3, 1) else none) else
     (bif Nat.beq pc 17 then some (.aload_n 0, 1) else none))) else
   (bif Nat.blt pc 22 then (bif Nat.blt pc 21 then (bif Nat.beq pc 18 then some (.getfield 39, 3) else none) else
     (bif Nat.beq pc 21 then some (.aload_n 0, 1) else none)) else
    (bif Nat.blt pc 25 then (bif Nat.beq pc 22 then some (.getfield 53, 3) else none) else
     (bif Nat.blt pc 28 then (bif Nat.beq pc 25 then some (.invokevirtual 310, 3) else none) else
      (bif Nat.beq pc 28 then some (.aload_n 0, 1) else none)))))) else
 (bif Nat.blt pc 45 then (bif Nat.blt pc 37 then (bif Nat.blt pc 33 then (bif Nat.blt pc 32 then (bif Nat.beq pc 29 then some (.getfield 53, 3) else none) else
     (bif Nat.beq pc 32 then some (.iload_n 1, 1) else none)) else
    (bif Nat.blt pc 34 then (bif Nat.beq pc 33 then some (.aload_n 3, 1) else none) else
     (bif Nat.beq pc 34 then some (.invokevirtual 318, 3) else none))) else
   (bif Nat.blt pc 41 then (bif Nat.blt pc 38 then (bif Nat.beq pc 37 then some (.aload_n 0, 1) else none) else
     (bif Nat.beq pc 38 then some (.getfield 78, 3) else none)) else
    (bif Nat.blt pc 42 then (bif Nat.beq pc 41 then some (.aload_n 0, 1) else none) else
     (bif Nat.beq pc 42 then some (.getfield 46, 3) else none)))) else
  (bif Nat.blt pc 53 then (bif Nat.blt pc 49 then (bif Nat.blt pc 46 then (bif Nat.beq pc 45 then some (.aload_n 0, 1) else none) else
     (bif Nat.beq pc 46 then some (.getfield 53, 3) else none)) else
    (bif Nat.blt pc 52 then (bif Nat.beq pc 49 then some (.invokevirtual 112, 3) else none) else
     (bif Nat.beq pc 52 then some (.aload_n 0, 1) else none))) else
   (bif Nat.blt pc 57 then (bif Nat.blt pc 56 then (bif Nat.beq pc 53 then some (.getfield 60, 3) else none) else
     (bif Nat.beq pc 56 then some (.iload_n 1, 1) else none)) else
    (bif Nat.blt pc 60 then (bif Nat.beq pc 57 then some (.invokevirtual 203, 3) else none) else
     (bif Nat.blt pc 63 then (bif Nat.beq pc 60 then some (.invokestatic 225, 3) else none) else
      (bif Nat.beq pc 63 then some (.ireturn, 1) else none))))))) else none
set_option maxRecDepth 10000 in
noncomputable def zc_196 (pc : Nat) : Option (Instr × Nat) :=
 bif Nat.blt pc 61 then (bif Nat.blt pc 28 then (bif Nat.blt pc 12 then (bif Nat.blt pc 6 then (bif Nat.blt pc 2 then (bif Nat.blt pc 1 then (bif Nat.beq pc 0 then some (.aload_n 0, 1) else none) else
     (bif Nat.beq pc 1 then some (.iload_n 1, 1) else none)) else
    (bif Nat.blt pc 5 then (bif Nat.beq pc 2 then some (.invokevirtual 193, 3) else none) else
     (bif Nat.beq pc 5 then some (.aload_n 0, 1) else none))) else
   (bif Nat.blt pc 10 then (bif Nat.blt pc 7 then (bif Nat.beq pc 6 then some (.iload_n 2, 1) else none) else
     (bif Nat.beq pc 7 then some (.invokevirtual 121, 3) else none)) else
    (bif Nat.blt pc 11 then (bif Nat.beq pc 10 then some (.aload_n 0, 1) else none) else
     (bif Nat.beq pc 11 then some (.iload_n 2, 1) else none)))) else
  (bif Nat.blt pc 18 then (bif Nat.blt pc 16 then (bif Nat.blt pc 13 then (bif Nat.beq pc 12 then some (.iconst 0, 1) else none) else
     (bif Nat.beq pc 13 then some (.invokevirtual 306, 3) else none)) else
    (bif Nat.blt pc 17 then (bif Nat.beq pc 16 then some (.astore_n 3, 1) else none) else
     (bif Nat.beq pc 17 then some (.aload_n 0, 1) else none))) else
   (bif Nat.blt pc 22 then (bif Nat.blt pc 21 then (bif Nat.beq pc 18 then some (.getfield 39, 3) else none) else
     (bif Nat.beq pc 21 then some (.aload_n 0, 1) else none)) else
    (bif Nat.blt pc 25 then (bif Nat.beq pc 22 then some (.getfield 53, 3) else none) else
     (bif Nat.beq pc 25 then some (.invokevirtual 310, 3) else none))))) else
 (bif Nat.blt pc 42 then (bif Nat.blt pc 34 then (bif Nat.blt pc 32 then (bif Nat.blt pc 29 then (bif Nat.beq pc 28 then some (.aload_n 0, 1) else none) else
     (bif Nat.beq pc 29 then some (.getfield 53, 3) else none)) else
    (bif Nat.blt pc 33 then (bif Nat.beq pc 32 then some (.iload_n 1, 1) else none) else
     (bif Nat.beq pc 33 then some (.aload_n 3, 1) else none))) else
   (bif Nat.blt pc 38 then (bif Nat.blt pc 37 then (bif Nat.beq pc 34 then some (.invokevirtual 322, 3) else none) else
     (bif Nat.beq pc 37 then some (.aload_n 0, 1) else none)) else
    (bif Nat.blt pc 41 then (bif Nat.beq pc 38 then some (.getfield 78, 3) else none) else
     (bif Nat.beq pc 41 then some (.aload_n 0, 1) else none)))) else
  (bif Nat.blt pc 52 then (bif Nat.blt pc 46 then (bif Nat.blt pc 45 then (bif Nat.beq pc 42 then some (.getfield 46, 3) else none) else
     (bif Nat.beq pc 45 then some (.aload_n 0, 1) else none)) else
    (bif Nat.blt pc 49 then (bif Nat.beq pc 46 then some (.getfield 53, 3) else none) else
     (bif Nat.beq pc 49 then some (.invokevirtual 112, 3) else none))) else
   (bif Nat.blt pc 56 then (bif Nat.blt pc 53 then (bif Nat.beq pc 52 then some (.aload_n 0, 1) else none) else
     (bif Nat.beq pc 53 then some (.getfield 60, 3) else none)) else
    (bif Nat.blt pc 57 then (bif Nat.beq pc 56 then some (.iload_n 1, 1) else none) else
     (bif Nat.blt pc 60 then (bif Nat.beq pc 57 then some (.invokevirtual 325, 3) else none) else
      (bif Nat.beq pc 60 then some (.ireturn, 1) else none))))))) else none
set_option maxRecDepth 10000 in
noncomputable def zc_197 (pc : Nat) : Option (Instr × Nat) :=
 bif Nat.blt pc 67 then (bif Nat.blt pc 32 then (bif Nat.blt pc 13 then (bif Nat.blt pc 6 then (bif Nat.blt pc 2 then (bif Nat.blt pc 1 then (bif Nat.beq pc 0 then some (.aload_n 0, 1) else none) else
     (bif Nat.beq pc 1 then some (.iload_n 1, 1) else none)) else
    (bif Nat.blt pc 5 then (bif Nat.beq pc 2 then some (.invokevirtual 269, 3) else none) else
     (bif Nat.beq pc 5 then some (.iload_n 2, 1) else none))) else
   (bif Nat.blt pc 10 then (bif Nat.blt pc 7 then (bif Nat.beq pc 6 then some (.iconst (-1), 1) else none) else
     (bif Nat.beq pc 7 then some (.if_icmp .lt 9, 3) else none)) else
    (bif Nat.blt pc 11 then (bif Nat.beq pc 10 then some (.iload_n 2, 1) else none) else
     (bif Nat.beq pc 11 then some (.bipush 39, 2) else none)))) else
  (bif Nat.blt pc 23 then (bif Nat.blt pc 19 then (bif Nat.blt pc 16 then (bif Nat.beq pc 13 then some (.if_icmp .lt 11, 3) else none) else
     (bif Nat.beq pc 16 then some (.new 153, 3) else none)) else
    (bif Nat.blt pc 20 then (bif Nat.beq pc 19 then some (.dup, 1) else none) else
     (bif Nat.beq pc 20 then some (.invokespecial 155, 3) else none))) else
   (bif Nat.blt pc 25 then (bif Nat.blt pc 24 then (bif Nat.beq pc 23 then some (.athrow, 1) else none) else
     (bif Nat.beq pc 24 then some (.aload_n 0, 1) else none)) else
    (bif Nat.blt pc 28 then (bif Nat.beq pc 25 then some (.getfield 39, 3) else none) else
     (bif Nat.blt pc 29 then (bif Nat.beq pc 28 then some (.aload_n 0, 1) else none) else
      (bif Nat.beq pc 29 then some (.getfield 53, 3) else none)))))) else
 (bif Nat.blt pc 48 then (bif Nat.blt pc 40 then (bif Nat.blt pc 36 then (bif Nat.blt pc 35 then (bif Nat.beq pc 32 then some (.invokevirtual 310, 3) else none) else
     (bif Nat.beq pc 35 then some (.aload_n 0, 1) else none)) else
    (bif Nat.blt pc 39 then (bif Nat.beq pc 36 then some (.getfield 53, 3) else none) else
     (bif Nat.beq pc 39 then some (.iload_n 1, 1) else none))) else
   (bif Nat.blt pc 44 then (bif Nat.blt pc 41 then (bif Nat.beq pc 40 then some (.iload_n 2, 1) else none) else
     (bif Nat.beq pc 41 then some (.invokevirtual 328, 3) else none)) else
    (bif Nat.blt pc 45 then (bif Nat.beq pc 44 then some (.aload_n 0, 1) else none) else
     (bif Nat.beq pc 45 then some (.getfield 78, 3) else none)))) else
  (bif Nat.blt pc 56 then (bif Nat.blt pc 52 then (bif Nat.blt pc 49 then (bif Nat.beq pc 48 then some (.aload_n 0, 1) else none) else
     (bif Nat.beq pc 49 then some (.getfield 46, 3) else none)) else
    (bif Nat.blt pc 53 then (bif Nat.beq pc 52 then some (.aload_n 0, 1) else none) else
     (bif Nat.beq pc 53 then some (.getfield 53, 3) else none))) else
   (bif Nat.blt pc 60 then (bif Nat.blt pc 59 then (bif Nat.beq pc 56 then some (.invokevirtual 112, 3) else none) else
     (bif Nat.beq pc 59 then some (.aload_n 0, 1) else none)) else
    (bif Nat.blt pc 63 then (bif Nat.beq pc 60 then some (.getfield 78, 3) else none) else
     (bif Nat.blt pc 66 then (bif Nat.beq pc 63 then some (.invokevirtual 149, 3) else none) else
      (bif Nat.beq pc 66 then some (.ireturn, 1) else none))))))) else none
set_option maxRecDepth 10000 in
noncomputable def zc_198 (pc : Nat) : Option (Instr × Nat) :=
 bif Nat.blt pc 54 then (bif Nat.blt pc 27 then (bif Nat.blt pc 12 then (bif Nat.blt pc 5 then (bif Nat.blt pc 1 then (bif Nat.beq pc 0 then some (.aload_n 0, 1) else none) else
    (bif Nat.blt pc 2 then (bif Nat.beq pc 1 then some (.iload_n 1, 1) else none) else
     (bif Nat.beq pc 2 then some (.invokevirtual 156, 3) else none))) else
   (bif Nat.blt pc 9 then (bif Nat.blt pc 6 then (bif Nat.beq pc 5 then some (.iload_n 2, 1) else none) else
     (bif Nat.beq pc 6 then some (.ifCond .lt 9, 3) else none)) else
    (bif Nat.blt pc 10 then (bif Nat.beq pc 9 then some (.iload_n 2, 1) else none) else
     (bif Nat.beq pc 10 then some (.bipush 99, 2) else none)))) else
  (bif Nat.blt pc 19 then (bif Nat.blt pc 15 then (bif Nat.beq pc 12 then some (.if_icmp .le 11, 3) else none) else
    (bif Nat.blt pc 18 then (bif Nat.beq pc 15 then some (.new 153, 3) else none) else
     (bif Nat.beq pc 18 then some (.dup, 1) else none))) else
   (bif Nat.blt pc 23 then (bif Nat.blt pc 22 then (bif Nat.beq pc 19 then some (.invokespecial 155, 3) else none) else
     (bif Nat.beq pc 22 then some (.athrow, 1) else none)) else
    (bif Nat.blt pc 24 then (bif Nat.beq pc 23 then some (.aload_n 0, 1) else none) else
     (bif Nat.beq pc 24 then some (.getfield 39, 3) else none))))) else
 (bif Nat.blt pc 42 then (bif Nat.blt pc 34 then (bif Nat.blt pc 28 then (bif Nat.beq pc 27 then some (.aload_n 0, 1) else none) else
    (bif Nat.blt pc 31 then (bif Nat.beq pc 28 then some (.getfield 53, 3) else none) else
     (bif Nat.beq pc 31 then some (.invokevirtual 310, 3) else none))) else
   (bif Nat.blt pc 38 then (bif Nat.blt pc 35 then (bif Nat.beq pc 34 then some (.aload_n 0, 1) else none) else
     (bif Nat.beq pc 35 then some (.getfield 53, 3) else none)) else
    (bif Nat.blt pc 39 then (bif Nat.beq pc 38 then some (.iload_n 1, 1) else none) else
     (bif Nat.beq pc 39 then some (.invokevirtual 177, 3) else none)))) else
  (bif Nat.blt pc 48 then (bif Nat.blt pc 44 then (bif Nat.blt pc 43 then (bif Nat.beq pc 42 then some (.istore_n 3, 1) else none) else
     (bif Nat.beq pc 43 then some (.aload_n 0, 1) else none)) else
    (bif Nat.blt pc 47 then (bif Nat.beq pc 44 then some (.getfield 53, 3) else none) else
     (bif Nat.beq pc 47 then some (.iload_n 1, 1) else none))) else
   (bif Nat.blt pc 52 then (bif Nat.blt pc 49 then (bif Nat.beq pc 48 then some (.iload_n 2, 1) else none) else
     (bif Nat.beq pc 49 then some (.invokevirtual 332, 3) else none)) else
    (bif Nat.blt pc 53 then (bif Nat.beq pc 52 then some (.iload_n 3, 1) else none) else
     (bif Nat.beq pc 53 then some (.ireturn, 1) else none)))))) else none
set_option maxRecDepth 10000 in
noncomputable def zc_199 (pc : Nat) : Option (Instr × Nat) :=
 bif Nat.blt pc 70 then (bif Nat.blt pc 35 then (bif Nat.blt pc 16 then (bif Nat.blt pc 6 then (bif Nat.blt pc 2 then (bif Nat.blt pc 1 then (bif Nat.beq pc 0 then some (.aload_n 0, 1) else none) else
     (bif Nat.beq pc 1 then some (.iload_n 1, 1) else none)) else
    (bif Nat.blt pc 5 then (bif Nat.beq pc 2 then some (.invokevirtual 335, 3) else none) else
     (bif Nat.beq pc 5 then some (.aload_n 0, 1) else none))) else
   (bif Nat.blt pc 10 then (bif Nat.blt pc 9 then (bif Nat.beq pc 6 then some (.getfield 39, 3) else none) else
     (bif Nat.beq pc 9 then some (.iload_n 1, 1) else none)) else
    (bif Nat.blt pc 13 then (bif Nat.beq pc 10 then some (.invokevirtual 338, 3) else none) else
     (bif Nat.beq pc 13 then some (.ifCond .ne 11, 3) else none)))) else
  (bif Nat.blt pc 24 then (bif Nat.blt pc 20 then (bif Nat.blt pc 19 then (bif Nat.beq pc 16 then some (.new 115, 3) else none) else
     (bif Nat.beq pc 19 then some (.dup, 1) else none)) else
    (bif Nat.blt pc 23 then (bif Nat.beq pc 20 then some (.invokespecial 117, 3) else none) else
     (bif Nat.beq pc 23 then some (.athrow, 1) else none))) else
   (bif Nat.blt pc 28 then (bif Nat.blt pc 25 then (bif Nat.beq pc 24 then some (.aload_n 0, 1) else none) else
     (bif Nat.beq pc 25 then some (.getfield 39, 3) else none)) else
    (bif Nat.blt pc 29 then (bif Nat.beq pc 28 then some (.aload_n 0, 1) else none) else
     (bif Nat.blt pc 32 then (bif Nat.beq pc 29 then some (.getfield 53, 3) else none) else
      (bif Nat.beq pc 32 then some (.invokevirtual 310, 3) else none)))))) else
 (bif Nat.blt pc 51 then (bif Nat.blt pc 41 then (bif Nat.blt pc 39 then (bif Nat.blt pc 36 then (bif Nat.beq pc 35 then some (.aload_n 0, 1) else none) else
     (bif Nat.beq pc 36 then some (.getfield 39, 3) else none)) else
    (bif Nat.blt pc 40 then (bif Nat.beq pc 39 then some (.iload_n 1, 1) else none) else
     (bif Nat.beq pc 40 then some (.aload_n 0, 1) else none))) else
   (bif Nat.blt pc 47 then (bif Nat.blt pc 44 then (bif Nat.beq pc 41 then some (.getfield 53, 3) else none) else
     (bif Nat.beq pc 44 then some (.invokevirtual 342, 3) else none)) else
    (bif Nat.blt pc 48 then (bif Nat.beq pc 47 then some (.aload_n 0, 1) else none) else
     (bif Nat.beq pc 48 then some (.getfield 78, 3) else none)))) else
  (bif Nat.blt pc 59 then (bif Nat.blt pc 55 then (bif Nat.blt pc 52 then (bif Nat.beq pc 51 then some (.aload_n 0, 1) else none) else
     (bif Nat.beq pc 52 then some (.getfield 46, 3) else none)) else
    (bif Nat.blt pc 56 then (bif Nat.beq pc 55 then some (.aload_n 0, 1) else none) else
     (bif Nat.beq pc 56 then some (.getfield 53, 3) else none))) else
   (bif Nat.blt pc 63 then (bif Nat.blt pc 62 then (bif Nat.beq pc 59 then some (.invokevirtual 112, 3) else none) else
     (bif Nat.beq pc 62 then some (.aload_n 0, 1) else none)) else
    (bif Nat.blt pc 66 then (bif Nat.beq pc 63 then some (.getfield 78, 3) else none) else
     (bif Nat.blt pc 69 then (bif Nat.beq pc 66 then some (.invokevirtual 149, 3) else none) else
      (bif Nat.beq pc 69 then some (.ireturn, 1) else none))))))) else none
set_option maxRecDepth 10000 in
noncomputable def zc_200 (pc : Nat) : Option (Instr × Nat) :=
 bif Nat.blt pc 18 then (bif Nat.blt pc 9 then (bif Nat.blt pc 4 then (bif Nat.blt pc 1 then (bif Nat.beq pc 0 then some (.iload_n 1, 1) else none) else
   (bif Nat.beq pc 1 then some (.ifCond .lt 8, 3) else none)) else
  (bif Nat.blt pc 5 then (bif Nat.beq pc 4 then some (.iload_n 1, 1) else none) else
   (bif Nat.blt pc 6 then (bif Nat.beq pc 5 then some (.iconst 2, 1) else none) else
    (bif Nat.beq pc 6 then some (.if_icmp .lt 11, 3) else none)))) else
 (bif Nat.blt pc 13 then (bif Nat.blt pc 12 then (bif Nat.beq pc 9 then some (.new 153, 3) else none) else
   (bif Nat.beq pc 12 then some (.dup, 1) else none)) else
  (bif Nat.blt pc 16 then (bif Nat.beq pc 13 then some (.invokespecial 155, 3) else none) else
   (bif Nat.blt pc 17 then (bif Nat.beq pc 16 then some (.athrow, 1) else none) else
    (bif Nat.beq pc 17 then some (.return_, 1) else none))))) else none
set_option maxRecDepth 10000 in
noncomputable def zc_201 (pc : Nat) : Option (Instr × Nat) :=
 bif Nat.blt pc 52 then (bif Nat.blt pc 26 then (bif Nat.blt pc 14 then (bif Nat.blt pc 7 then (bif Nat.blt pc 1 then (bif Nat.beq pc 0 then some (.aload_n 0, 1) else none) else
    (bif Nat.blt pc 4 then (bif Nat.beq pc 1 then some (.getfield 39, 3) else none) else
     (bif Nat.beq pc 4 then some (.getfield 152, 3) else none))) else
   (bif Nat.blt pc 10 then (bif Nat.beq pc 7 then some (.ifCond .ne 11, 3) else none) else
    (bif Nat.blt pc 13 then (bif Nat.beq pc 10 then some (.new 115, 3) else none) else
     (bif Nat.beq pc 13 then some (.dup, 1) else none)))) else
  (bif Nat.blt pc 19 then (bif Nat.blt pc 17 then (bif Nat.beq pc 14 then some (.invokespecial 117, 3) else none) else
    (bif Nat.blt pc 18 then (bif Nat.beq pc 17 then some (.athrow, 1) else none) else
     (bif Nat.beq pc 18 then some (.aload_n 0, 1) else none))) else
   (bif Nat.blt pc 22 then (bif Nat.beq pc 19 then some (.getfield 39, 3) else none) else
    (bif Nat.blt pc 23 then (bif Nat.beq pc 22 then some (.aload_n 0, 1) else none) else
     (bif Nat.beq pc 23 then some (.getfield 53, 3) else none))))) else
 (bif Nat.blt pc 38 then (bif Nat.blt pc 33 then (bif Nat.blt pc 29 then (bif Nat.beq pc 26 then some (.invokevirtual 346, 3) else none) else
    (bif Nat.blt pc 30 then (bif Nat.beq pc 29 then some (.aload_n 0, 1) else none) else
     (bif Nat.beq pc 30 then some (.getfield 78, 3) else none))) else
   (bif Nat.blt pc 34 then (bif Nat.beq pc 33 then some (.aload_n 0, 1) else none) else
    (bif Nat.blt pc 37 then (bif Nat.beq pc 34 then some (.getfield 46, 3) else none) else
     (bif Nat.beq pc 37 then some (.aload_n 0, 1) else none)))) else
  (bif Nat.blt pc 45 then (bif Nat.blt pc 41 then (bif Nat.beq pc 38 then some (.getfield 53, 3) else none) else
    (bif Nat.blt pc 44 then (bif Nat.beq pc 41 then some (.invokevirtual 112, 3) else none) else
     (bif Nat.beq pc 44 then some (.aload_n 0, 1) else none))) else
   (bif Nat.blt pc 48 then (bif Nat.beq pc 45 then some (.getfield 39, 3) else none) else
    (bif Nat.blt pc 51 then (bif Nat.beq pc 48 then some (.getfield 152, 3) else none) else
     (bif Nat.beq pc 51 then some (.ireturn, 1) else none)))))) else none
set_option maxRecDepth 10000 in
noncomputable def zc_202 (pc : Nat) : Option (Instr × Nat) :=
 bif Nat.blt pc 25 then (bif Nat.blt pc 10 then (bif Nat.blt pc 5 then (bif Nat.blt pc 1 then (bif Nat.beq pc 0 then some (.aload_n 0, 1) else none) else
   (bif Nat.blt pc 2 then (bif Nat.beq pc 1 then some (.iload_n 1, 1) else none) else
    (bif Nat.beq pc 2 then some (.invokevirtual 335, 3) else none))) else
  (bif Nat.blt pc 6 then (bif Nat.beq pc 5 then some (.aload_n 0, 1) else none) else
   (bif Nat.blt pc 9 then (bif Nat.beq pc 6 then some (.getfield 39, 3) else none) else
    (bif Nat.beq pc 9 then some (.iload_n 1, 1) else none)))) else
 (bif Nat.blt pc 17 then (bif Nat.blt pc 11 then (bif Nat.beq pc 10 then some (.aload_n 0, 1) else none) else
   (bif Nat.blt pc 14 then (bif Nat.beq pc 11 then some (.getfield 53, 3) else none) else
    (bif Nat.beq pc 14 then some (.invokevirtual 349, 3) else none))) else
  (bif Nat.blt pc 21 then (bif Nat.blt pc 18 then (bif Nat.beq pc 17 then some (.aload_n 0, 1) else none) else
    (bif Nat.beq pc 18 then some (.getfield 39, 3) else none)) else
   (bif Nat.blt pc 24 then (bif Nat.beq pc 21 then some (.invokevirtual 352, 3) else none) else
    (bif Nat.beq pc 24 then some (.ireturn, 1) else none))))) else none
set_option maxRecDepth 10000 in
noncomputable def zc_203 (pc : Nat) : Option (Instr × Nat) :=
 bif Nat.blt pc 8 then (bif Nat.blt pc 5 then (bif Nat.blt pc 1 then (bif Nat.beq pc 0 then some (.aload_n 0, 1) else none) else
  (bif Nat.blt pc 2 then (bif Nat.beq pc 1 then some (.iload_n 1, 1) else none) else
   (bif Nat.beq pc 2 then some (.invokespecial 53, 3) else none))) else
 (bif Nat.blt pc 6 then (bif Nat.beq pc 5 then some (.pop, 1) else none) else
  (bif Nat.blt pc 7 then (bif Nat.beq pc 6 then some (.aload_n 0, 1) else none) else
   (bif Nat.beq pc 7 then some (.areturn, 1) else none)))) else none
set_option maxRecDepth 10000 in
noncomputable def zc_204 (pc : Nat) : Option (Instr × Nat) :=
 bif Nat.blt pc 9 then (bif Nat.blt pc 4 then (bif Nat.blt pc 3 then (bif Nat.beq pc 0 then some (.new 18, 3) else none) else
  (bif Nat.beq pc 3 then some (.dup, 1) else none)) else
 (bif Nat.blt pc 5 then (bif Nat.beq pc 4 then some (.aload_n 0, 1) else none) else
  (bif Nat.blt pc 8 then (bif Nat.beq pc 5 then some (.invokespecial 137, 3) else none) else
   (bif Nat.beq pc 8 then some (.areturn, 1) else none)))) else none
set_option maxRecDepth 10000 in
noncomputable def zc_205 (pc : Nat) : Option (Instr × Nat) :=
 bif Nat.blt pc 5 then (bif Nat.blt pc 1 then (bif Nat.beq pc 0 then some (.aload_n 0, 1) else none) else
 (bif Nat.blt pc 4 then (bif Nat.beq pc 1 then some (.invokespecial 343, 3) else none) else
  (bif Nat.beq pc 4 then some (.ireturn, 1) else none))) else none
set_option maxRecDepth 10000 in
noncomputable def zc_206 (pc : Nat) : Option (Instr × Nat) :=
 bif Nat.blt pc 7 then (bif Nat.blt pc 3 then (bif Nat.blt pc 1 then (bif Nat.beq pc 0 then some (.aload_n 0, 1) else none) else
  (bif Nat.beq pc 1 then some (.bipush 16, 2) else none)) else
 (bif Nat.blt pc 6 then (bif Nat.beq pc 3 then some (.invokespecial 1, 3) else none) else
  (bif Nat.beq pc 6 then some (.return_, 1) else none))) else none
set_option maxRecDepth 10000 in
noncomputable def zc_207 (pc : Nat) : Option (Instr × Nat) :=
 bif Nat.blt pc 32 then (bif Nat.blt pc 16 then (bif Nat.blt pc 7 then (bif Nat.blt pc 3 then (bif Nat.blt pc 1 then (bif Nat.beq pc 0 then some (.aload_n 0, 1) else none) else
    (bif Nat.blt pc 2 then (bif Nat.beq pc 1 then some (.iconst 0, 1) else none) else
     (bif Nat.beq pc 2 then some (.aload_n 0, 1) else none))) else
   (bif Nat.blt pc 4 then (bif Nat.beq pc 3 then some (.iconst 0, 1) else none) else
    (bif Nat.blt pc 5 then (bif Nat.beq pc 4 then some (.iaload, 1) else none) else
     (bif Nat.beq pc 5 then some (.ldc 7, 2) else none)))) else
  (bif Nat.blt pc 12 then (bif Nat.blt pc 8 then (bif Nat.beq pc 7 then some (.imul, 1) else none) else
    (bif Nat.blt pc 11 then (bif Nat.beq pc 8 then some (.sipush 12345, 3) else none) else
     (bif Nat.beq pc 11 then some (.iadd, 1) else none))) else
   (bif Nat.blt pc 14 then (bif Nat.blt pc 13 then (bif Nat.beq pc 12 then some (.iastore, 1) else none) else
     (bif Nat.beq pc 13 then some (.aload_n 0, 1) else none)) else
    (bif Nat.blt pc 15 then (bif Nat.beq pc 14 then some (.iconst 0, 1) else none) else
     (bif Nat.beq pc 15 then some (.dup2, 1) else none))))) else
 (bif Nat.blt pc 24 then (bif Nat.blt pc 19 then (bif Nat.blt pc 17 then (bif Nat.beq pc 16 then some (.iaload, 1) else none) else
    (bif Nat.blt pc 18 then (bif Nat.beq pc 17 then some (.aload_n 0, 1) else none) else
     (bif Nat.beq pc 18 then some (.iconst 0, 1) else none))) else
   (bif Nat.blt pc 22 then (bif Nat.blt pc 20 then (bif Nat.beq pc 19 then some (.iaload, 1) else none) else
     (bif Nat.beq pc 20 then some (.bipush 15, 2) else none)) else
    (bif Nat.blt pc 23 then (bif Nat.beq pc 22 then some (.iushr, 1) else none) else
     (bif Nat.beq pc 23 then some (.ixor, 1) else none)))) else
  (bif Nat.blt pc 27 then (bif Nat.blt pc 25 then (bif Nat.beq pc 24 then some (.iastore, 1) else none) else
    (bif Nat.blt pc 26 then (bif Nat.beq pc 25 then some (.aload_n 0, 1) else none) else
     (bif Nat.beq pc 26 then some (.iconst 0, 1) else none))) else
   (bif Nat.blt pc 30 then (bif Nat.blt pc 28 then (bif Nat.beq pc 27 then some (.iaload, 1) else none) else
     (bif Nat.beq pc 28 then some (.bipush 9, 2) else none)) else
    (bif Nat.blt pc 31 then (bif Nat.beq pc 30 then some (.iushr, 1) else none) else
     (bif Nat.beq pc 31 then some (.ireturn, 1) else none)))))) else none
set_option maxRecDepth 10000 in
noncomputable def zc_208 (pc : Nat) : Option (Instr × Nat) :=
 bif Nat.blt pc 19 then (bif Nat.blt pc 11 then (bif Nat.blt pc 5 then (bif Nat.blt pc 1 then (bif Nat.beq pc 0 then some (.aload_n 0, 1) else none) else
   (bif Nat.blt pc 2 then (bif Nat.beq pc 1 then some (.aload_n 1, 1) else none) else
    (bif Nat.beq pc 2 then some (.invokestatic 24, 3) else none))) else
  (bif Nat.blt pc 7 then (bif Nat.blt pc 6 then (bif Nat.beq pc 5 then some (.istore_n 2, 1) else none) else
    (bif Nat.beq pc 6 then some (.aload_n 0, 1) else none)) else
   (bif Nat.blt pc 8 then (bif Nat.beq pc 7 then some (.iload_n 2, 1) else none) else
    (bif Nat.beq pc 8 then some (.invokevirtual 30, 3) else none)))) else
 (bif Nat.blt pc 15 then (bif Nat.blt pc 12 then (bif Nat.beq pc 11 then some (.ireturn, 1) else none) else
   (bif Nat.blt pc 13 then (bif Nat.beq pc 12 then some (.astore_n 3, 1) else none) else
    (bif Nat.beq pc 13 then some (.bipush (-2), 2) else none))) else
  (bif Nat.blt pc 17 then (bif Nat.blt pc 16 then (bif Nat.beq pc 15 then some (.ireturn, 1) else none) else
    (bif Nat.beq pc 16 then some (.astore_n 3, 1) else none)) else
   (bif Nat.blt pc 18 then (bif Nat.beq pc 17 then some (.iconst (-1), 1) else none) else
    (bif Nat.beq pc 18 then some (.ireturn, 1) else none))))) else none
set_option maxRecDepth 10000 in
noncomputable def zc_209 (pc : Nat) : Option (Instr × Nat) :=
 bif Nat.blt pc 107 then (bif Nat.blt pc 54 then (bif Nat.blt pc 28 then (bif Nat.blt pc 11 then (bif Nat.blt pc 5 then (bif Nat.blt pc 2 then (bif Nat.blt pc 1 then (bif Nat.beq pc 0 then some (.iconst 0, 1) else none) else
      (bif Nat.beq pc 1 then some (.istore_n 2, 1) else none)) else
     (bif Nat.blt pc 3 then (bif Nat.beq pc 2 then some (.iconst 5, 1) else none) else
      (bif Nat.beq pc 3 then some (.newarray .int, 2) else none))) else
    (bif Nat.blt pc 7 then (bif Nat.blt pc 6 then (bif Nat.beq pc 5 then some (.astore_n 3, 1) else none) else
      (bif Nat.beq pc 6 then some (.iconst 0, 1) else none)) else
     (bif Nat.blt pc 9 then (bif Nat.beq pc 7 then some (.istore 4, 2) else none) else
      (bif Nat.beq pc 9 then some (.iload 4, 2) else none)))) else
   (bif Nat.blt pc 19 then (bif Nat.blt pc 15 then (bif Nat.blt pc 12 then (bif Nat.beq pc 11 then some (.aload_n 1, 1) else none) else
      (bif Nat.beq pc 12 then some (.invokevirtual 8, 3) else none)) else
     (bif Nat.blt pc 18 then (bif Nat.beq pc 15 then some (.if_icmp .ge 87, 3) else none) else
      (bif Nat.beq pc 18 then some (.iconst 0, 1) else none))) else
    (bif Nat.blt pc 23 then (bif Nat.blt pc 21 then (bif Nat.beq pc 19 then some (.istore 5, 2) else none) else
      (bif Nat.beq pc 21 then some (.iload 5, 2) else none)) else
     (bif Nat.blt pc 25 then (bif Nat.beq pc 23 then some (.bipush 20, 2) else none) else
      (bif Nat.beq pc 25 then some (.if_icmp .ge 51, 3) else none))))) else
  (bif Nat.blt pc 38 then (bif Nat.blt pc 33 then (bif Nat.blt pc 31 then (bif Nat.blt pc 29 then (bif Nat.beq pc 28 then some (.aload_n 3, 1) else none) else
      (bif Nat.beq pc 29 then some (.iload 5, 2) else none)) else
     (bif Nat.blt pc 32 then (bif Nat.beq pc 31 then some (.iconst 4, 1) else none) else
      (bif Nat.beq pc 32 then some (.idiv, 1) else none))) else
    (bif Nat.blt pc 36 then (bif Nat.blt pc 34 then (bif Nat.beq pc 33 then some (.aload_n 3, 1) else none) else
      (bif Nat.beq pc 34 then some (.iload 5, 2) else none)) else
     (bif Nat.blt pc 37 then (bif Nat.beq pc 36 then some (.iconst 4, 1) else none) else
      (bif Nat.beq pc 37 then some (.idiv, 1) else none)))) else
   (bif Nat.blt pc 44 then (bif Nat.blt pc 41 then (bif Nat.blt pc 39 then (bif Nat.beq pc 38 then some (.iaload, 1) else none) else
      (bif Nat.beq pc 39 then some (.bipush 8, 2) else none)) else
     (bif Nat.blt pc 42 then (bif Nat.beq pc 41 then some (.ishl, 1) else none) else
      (bif Nat.beq pc 42 then some (.iload 4, 2) else none))) else
    (bif Nat.blt pc 47 then (bif Nat.blt pc 46 then (bif Nat.beq pc 44 then some (.iload 5, 2) else none) else
      (bif Nat.beq pc 46 then some (.iadd, 1) else none)) else
     (bif Nat.blt pc 48 then (bif Nat.beq pc 47 then some (.aload_n 1, 1) else none) else
      (bif Nat.blt pc 51 then (bif Nat.beq pc 48 then some (.invokevirtual 8, 3) else none) else
       (bif Nat.beq pc 51 then some (.if_icmp .ge 15, 3) else none))))))) else
 (bif Nat.blt pc 82 then (bif Nat.blt pc 69 then (bif Nat.blt pc 60 then (bif Nat.blt pc 57 then (bif Nat.blt pc 55 then (bif Nat.beq pc 54 then some (.aload_n 1, 1) else none) else
      (bif Nat.beq pc 55 then some (.iload 4, 2) else none)) else
     (bif Nat.blt pc 59 then (bif Nat.beq pc 57 then some (.iload 5, 2) else none) else
      (bif Nat.beq pc 59 then some (.iadd, 1) else none))) else
    (bif Nat.blt pc 66 then (bif Nat.blt pc 63 then (bif Nat.beq pc 60 then some (.invokevirtual 14, 3) else none) else
      (bif Nat.beq pc 63 then some (.goto 5, 3) else none)) else
     (bif Nat.blt pc 68 then (bif Nat.beq pc 66 then some (.bipush 32, 2) else none) else
      (bif Nat.beq pc 68 then some (.ior, 1) else none)))) else
   (bif Nat.blt pc 77 then (bif Nat.blt pc 73 then (bif Nat.blt pc 70 then (bif Nat.beq pc 69 then some (.iastore, 1) else none) else
      (bif Nat.beq pc 70 then some (.iinc 5 1, 3) else none)) else
     (bif Nat.blt pc 76 then (bif Nat.beq pc 73 then some (.goto (-52), 3) else none) else
      (bif Nat.beq pc 76 then some (.aload_n 0, 1) else none))) else
    (bif Nat.blt pc 79 then (bif Nat.blt pc 78 then (bif Nat.beq pc 77 then some (.aload_n 3, 1) else none) else
      (bif Nat.beq pc 78 then some (.iconst 0, 1) else none)) else
     (bif Nat.blt pc 80 then (bif Nat.beq pc 79 then some (.iaload, 1) else none) else
      (bif Nat.blt pc 81 then (bif Nat.beq pc 80 then some (.aload_n 3, 1) else none) else
       (bif Nat.beq pc 81 then some (.iconst 1, 1) else none)))))) else
  (bif Nat.blt pc 90 then (bif Nat.blt pc 86 then (bif Nat.blt pc 84 then (bif Nat.blt pc 83 then (bif Nat.beq pc 82 then some (.iaload, 1) else none) else
      (bif Nat.beq pc 83 then some (.aload_n 3, 1) else none)) else
     (bif Nat.blt pc 85 then (bif Nat.beq pc 84 then some (.iconst 2, 1) else none) else
      (bif Nat.beq pc 85 then some (.iaload, 1) else none))) else
    (bif Nat.blt pc 88 then (bif Nat.blt pc 87 then (bif Nat.beq pc 86 then some (.aload_n 3, 1) else none) else
      (bif Nat.beq pc 87 then some (.iconst 3, 1) else none)) else
     (bif Nat.blt pc 89 then (bif Nat.beq pc 88 then some (.iaload, 1) else none) else
      (bif Nat.beq pc 89 then some (.aload_n 3, 1) else none)))) else
   (bif Nat.blt pc 96 then (bif Nat.blt pc 92 then (bif Nat.blt pc 91 then (bif Nat.beq pc 90 then some (.iconst 4, 1) else none) else
      (bif Nat.beq pc 91 then some (.iaload, 1) else none)) else
     (bif Nat.blt pc 95 then (bif Nat.beq pc 92 then some (.invokevirtual 18, 3) else none) else
      (bif Nat.beq pc 95 then some (.istore_n 2, 1) else none))) else
    (bif Nat.blt pc 102 then (bif Nat.blt pc 99 then (bif Nat.beq pc 96 then some (.iinc 4 20, 3) else none) else
      (bif Nat.beq pc 99 then some (.goto (-90), 3) else none)) else
     (bif Nat.blt pc 103 then (bif Nat.beq pc 102 then some (.aload_n 1, 1) else none) else
      (bif Nat.blt pc 106 then (bif Nat.beq pc 103 then some (.invokevirtual 8, 3) else none) else
       (bif Nat.beq pc 106 then some (.ireturn, 1) else none)))))))) else none
set_option maxRecDepth 10000 in
noncomputable def zc_210 (pc : Nat) : Option (Instr × Nat) :=
 bif Nat.blt pc 8 then (bif Nat.blt pc 5 then (bif Nat.blt pc 1 then (bif Nat.beq pc 0 then some (.aload_n 0, 1) else none) else
  (bif Nat.blt pc 4 then (bif Nat.beq pc 1 then some (.invokevirtual 38, 3) else none) else
   (bif Nat.beq pc 4 then some (.ireturn, 1) else none))) else
 (bif Nat.blt pc 6 then (bif Nat.beq pc 5 then some (.astore_n 1, 1) else none) else
  (bif Nat.blt pc 7 then (bif Nat.beq pc 6 then some (.iconst (-1), 1) else none) else
   (bif Nat.beq pc 7 then some (.ireturn, 1) else none)))) else none
set_option maxRecDepth 10000 in
noncomputable def zc_211 (pc : Nat) : Option (Instr × Nat) :=
 bif Nat.blt pc 15 then (bif Nat.blt pc 7 then (bif Nat.blt pc 2 then (bif Nat.blt pc 1 then (bif Nat.beq pc 0 then some (.aload_n 0, 1) else none) else
   (bif Nat.beq pc 1 then some (.iload_n 1, 1) else none)) else
  (bif Nat.blt pc 3 then (bif Nat.beq pc 2 then some (.iload_n 2, 1) else none) else
   (bif Nat.blt pc 6 then (bif Nat.beq pc 3 then some (.invokevirtual 41, 3) else none) else
    (bif Nat.beq pc 6 then some (.ireturn, 1) else none)))) else
 (bif Nat.blt pc 11 then (bif Nat.blt pc 8 then (bif Nat.beq pc 7 then some (.astore_n 3, 1) else none) else
   (bif Nat.blt pc 10 then (bif Nat.beq pc 8 then some (.bipush (-5), 2) else none) else
    (bif Nat.beq pc 10 then some (.ireturn, 1) else none))) else
  (bif Nat.blt pc 12 then (bif Nat.beq pc 11 then some (.astore_n 3, 1) else none) else
   (bif Nat.blt pc 14 then (bif Nat.beq pc 12 then some (.bipush (-2), 2) else none) else
    (bif Nat.beq pc 14 then some (.ireturn, 1) else none))))) else none
set_option maxRecDepth 10000 in
noncomputable def zc_212 (pc : Nat) : Option (Instr × Nat) :=
 bif Nat.blt pc 15 then (bif Nat.blt pc 7 then (bif Nat.blt pc 2 then (bif Nat.blt pc 1 then (bif Nat.beq pc 0 then some (.aload_n 0, 1) else none) else
   (bif Nat.beq pc 1 then some (.iload_n 1, 1) else none)) else
  (bif Nat.blt pc 3 then (bif Nat.beq pc 2 then some (.iload_n 2, 1) else none) else
   (bif Nat.blt pc 6 then (bif Nat.beq pc 3 then some (.invokevirtual 47, 3) else none) else
    (bif Nat.beq pc 6 then some (.ireturn, 1) else none)))) else
 (bif Nat.blt pc 11 then (bif Nat.blt pc 8 then (bif Nat.beq pc 7 then some (.astore_n 3, 1) else none) else
   (bif Nat.blt pc 10 then (bif Nat.beq pc 8 then some (.bipush (-5), 2) else none) else
    (bif Nat.beq pc 10 then some (.ireturn, 1) else none))) else
  (bif Nat.blt pc 12 then (bif Nat.beq pc 11 then some (.astore_n 3, 1) else none) else
   (bif Nat.blt pc 14 then (bif Nat.beq pc 12 then some (.bipush (-2), 2) else none) else
    (bif Nat.beq pc 14 then some (.ireturn, 1) else none))))) else none
set_option maxRecDepth 10000 in
noncomputable def zc_213 (pc : Nat) : Option (Instr × Nat) :=
 bif Nat.blt pc 20 then (bif Nat.blt pc 11 then (bif Nat.blt pc 5 then (bif Nat.blt pc 1 then (bif Nat.beq pc 0 then some (.aload_n 0, 1) else none) else
   (bif Nat.blt pc 2 then (bif Nat.beq pc 1 then some (.aload_n 1, 1) else none) else
    (bif Nat.beq pc 2 then some (.invokestatic 24, 3) else none))) else
  (bif Nat.blt pc 7 then (bif Nat.blt pc 6 then (bif Nat.beq pc 5 then some (.istore_n 2, 1) else none) else
    (bif Nat.beq pc 6 then some (.aload_n 0, 1) else none)) else
   (bif Nat.blt pc 8 then (bif Nat.beq pc 7 then some (.iload_n 2, 1) else none) else
    (bif Nat.beq pc 8 then some (.invokevirtual 50, 3) else none)))) else
 (bif Nat.blt pc 15 then (bif Nat.blt pc 12 then (bif Nat.beq pc 11 then some (.ireturn, 1) else none) else
   (bif Nat.blt pc 13 then (bif Nat.beq pc 12 then some (.astore_n 3, 1) else none) else
    (bif Nat.beq pc 13 then some (.bipush (-2), 2) else none))) else
  (bif Nat.blt pc 17 then (bif Nat.blt pc 16 then (bif Nat.beq pc 15 then some (.ireturn, 1) else none) else
    (bif Nat.beq pc 16 then some (.astore_n 3, 1) else none)) else
   (bif Nat.blt pc 19 then (bif Nat.beq pc 17 then some (.bipush (-3), 2) else none) else
    (bif Nat.beq pc 19 then some (.ireturn, 1) else none))))) else none
set_option maxRecDepth 10000 in
noncomputable def zc_214 (pc : Nat) : Option (Instr × Nat) :=
 bif Nat.blt pc 20 then (bif Nat.blt pc 11 then (bif Nat.blt pc 5 then (bif Nat.blt pc 1 then (bif Nat.beq pc 0 then some (.aload_n 0, 1) else none) else
   (bif Nat.blt pc 2 then (bif Nat.beq pc 1 then some (.aload_n 1, 1) else none) else
    (bif Nat.beq pc 2 then some (.invokestatic 24, 3) else none))) else
  (bif Nat.blt pc 7 then (bif Nat.blt pc 6 then (bif Nat.beq pc 5 then some (.istore_n 2, 1) else none) else
    (bif Nat.beq pc 6 then some (.aload_n 0, 1) else none)) else
   (bif Nat.blt pc 8 then (bif Nat.beq pc 7 then some (.iload_n 2, 1) else none) else
    (bif Nat.beq pc 8 then some (.invokevirtual 53, 3) else none)))) else
 (bif Nat.blt pc 15 then (bif Nat.blt pc 12 then (bif Nat.beq pc 11 then some (.ireturn, 1) else none) else
   (bif Nat.blt pc 13 then (bif Nat.beq pc 12 then some (.astore_n 3, 1) else none) else
    (bif Nat.beq pc 13 then some (.bipush (-2), 2) else none))) else
  (bif Nat.blt pc 17 then (bif Nat.blt pc 16 then (bif Nat.beq pc 15 then some (.ireturn, 1) else none) else
    (bif Nat.beq pc 16 then some (.astore_n 3, 1) else none)) else
   (bif Nat.blt pc 19 then (bif Nat.beq pc 17 then some (.bipush (-3), 2) else none) else
    (bif Nat.beq pc 19 then some (.ireturn, 1) else none))))) else none
set_option maxRecDepth 10000 in
noncomputable def zc_215 (pc : Nat) : Option (Instr × Nat) :=
 bif Nat.blt pc 312 then (bif Nat.blt pc 148 then (bif Nat.blt pc 72 then (bif Nat.blt pc 32 then (bif Nat.blt pc 17 then (bif Nat.blt pc 10 then (bif Nat.blt pc 4 then (bif Nat.blt pc 3 then (bif Nat.beq pc 0 then some (.new 73, 3) else none) else
       (bif Nat.beq pc 3 then some (.dup, 1) else none)) else
      (bif Nat.blt pc 6 then (bif Nat.beq pc 4 then some (.ldc 98, 2) else none) else
       (bif Nat.blt pc 9 then (bif Nat.beq pc 6 then some (.invokespecial 100, 3) else none) else
        (bif Nat.beq pc 9 then some (.astore_n 1, 1) else none)))) else
     (bif Nat.blt pc 12 then (bif Nat.blt pc 11 then (bif Nat.beq pc 10 then some (.aload_n 1, 1) else none) else
       (bif Nat.beq pc 11 then some (.iconst 1, 1) else none)) else
      (bif Nat.blt pc 13 then (bif Nat.beq pc 12 then some (.iconst 2, 1) else none) else
       (bif Nat.blt pc 14 then (bif Nat.beq pc 13 then some (.aload_n 0, 1) else none) else
        (bif Nat.beq pc 14 then some (.invokestatic 103, 3) else none))))) else
    (bif Nat.blt pc 24 then (bif Nat.blt pc 19 then (bif Nat.blt pc 18 then (bif Nat.beq pc 17 then some (.aload_n 1, 1) else none) else
       (bif Nat.beq pc 18 then some (.iconst 1, 1) else none)) else
      (bif Nat.blt pc 20 then (bif Nat.beq pc 19 then some (.iconst 2, 1) else none) else
       (bif Nat.blt pc 21 then (bif Nat.beq pc 20 then some (.aload_n 0, 1) else none) else
        (bif Nat.beq pc 21 then some (.invokestatic 103, 3) else none)))) else
     (bif Nat.blt pc 29 then (bif Nat.blt pc 26 then (bif Nat.beq pc 24 then some (.bipush 6, 2) else none) else
       (bif Nat.blt pc 28 then (bif Nat.beq pc 26 then some (.newarray .int, 2) else none) else
        (bif Nat.beq pc 28 then some (.astore_n 2, 1) else none))) else
      (bif Nat.blt pc 30 then (bif Nat.beq pc 29 then some (.iconst 0, 1) else none) else
       (bif Nat.blt pc 31 then (bif Nat.beq pc 30 then some (.istore_n 3, 1) else none) else
        (bif Nat.beq pc 31 then some (.iconst 2, 1) else none)))))) else
   (bif Nat.blt pc 52 then (bif Nat.blt pc 39 then (bif Nat.blt pc 36 then (bif Nat.blt pc 33 then (bif Nat.beq pc 32 then some (.aload_n 0, 1) else none) else
       (bif Nat.beq pc 33 then some (.invokestatic 62, 3) else none)) else
      (bif Nat.blt pc 37 then (bif Nat.beq pc 36 then some (.iconst 5, 1) else none) else
       (bif Nat.blt pc 38 then (bif Nat.beq pc 37 then some (.irem, 1) else none) else
        (bif Nat.beq pc 38 then some (.iadd, 1) else none)))) else
     (bif Nat.blt pc 46 then (bif Nat.blt pc 41 then (bif Nat.beq pc 39 then some (.istore 4, 2) else none) else
       (bif Nat.blt pc 43 then (bif Nat.beq pc 41 then some (.iload 4, 2) else none) else
        (bif Nat.beq pc 43 then some (.ifCond .le 235, 3) else none))) else
      (bif Nat.blt pc 47 then (bif Nat.beq pc 46 then some (.aload_n 0, 1) else none) else
       (bif Nat.blt pc 50 then (bif Nat.beq pc 47 then some (.invokestatic 62, 3) else none) else
        (bif Nat.beq pc 50 then some (.bipush 7, 2) else none))))) else
    (bif Nat.blt pc 61 then (bif Nat.blt pc 55 then (bif Nat.blt pc 53 then (bif Nat.beq pc 52 then some (.irem, 1) else none) else
       (bif Nat.beq pc 53 then some (.istore 5, 2) else none)) else
      (bif Nat.blt pc 57 then (bif Nat.beq pc 55 then some (.iload 5, 2) else none) else
       (bif Nat.blt pc 60 then (bif Nat.beq pc 57 then some (.ifCond .ne 32, 3) else none) else
        (bif Nat.beq pc 60 then some (.iload_n 3, 1) else none)))) else
     (bif Nat.blt pc 66 then (bif Nat.blt pc 62 then (bif Nat.beq pc 61 then some (.iconst 3, 1) else none) else
       (bif Nat.blt pc 65 then (bif Nat.beq pc 62 then some (.if_icmp .ge 27, 3) else none) else
        (bif Nat.beq pc 65 then some (.aload_n 1, 1) else none))) else
      (bif Nat.blt pc 68 then (bif Nat.beq pc 66 then some (.ldc 107, 2) else none) else
       (bif Nat.blt pc 71 then (bif Nat.beq pc 68 then some (.invokevirtual 72, 3) else none) else
        (bif Nat.beq pc 71 then some (.pop, 1) else none))))))) else
  (bif Nat.blt pc 108 then (bif Nat.blt pc 89 then (bif Nat.blt pc 79 then (bif Nat.blt pc 74 then (bif Nat.blt pc 73 then (bif Nat.beq pc 72 then some (.aload_n 1, 1) else none) else
       (bif Nat.beq pc 73 then some (.iconst 1, 1) else none)) else
      (bif Nat.blt pc 75 then (bif Nat.beq pc 74 then some (.iconst 1, 1) else none) else
       (bif Nat.blt pc 76 then (bif Nat.beq pc 75 then some (.aload_n 0, 1) else none) else
        (bif Nat.beq pc 76 then some (.invokestatic 103, 3) else none)))) else
     (bif Nat.blt pc 84 then (bif Nat.blt pc 80 then (bif Nat.beq pc 79 then some (.aload_n 2, 1) else none) else
       (bif Nat.blt pc 83 then (bif Nat.beq pc 80 then some (.iinc 3 1, 3) else none) else
        (bif Nat.beq pc 83 then some (.iload_n 3, 1) else none))) else
      (bif Nat.blt pc 85 then (bif Nat.beq pc 84 then some (.iconst 1, 1) else none) else
       (bif Nat.blt pc 86 then (bif Nat.beq pc 85 then some (.iastore, 1) else none) else
        (bif Nat.beq pc 86 then some (.goto 186, 3) else none))))) else
    (bif Nat.blt pc 97 then (bif Nat.blt pc 92 then (bif Nat.blt pc 91 then (bif Nat.beq pc 89 then some (.iload 5, 2) else none) else
       (bif Nat.beq pc 91 then some (.iconst 1, 1) else none)) else
      (bif Nat.blt pc 95 then (bif Nat.beq pc 92 then some (.if_icmp .ne 93, 3) else none) else
       (bif Nat.blt pc 96 then (bif Nat.beq pc 95 then some (.iload_n 3, 1) else none) else
        (bif Nat.beq pc 96 then some (.iconst 3, 1) else none)))) else
     (bif Nat.blt pc 103 then (bif Nat.blt pc 100 then (bif Nat.beq pc 97 then some (.if_icmp .ge 88, 3) else none) else
       (bif Nat.blt pc 102 then (bif Nat.beq pc 100 then some (.bipush 97, 2) else none) else
        (bif Nat.beq pc 102 then some (.aload_n 0, 1) else none))) else
      (bif Nat.blt pc 106 then (bif Nat.beq pc 103 then some (.invokestatic 62, 3) else none) else
       (bif Nat.blt pc 107 then (bif Nat.beq pc 106 then some (.iconst 3, 1) else none) else
        (bif Nat.beq pc 107 then some (.irem, 1) else none)))))) else
   (bif Nat.blt pc 129 then (bif Nat.blt pc 115 then (bif Nat.blt pc 110 then (bif Nat.blt pc 109 then (bif Nat.beq pc 108 then some (.iadd, 1) else none) else
       (bif Nat.beq pc 109 then some (.i2c, 1) else none)) else
      (bif Nat.blt pc 112 then (bif Nat.beq pc 110 then some (.istore 6, 2) else none) else
       (bif Nat.blt pc 113 then (bif Nat.beq pc 112 then some (.aload_n 1, 1) else none) else
        (bif Nat.beq pc 113 then some (.ldc 109, 2) else none)))) else
     (bif Nat.blt pc 123 then (bif Nat.blt pc 118 then (bif Nat.beq pc 115 then some (.invokevirtual 72, 3) else none) else
       (bif Nat.blt pc 120 then (bif Nat.beq pc 118 then some (.iload 6, 2) else none) else
        (bif Nat.beq pc 120 then some (.invokevirtual 78, 3) else none))) else
      (bif Nat.blt pc 125 then (bif Nat.beq pc 123 then some (.ldc 111, 2) else none) else
       (bif Nat.blt pc 128 then (bif Nat.beq pc 125 then some (.invokevirtual 72, 3) else none) else
        (bif Nat.beq pc 128 then some (.pop, 1) else none))))) else
    (bif Nat.blt pc 136 then (bif Nat.blt pc 131 then (bif Nat.blt pc 130 then (bif Nat.beq pc 129 then some (.aload_n 1, 1) else none) else
       (bif Nat.beq pc 130 then some (.iconst 1, 1) else none)) else
      (bif Nat.blt pc 132 then (bif Nat.beq pc 131 then some (.iconst 1, 1) else none) else
       (bif Nat.blt pc 133 then (bif Nat.beq pc 132 then some (.aload_n 0, 1) else none) else
        (bif Nat.beq pc 133 then some (.invokestatic 103, 3) else none)))) else
     (bif Nat.blt pc 142 then (bif Nat.blt pc 137 then (bif Nat.beq pc 136 then some (.aload_n 1, 1) else none) else
       (bif Nat.blt pc 139 then (bif Nat.beq pc 137 then some (.ldc 113, 2) else none) else
        (bif Nat.beq pc 139 then some (.invokevirtual 72, 3) else none))) else
      (bif Nat.blt pc 144 then (bif Nat.beq pc 142 then some (.iload 6, 2) else none) else
       (bif Nat.blt pc 147 then (bif Nat.beq pc 144 then some (.invokevirtual 78, 3) else none) else
        (bif Nat.beq pc 147 then some (.pop, 1) else none)))))))) else
 (bif Nat.blt pc 229 then (bif Nat.blt pc 192 then (bif Nat.blt pc 168 then (bif Nat.blt pc 155 then (bif Nat.blt pc 152 then (bif Nat.blt pc 149 then (bif Nat.beq pc 148 then some (.aload_n 2, 1) else none) else
       (bif Nat.beq pc 149 then some (.iinc 3 1, 3) else none)) else
      (bif Nat.blt pc 153 then (bif Nat.beq pc 152 then some (.iload_n 3, 1) else none) else
       (bif Nat.blt pc 154 then (bif Nat.beq pc 153 then some (.iconst 2, 1) else none) else
        (bif Nat.beq pc 154 then some (.iastore, 1) else none)))) else
     (bif Nat.blt pc 161 then (bif Nat.blt pc 156 then (bif Nat.beq pc 155 then some (.aload_n 1, 1) else none) else
       (bif Nat.blt pc 158 then (bif Nat.beq pc 156 then some (.ldc 115, 2) else none) else
        (bif Nat.beq pc 158 then some (.invokevirtual 72, 3) else none))) else
      (bif Nat.blt pc 163 then (bif Nat.beq pc 161 then some (.iload 6, 2) else none) else
       (bif Nat.blt pc 166 then (bif Nat.beq pc 163 then some (.invokevirtual 78, 3) else none) else
        (bif Nat.beq pc 166 then some (.ldc 117, 2) else none))))) else
    (bif Nat.blt pc 181 then (bif Nat.blt pc 173 then (bif Nat.blt pc 171 then (bif Nat.beq pc 168 then some (.invokevirtual 72, 3) else none) else
       (bif Nat.beq pc 171 then some (.iload 6, 2) else none)) else
      (bif Nat.blt pc 176 then (bif Nat.beq pc 173 then some (.invokevirtual 78, 3) else none) else
       (bif Nat.blt pc 178 then (bif Nat.beq pc 176 then some (.ldc 119, 2) else none) else
        (bif Nat.beq pc 178 then some (.invokevirtual 72, 3) else none)))) else
     (bif Nat.blt pc 187 then (bif Nat.blt pc 182 then (bif Nat.beq pc 181 then some (.pop, 1) else none) else
       (bif Nat.blt pc 185 then (bif Nat.beq pc 182 then some (.goto 90, 3) else none) else
        (bif Nat.beq pc 185 then some (.iload 5, 2) else none))) else
      (bif Nat.blt pc 188 then (bif Nat.beq pc 187 then some (.iconst 2, 1) else none) else
       (bif Nat.blt pc 191 then (bif Nat.beq pc 188 then some (.if_icmp .ne 13, 3) else none) else
        (bif Nat.beq pc 191 then some (.aload_n 1, 1) else none)))))) else
   (bif Nat.blt pc 213 then (bif Nat.blt pc 203 then (bif Nat.blt pc 197 then (bif Nat.blt pc 194 then (bif Nat.beq pc 192 then some (.ldc 121, 2) else none) else
       (bif Nat.beq pc 194 then some (.invokevirtual 72, 3) else none)) else
      (bif Nat.blt pc 198 then (bif Nat.beq pc 197 then some (.pop, 1) else none) else
       (bif Nat.blt pc 201 then (bif Nat.beq pc 198 then some (.goto 74, 3) else none) else
        (bif Nat.beq pc 201 then some (.iload 5, 2) else none)))) else
     (bif Nat.blt pc 208 then (bif Nat.blt pc 204 then (bif Nat.beq pc 203 then some (.iconst 3, 1) else none) else
       (bif Nat.blt pc 207 then (bif Nat.beq pc 204 then some (.if_icmp .ne 41, 3) else none) else
        (bif Nat.beq pc 207 then some (.iload_n 3, 1) else none))) else
      (bif Nat.blt pc 211 then (bif Nat.beq pc 208 then some (.ifCond .le 37, 3) else none) else
       (bif Nat.blt pc 212 then (bif Nat.beq pc 211 then some (.aload_n 2, 1) else none) else
        (bif Nat.beq pc 212 then some (.iload_n 3, 1) else none))))) else
    (bif Nat.blt pc 221 then (bif Nat.blt pc 215 then (bif Nat.blt pc 214 then (bif Nat.beq pc 213 then some (.iaload, 1) else none) else
       (bif Nat.beq pc 214 then some (.iconst 1, 1) else none)) else
      (bif Nat.blt pc 218 then (bif Nat.beq pc 215 then some (.if_icmp .ne 17, 3) else none) else
       (bif Nat.blt pc 219 then (bif Nat.beq pc 218 then some (.aload_n 1, 1) else none) else
        (bif Nat.beq pc 219 then some (.ldc 123, 2) else none)))) else
     (bif Nat.blt pc 226 then (bif Nat.blt pc 224 then (bif Nat.beq pc 221 then some (.invokevirtual 72, 3) else none) else
       (bif Nat.blt pc 225 then (bif Nat.beq pc 224 then some (.pop, 1) else none) else
        (bif Nat.beq pc 225 then some (.aload_n 2, 1) else none))) else
      (bif Nat.blt pc 227 then (bif Nat.beq pc 226 then some (.iload_n 3, 1) else none) else
       (bif Nat.blt pc 228 then (bif Nat.beq pc 227 then some (.iconst 3, 1) else none) else
        (bif Nat.beq pc 228 then some (.iastore, 1) else none))))))) else
  (bif Nat.blt pc 268 then (bif Nat.blt pc 253 then (bif Nat.blt pc 239 then (bif Nat.blt pc 233 then (bif Nat.blt pc 232 then (bif Nat.beq pc 229 then some (.goto 43, 3) else none) else
       (bif Nat.beq pc 232 then some (.aload_n 1, 1) else none)) else
      (bif Nat.blt pc 235 then (bif Nat.beq pc 233 then some (.ldc 125, 2) else none) else
       (bif Nat.blt pc 238 then (bif Nat.beq pc 235 then some (.invokevirtual 72, 3) else none) else
        (bif Nat.beq pc 238 then some (.pop, 1) else none)))) else
     (bif Nat.blt pc 246 then (bif Nat.blt pc 242 then (bif Nat.beq pc 239 then some (.iinc 3 (-1), 3) else none) else
       (bif Nat.blt pc 245 then (bif Nat.beq pc 242 then some (.goto 30, 3) else none) else
        (bif Nat.beq pc 245 then some (.aload_n 1, 1) else none))) else
      (bif Nat.blt pc 248 then (bif Nat.beq pc 246 then some (.ldc 115, 2) else none) else
       (bif Nat.blt pc 251 then (bif Nat.beq pc 248 then some (.invokevirtual 72, 3) else none) else
        (bif Nat.beq pc 251 then some (.bipush 97, 2) else none))))) else
    (bif Nat.blt pc 260 then (bif Nat.blt pc 257 then (bif Nat.blt pc 254 then (bif Nat.beq pc 253 then some (.aload_n 0, 1) else none) else
       (bif Nat.beq pc 254 then some (.invokestatic 62, 3) else none)) else
      (bif Nat.blt pc 258 then (bif Nat.beq pc 257 then some (.iconst 3, 1) else none) else
       (bif Nat.blt pc 259 then (bif Nat.beq pc 258 then some (.irem, 1) else none) else
        (bif Nat.beq pc 259 then some (.iadd, 1) else none)))) else
     (bif Nat.blt pc 265 then (bif Nat.blt pc 261 then (bif Nat.beq pc 260 then some (.i2c, 1) else none) else
       (bif Nat.blt pc 264 then (bif Nat.beq pc 261 then some (.invokevirtual 78, 3) else none) else
        (bif Nat.beq pc 264 then some (.pop, 1) else none))) else
      (bif Nat.blt pc 266 then (bif Nat.beq pc 265 then some (.aload_n 1, 1) else none) else
       (bif Nat.blt pc 267 then (bif Nat.beq pc 266 then some (.iconst 0, 1) else none) else
        (bif Nat.beq pc 267 then some (.iconst 2, 1) else none)))))) else
   (bif Nat.blt pc 287 then (bif Nat.blt pc 279 then (bif Nat.blt pc 272 then (bif Nat.blt pc 269 then (bif Nat.beq pc 268 then some (.aload_n 0, 1) else none) else
       (bif Nat.beq pc 269 then some (.invokestatic 103, 3) else none)) else
      (bif Nat.blt pc 275 then (bif Nat.beq pc 272 then some (.iinc 4 (-1), 3) else none) else
       (bif Nat.blt pc 278 then (bif Nat.beq pc 275 then some (.goto (-234), 3) else none) else
        (bif Nat.beq pc 278 then some (.iload_n 3, 1) else none)))) else
     (bif Nat.blt pc 284 then (bif Nat.blt pc 282 then (bif Nat.beq pc 279 then some (.ifCond .le 28, 3) else none) else
       (bif Nat.blt pc 283 then (bif Nat.beq pc 282 then some (.aload_n 1, 1) else none) else
        (bif Nat.beq pc 283 then some (.aload_n 2, 1) else none))) else
      (bif Nat.blt pc 285 then (bif Nat.beq pc 284 then some (.iload_n 3, 1) else none) else
       (bif Nat.blt pc 286 then (bif Nat.beq pc 285 then some (.iaload, 1) else none) else
        (bif Nat.beq pc 286 then some (.iconst 1, 1) else none))))) else
    (bif Nat.blt pc 300 then (bif Nat.blt pc 292 then (bif Nat.blt pc 290 then (bif Nat.beq pc 287 then some (.if_icmp .ne 8, 3) else none) else
       (bif Nat.beq pc 290 then some (.ldc 127, 2) else none)) else
      (bif Nat.blt pc 295 then (bif Nat.beq pc 292 then some (.goto 5, 3) else none) else
       (bif Nat.blt pc 297 then (bif Nat.beq pc 295 then some (.ldc 125, 2) else none) else
        (bif Nat.beq pc 297 then some (.invokevirtual 72, 3) else none)))) else
     (bif Nat.blt pc 307 then (bif Nat.blt pc 301 then (bif Nat.beq pc 300 then some (.pop, 1) else none) else
       (bif Nat.blt pc 304 then (bif Nat.beq pc 301 then some (.iinc 3 (-1), 3) else none) else
        (bif Nat.beq pc 304 then some (.goto (-26), 3) else none))) else
      (bif Nat.blt pc 308 then (bif Nat.beq pc 307 then some (.aload_n 1, 1) else none) else
       (bif Nat.blt pc 311 then (bif Nat.beq pc 308 then some (.invokevirtual 129, 3) else none) else
        (bif Nat.beq pc 311 then some (.areturn, 1) else none))))))))) else none
set_option maxRecDepth 10000 in
noncomputable def zc_216 (pc : Nat) : Option (Instr × Nat) :=
 bif Nat.blt pc 336 then (bif Nat.blt pc 169 then (bif Nat.blt pc 86 then (bif Nat.blt pc 41 then (bif Nat.blt pc 20 then (bif Nat.blt pc 9 then (bif Nat.blt pc 4 then (bif Nat.blt pc 2 then (bif Nat.beq pc 0 then some (.bipush 20, 2) else none) else
       (bif Nat.beq pc 2 then some (.newarray .int, 2) else none)) else
      (bif Nat.blt pc 6 then (bif Nat.beq pc 4 then some (.astore 4, 2) else none) else
       (bif Nat.blt pc 7 then (bif Nat.beq pc 6 then some (.iconst 1, 1) else none) else
        (bif Nat.beq pc 7 then some (.istore 5, 2) else none)))) else
     (bif Nat.blt pc 13 then (bif Nat.blt pc 11 then (bif Nat.beq pc 9 then some (.aload 4, 2) else none) else
       (bif Nat.blt pc 12 then (bif Nat.beq pc 11 then some (.iconst 0, 1) else none) else
        (bif Nat.beq pc 12 then some (.iload_n 1, 1) else none))) else
      (bif Nat.blt pc 16 then (bif Nat.beq pc 13 then some (.ifCond .eq 7, 3) else none) else
       (bif Nat.blt pc 17 then (bif Nat.beq pc 16 then some (.iconst 1, 1) else none) else
        (bif Nat.beq pc 17 then some (.goto 4, 3) else none))))) else
    (bif Nat.blt pc 27 then (bif Nat.blt pc 22 then (bif Nat.blt pc 21 then (bif Nat.beq pc 20 then some (.iconst 0, 1) else none) else
       (bif Nat.beq pc 21 then some (.iastore, 1) else none)) else
      (bif Nat.blt pc 23 then (bif Nat.beq pc 22 then some (.iload_n 2, 1) else none) else
       (bif Nat.blt pc 25 then (bif Nat.beq pc 23 then some (.istore 6, 2) else none) else
        (bif Nat.beq pc 25 then some (.iload 5, 2) else none)))) else
     (bif Nat.blt pc 35 then (bif Nat.blt pc 30 then (bif Nat.beq pc 27 then some (.ifCond .le 308, 3) else none) else
       (bif Nat.blt pc 33 then (bif Nat.beq pc 30 then some (.iinc 5 (-1), 3) else none) else
        (bif Nat.beq pc 33 then some (.aload 4, 2) else none))) else
      (bif Nat.blt pc 37 then (bif Nat.beq pc 35 then some (.iload 5, 2) else none) else
       (bif Nat.blt pc 38 then (bif Nat.beq pc 37 then some (.iaload, 1) else none) else
        (bif Nat.beq pc 38 then some (.ifCond .ne 126, 3) else none)))))) else
   (bif Nat.blt pc 61 then (bif Nat.blt pc 51 then (bif Nat.blt pc 46 then (bif Nat.blt pc 43 then (bif Nat.beq pc 41 then some (.iload 6, 2) else none) else
       (bif Nat.beq pc 43 then some (.ifCond .le 70, 3) else none)) else
      (bif Nat.blt pc 47 then (bif Nat.beq pc 46 then some (.aload_n 3, 1) else none) else
       (bif Nat.blt pc 50 then (bif Nat.beq pc 47 then some (.invokestatic 62, 3) else none) else
        (bif Nat.beq pc 50 then some (.iconst 3, 1) else none)))) else
     (bif Nat.blt pc 56 then (bif Nat.blt pc 52 then (bif Nat.beq pc 51 then some (.irem, 1) else none) else
       (bif Nat.blt pc 55 then (bif Nat.beq pc 52 then some (.ifCond .ne 61, 3) else none) else
        (bif Nat.beq pc 55 then some (.aload_n 0, 1) else none))) else
      (bif Nat.blt pc 57 then (bif Nat.beq pc 56 then some (.aload_n 3, 1) else none) else
       (bif Nat.blt pc 60 then (bif Nat.beq pc 57 then some (.invokestatic 62, 3) else none) else
        (bif Nat.beq pc 60 then some (.iconst 2, 1) else none))))) else
    (bif Nat.blt pc 74 then (bif Nat.blt pc 67 then (bif Nat.blt pc 62 then (bif Nat.beq pc 61 then some (.irem, 1) else none) else
       (bif Nat.blt pc 65 then (bif Nat.beq pc 62 then some (.ifCond .ne 8, 3) else none) else
        (bif Nat.beq pc 65 then some (.ldc 66, 2) else none))) else
      (bif Nat.blt pc 70 then (bif Nat.beq pc 67 then some (.goto 19, 3) else none) else
       (bif Nat.blt pc 71 then (bif Nat.beq pc 70 then some (.aload_n 3, 1) else none) else
        (bif Nat.beq pc 71 then some (.invokestatic 62, 3) else none)))) else
     (bif Nat.blt pc 79 then (bif Nat.blt pc 75 then (bif Nat.beq pc 74 then some (.iconst 2, 1) else none) else
       (bif Nat.blt pc 76 then (bif Nat.beq pc 75 then some (.irem, 1) else none) else
        (bif Nat.beq pc 76 then some (.ifCond .ne 8, 3) else none))) else
      (bif Nat.blt pc 81 then (bif Nat.beq pc 79 then some (.ldc 68, 2) else none) else
       (bif Nat.blt pc 84 then (bif Nat.beq pc 81 then some (.goto 5, 3) else none) else
        (bif Nat.beq pc 84 then some (.ldc 70, 2) else none))))))) else
  (bif Nat.blt pc 125 then (bif Nat.blt pc 103 then (bif Nat.blt pc 95 then (bif Nat.blt pc 90 then (bif Nat.blt pc 89 then (bif Nat.beq pc 86 then some (.invokevirtual 72, 3) else none) else
       (bif Nat.beq pc 89 then some (.pop, 1) else none)) else
      (bif Nat.blt pc 92 then (bif Nat.beq pc 90 then some (.aload 4, 2) else none) else
       (bif Nat.blt pc 94 then (bif Nat.beq pc 92 then some (.iload 5, 2) else none) else
        (bif Nat.beq pc 94 then some (.iconst 0, 1) else none)))) else
     (bif Nat.blt pc 100 then (bif Nat.blt pc 96 then (bif Nat.beq pc 95 then some (.iastore, 1) else none) else
       (bif Nat.blt pc 98 then (bif Nat.beq pc 96 then some (.aload 4, 2) else none) else
        (bif Nat.beq pc 98 then some (.iload 5, 2) else none))) else
      (bif Nat.blt pc 101 then (bif Nat.beq pc 100 then some (.iconst 1, 1) else none) else
       (bif Nat.blt pc 102 then (bif Nat.beq pc 101 then some (.iadd, 1) else none) else
        (bif Nat.beq pc 102 then some (.iconst 0, 1) else none))))) else
    (bif Nat.blt pc 114 then (bif Nat.blt pc 107 then (bif Nat.blt pc 104 then (bif Nat.beq pc 103 then some (.iastore, 1) else none) else
       (bif Nat.beq pc 104 then some (.iinc 5 2, 3) else none)) else
      (bif Nat.blt pc 110 then (bif Nat.beq pc 107 then some (.iinc 6 (-1), 3) else none) else
       (bif Nat.blt pc 113 then (bif Nat.beq pc 110 then some (.goto (-85), 3) else none) else
        (bif Nat.beq pc 113 then some (.aload_n 3, 1) else none)))) else
     (bif Nat.blt pc 119 then (bif Nat.blt pc 117 then (bif Nat.beq pc 114 then some (.invokestatic 62, 3) else none) else
       (bif Nat.blt pc 118 then (bif Nat.beq pc 117 then some (.iconst 2, 1) else none) else
        (bif Nat.beq pc 118 then some (.irem, 1) else none))) else
      (bif Nat.blt pc 122 then (bif Nat.beq pc 119 then some (.ifCond .ne 22, 3) else none) else
       (bif Nat.blt pc 123 then (bif Nat.beq pc 122 then some (.aload_n 0, 1) else none) else
        (bif Nat.beq pc 123 then some (.bipush 32, 2) else none)))))) else
   (bif Nat.blt pc 147 then (bif Nat.blt pc 134 then (bif Nat.blt pc 129 then (bif Nat.blt pc 128 then (bif Nat.beq pc 125 then some (.invokevirtual 78, 3) else none) else
       (bif Nat.beq pc 128 then some (.aload_n 3, 1) else none)) else
      (bif Nat.blt pc 132 then (bif Nat.beq pc 129 then some (.invokestatic 62, 3) else none) else
       (bif Nat.blt pc 133 then (bif Nat.beq pc 132 then some (.iconst 4, 1) else none) else
        (bif Nat.beq pc 133 then some (.irem, 1) else none)))) else
     (bif Nat.blt pc 141 then (bif Nat.blt pc 137 then (bif Nat.beq pc 134 then some (.invokevirtual 81, 3) else none) else
       (bif Nat.blt pc 138 then (bif Nat.beq pc 137 then some (.pop, 1) else none) else
        (bif Nat.beq pc 138 then some (.goto (-113), 3) else none))) else
      (bif Nat.blt pc 142 then (bif Nat.beq pc 141 then some (.aload_n 0, 1) else none) else
       (bif Nat.blt pc 144 then (bif Nat.beq pc 142 then some (.bipush 32, 2) else none) else
        (bif Nat.beq pc 144 then some (.invokevirtual 78, 3) else none))))) else
    (bif Nat.blt pc 156 then (bif Nat.blt pc 153 then (bif Nat.blt pc 149 then (bif Nat.beq pc 147 then some (.bipush 97, 2) else none) else
       (bif Nat.blt pc 150 then (bif Nat.beq pc 149 then some (.aload_n 3, 1) else none) else
        (bif Nat.beq pc 150 then some (.invokestatic 62, 3) else none))) else
      (bif Nat.blt pc 154 then (bif Nat.beq pc 153 then some (.iconst 3, 1) else none) else
       (bif Nat.blt pc 155 then (bif Nat.beq pc 154 then some (.irem, 1) else none) else
        (bif Nat.beq pc 155 then some (.iadd, 1) else none)))) else
     (bif Nat.blt pc 161 then (bif Nat.blt pc 157 then (bif Nat.beq pc 156 then some (.i2c, 1) else none) else
       (bif Nat.blt pc 160 then (bif Nat.beq pc 157 then some (.invokevirtual 78, 3) else none) else
        (bif Nat.beq pc 160 then some (.pop, 1) else none))) else
      (bif Nat.blt pc 164 then (bif Nat.beq pc 161 then some (.goto (-136), 3) else none) else
       (bif Nat.blt pc 166 then (bif Nat.beq pc 164 then some (.iload 6, 2) else none) else
        (bif Nat.beq pc 166 then some (.ifCond .le 94, 3) else none)))))))) else
 (bif Nat.blt pc 251 then (bif Nat.blt pc 210 then (bif Nat.blt pc 188 then (bif Nat.blt pc 178 then (bif Nat.blt pc 173 then (bif Nat.blt pc 170 then (bif Nat.beq pc 169 then some (.aload_n 3, 1) else none) else
       (bif Nat.beq pc 170 then some (.invokestatic 62, 3) else none)) else
      (bif Nat.blt pc 174 then (bif Nat.beq pc 173 then some (.iconst 3, 1) else none) else
       (bif Nat.blt pc 175 then (bif Nat.beq pc 174 then some (.irem, 1) else none) else
        (bif Nat.beq pc 175 then some (.ifCond .ne 85, 3) else none)))) else
     (bif Nat.blt pc 183 then (bif Nat.blt pc 179 then (bif Nat.beq pc 178 then some (.aload_n 3, 1) else none) else
       (bif Nat.blt pc 182 then (bif Nat.beq pc 179 then some (.invokestatic 62, 3) else none) else
        (bif Nat.beq pc 182 then some (.iconst 3, 1) else none))) else
      (bif Nat.blt pc 184 then (bif Nat.beq pc 183 then some (.irem, 1) else none) else
       (bif Nat.blt pc 187 then (bif Nat.beq pc 184 then some (.ifCond .ne 7, 3) else none) else
        (bif Nat.beq pc 187 then some (.iconst 1, 1) else none))))) else
    (bif Nat.blt pc 197 then (bif Nat.blt pc 192 then (bif Nat.blt pc 191 then (bif Nat.beq pc 188 then some (.goto 4, 3) else none) else
       (bif Nat.beq pc 191 then some (.iconst 0, 1) else none)) else
      (bif Nat.blt pc 194 then (bif Nat.beq pc 192 then some (.istore 7, 2) else none) else
       (bif Nat.blt pc 195 then (bif Nat.beq pc 194 then some (.aload_n 0, 1) else none) else
        (bif Nat.beq pc 195 then some (.iload 7, 2) else none)))) else
     (bif Nat.blt pc 205 then (bif Nat.blt pc 200 then (bif Nat.beq pc 197 then some (.ifCond .eq 8, 3) else none) else
       (bif Nat.blt pc 202 then (bif Nat.beq pc 200 then some (.ldc 84, 2) else none) else
        (bif Nat.beq pc 202 then some (.goto 19, 3) else none))) else
      (bif Nat.blt pc 206 then (bif Nat.beq pc 205 then some (.aload_n 3, 1) else none) else
       (bif Nat.blt pc 209 then (bif Nat.beq pc 206 then some (.invokestatic 62, 3) else none) else
        (bif Nat.beq pc 209 then some (.iconst 2, 1) else none)))))) else
   (bif Nat.blt pc 231 then (bif Nat.blt pc 221 then (bif Nat.blt pc 214 then (bif Nat.blt pc 211 then (bif Nat.beq pc 210 then some (.irem, 1) else none) else
       (bif Nat.beq pc 211 then some (.ifCond .ne 8, 3) else none)) else
      (bif Nat.blt pc 216 then (bif Nat.beq pc 214 then some (.ldc 86, 2) else none) else
       (bif Nat.blt pc 219 then (bif Nat.beq pc 216 then some (.goto 5, 3) else none) else
        (bif Nat.beq pc 219 then some (.ldc 88, 2) else none)))) else
     (bif Nat.blt pc 227 then (bif Nat.blt pc 224 then (bif Nat.beq pc 221 then some (.invokevirtual 72, 3) else none) else
       (bif Nat.blt pc 225 then (bif Nat.beq pc 224 then some (.pop, 1) else none) else
        (bif Nat.beq pc 225 then some (.aload 4, 2) else none))) else
      (bif Nat.blt pc 229 then (bif Nat.beq pc 227 then some (.iload 5, 2) else none) else
       (bif Nat.blt pc 230 then (bif Nat.beq pc 229 then some (.iconst 1, 1) else none) else
        (bif Nat.beq pc 230 then some (.iastore, 1) else none))))) else
    (bif Nat.blt pc 239 then (bif Nat.blt pc 236 then (bif Nat.blt pc 233 then (bif Nat.beq pc 231 then some (.aload 4, 2) else none) else
       (bif Nat.blt pc 235 then (bif Nat.beq pc 233 then some (.iload 5, 2) else none) else
        (bif Nat.beq pc 235 then some (.iconst 1, 1) else none))) else
      (bif Nat.blt pc 237 then (bif Nat.beq pc 236 then some (.iadd, 1) else none) else
       (bif Nat.blt pc 238 then (bif Nat.beq pc 237 then some (.iconst 1, 1) else none) else
        (bif Nat.beq pc 238 then some (.iastore, 1) else none)))) else
     (bif Nat.blt pc 246 then (bif Nat.blt pc 241 then (bif Nat.beq pc 239 then some (.iload 5, 2) else none) else
       (bif Nat.blt pc 243 then (bif Nat.beq pc 241 then some (.iload 7, 2) else none) else
        (bif Nat.beq pc 243 then some (.ifCond .eq 7, 3) else none))) else
      (bif Nat.blt pc 247 then (bif Nat.beq pc 246 then some (.iconst 1, 1) else none) else
       (bif Nat.blt pc 250 then (bif Nat.beq pc 247 then some (.goto 4, 3) else none) else
        (bif Nat.beq pc 250 then some (.iconst 2, 1) else none))))))) else
  (bif Nat.blt pc 295 then (bif Nat.blt pc 272 then (bif Nat.blt pc 261 then (bif Nat.blt pc 254 then (bif Nat.blt pc 252 then (bif Nat.beq pc 251 then some (.iadd, 1) else none) else
       (bif Nat.beq pc 252 then some (.istore 5, 2) else none)) else
      (bif Nat.blt pc 257 then (bif Nat.beq pc 254 then some (.iinc 6 (-1), 3) else none) else
       (bif Nat.blt pc 260 then (bif Nat.beq pc 257 then some (.goto (-232), 3) else none) else
        (bif Nat.beq pc 260 then some (.aload_n 3, 1) else none)))) else
     (bif Nat.blt pc 267 then (bif Nat.blt pc 264 then (bif Nat.beq pc 261 then some (.invokestatic 62, 3) else none) else
       (bif Nat.blt pc 266 then (bif Nat.beq pc 264 then some (.bipush 8, 2) else none) else
        (bif Nat.beq pc 266 then some (.irem, 1) else none))) else
      (bif Nat.blt pc 270 then (bif Nat.beq pc 267 then some (.ifCond .ne 27, 3) else none) else
       (bif Nat.blt pc 271 then (bif Nat.beq pc 270 then some (.aload_n 0, 1) else none) else
        (bif Nat.beq pc 271 then some (.aload_n 3, 1) else none))))) else
    (bif Nat.blt pc 282 then (bif Nat.blt pc 276 then (bif Nat.blt pc 275 then (bif Nat.beq pc 272 then some (.invokestatic 62, 3) else none) else
       (bif Nat.beq pc 275 then some (.iconst 3, 1) else none)) else
      (bif Nat.blt pc 277 then (bif Nat.beq pc 276 then some (.irem, 1) else none) else
       (bif Nat.blt pc 280 then (bif Nat.beq pc 277 then some (.ifCond .le 8, 3) else none) else
        (bif Nat.beq pc 280 then some (.ldc 90, 2) else none)))) else
     (bif Nat.blt pc 290 then (bif Nat.blt pc 285 then (bif Nat.beq pc 282 then some (.goto 5, 3) else none) else
       (bif Nat.blt pc 287 then (bif Nat.beq pc 285 then some (.ldc 92, 2) else none) else
        (bif Nat.beq pc 287 then some (.invokevirtual 72, 3) else none))) else
      (bif Nat.blt pc 291 then (bif Nat.beq pc 290 then some (.pop, 1) else none) else
       (bif Nat.blt pc 294 then (bif Nat.beq pc 291 then some (.goto (-266), 3) else none) else
        (bif Nat.beq pc 294 then some (.aload_n 0, 1) else none)))))) else
   (bif Nat.blt pc 317 then (bif Nat.blt pc 304 then (bif Nat.blt pc 299 then (bif Nat.blt pc 296 then (bif Nat.beq pc 295 then some (.aload_n 3, 1) else none) else
       (bif Nat.beq pc 296 then some (.invokestatic 62, 3) else none)) else
      (bif Nat.blt pc 300 then (bif Nat.beq pc 299 then some (.iconst 2, 1) else none) else
       (bif Nat.blt pc 301 then (bif Nat.beq pc 300 then some (.irem, 1) else none) else
        (bif Nat.beq pc 301 then some (.ifCond .ne 8, 3) else none)))) else
     (bif Nat.blt pc 311 then (bif Nat.blt pc 306 then (bif Nat.beq pc 304 then some (.ldc 94, 2) else none) else
       (bif Nat.blt pc 309 then (bif Nat.beq pc 306 then some (.goto 5, 3) else none) else
        (bif Nat.beq pc 309 then some (.ldc 96, 2) else none))) else
      (bif Nat.blt pc 314 then (bif Nat.beq pc 311 then some (.invokevirtual 72, 3) else none) else
       (bif Nat.blt pc 315 then (bif Nat.beq pc 314 then some (.pop, 1) else none) else
        (bif Nat.beq pc 315 then some (.aload 4, 2) else none))))) else
    (bif Nat.blt pc 326 then (bif Nat.blt pc 321 then (bif Nat.blt pc 319 then (bif Nat.beq pc 317 then some (.iload 5, 2) else none) else
       (bif Nat.blt pc 320 then (bif Nat.beq pc 319 then some (.iconst 0, 1) else none) else
        (bif Nat.beq pc 320 then some (.iastore, 1) else none))) else
      (bif Nat.blt pc 323 then (bif Nat.beq pc 321 then some (.aload 4, 2) else none) else
       (bif Nat.blt pc 325 then (bif Nat.beq pc 323 then some (.iload 5, 2) else none) else
        (bif Nat.beq pc 325 then some (.iconst 1, 1) else none)))) else
     (bif Nat.blt pc 329 then (bif Nat.blt pc 327 then (bif Nat.beq pc 326 then some (.iadd, 1) else none) else
       (bif Nat.blt pc 328 then (bif Nat.beq pc 327 then some (.iconst 0, 1) else none) else
        (bif Nat.beq pc 328 then some (.iastore, 1) else none))) else
      (bif Nat.blt pc 332 then (bif Nat.beq pc 329 then some (.iinc 5 2, 3) else none) else
       (bif Nat.blt pc 335 then (bif Nat.beq pc 332 then some (.goto (-307), 3) else none) else
        (bif Nat.beq pc 335 then some (.return_, 1) else none))))))))) else none
set_option maxRecDepth 10000 in
noncomputable def zc_217 (pc : Nat) : Option (Instr × Nat) :=
 bif Nat.blt pc 123 then (bif Nat.blt pc 60 then (bif Nat.blt pc 35 then (bif Nat.blt pc 15 then (bif Nat.blt pc 8 then (bif Nat.blt pc 4 then (bif Nat.blt pc 3 then (bif Nat.beq pc 0 then some (.ldc2_w 133, 3) else none) else
      (bif Nat.beq pc 3 then some (.aload_n 0, 1) else none)) else
     (bif Nat.blt pc 7 then (bif Nat.beq pc 4 then some (.invokevirtual 135, 3) else none) else
      (bif Nat.beq pc 7 then some (.lmul, 1) else none))) else
    (bif Nat.blt pc 12 then (bif Nat.blt pc 9 then (bif Nat.beq pc 8 then some (.aload_n 0, 1) else none) else
      (bif Nat.beq pc 9 then some (.invokevirtual 139, 3) else none)) else
     (bif Nat.blt pc 13 then (bif Nat.beq pc 12 then some (.ladd, 1) else none) else
      (bif Nat.blt pc 14 then (bif Nat.beq pc 13 then some (.lstore_n 1, 1) else none) else
       (bif Nat.beq pc 14 then some (.iconst 0, 1) else none))))) else
   (bif Nat.blt pc 22 then (bif Nat.blt pc 17 then (bif Nat.blt pc 16 then (bif Nat.beq pc 15 then some (.istore_n 3, 1) else none) else
      (bif Nat.beq pc 16 then some (.iload_n 3, 1) else none)) else
     (bif Nat.blt pc 18 then (bif Nat.beq pc 17 then some (.aload_n 0, 1) else none) else
      (bif Nat.blt pc 19 then (bif Nat.beq pc 18 then some (.iconst 0, 1) else none) else
       (bif Nat.beq pc 19 then some (.invokevirtual 142, 3) else none)))) else
    (bif Nat.blt pc 28 then (bif Nat.blt pc 25 then (bif Nat.beq pc 22 then some (.if_icmp .ge 45, 3) else none) else
      (bif Nat.beq pc 25 then some (.ldc2_w 133, 3) else none)) else
     (bif Nat.blt pc 31 then (bif Nat.beq pc 28 then some (.ldc2_w 133, 3) else none) else
      (bif Nat.blt pc 34 then (bif Nat.beq pc 31 then some (.ldc2_w 133, 3) else none) else
       (bif Nat.beq pc 34 then some (.lload_n 1, 1) else none)))))) else
  (bif Nat.blt pc 46 then (bif Nat.blt pc 39 then (bif Nat.blt pc 37 then (bif Nat.blt pc 36 then (bif Nat.beq pc 35 then some (.lmul, 1) else none) else
      (bif Nat.beq pc 36 then some (.aload_n 0, 1) else none)) else
     (bif Nat.blt pc 38 then (bif Nat.beq pc 37 then some (.iload_n 3, 1) else none) else
      (bif Nat.beq pc 38 then some (.iconst 1, 1) else none))) else
    (bif Nat.blt pc 43 then (bif Nat.blt pc 42 then (bif Nat.beq pc 39 then some (.invokevirtual 145, 3) else none) else
      (bif Nat.beq pc 42 then some (.i2l, 1) else none)) else
     (bif Nat.blt pc 44 then (bif Nat.beq pc 43 then some (.ladd, 1) else none) else
      (bif Nat.blt pc 45 then (bif Nat.beq pc 44 then some (.lmul, 1) else none) else
       (bif Nat.beq pc 45 then some (.aload_n 0, 1) else none))))) else
   (bif Nat.blt pc 53 then (bif Nat.blt pc 48 then (bif Nat.blt pc 47 then (bif Nat.beq pc 46 then some (.iload_n 3, 1) else none) else
      (bif Nat.beq pc 47 then some (.iconst 5, 1) else none)) else
     (bif Nat.blt pc 51 then (bif Nat.beq pc 48 then some (.invokevirtual 145, 3) else none) else
      (bif Nat.blt pc 52 then (bif Nat.beq pc 51 then some (.i2l, 1) else none) else
       (bif Nat.beq pc 52 then some (.ladd, 1) else none)))) else
    (bif Nat.blt pc 55 then (bif Nat.blt pc 54 then (bif Nat.beq pc 53 then some (.lmul, 1) else none) else
      (bif Nat.beq pc 54 then some (.aload_n 0, 1) else none)) else
     (bif Nat.blt pc 56 then (bif Nat.beq pc 55 then some (.iload_n 3, 1) else none) else
      (bif Nat.blt pc 59 then (bif Nat.beq pc 56 then some (.invokevirtual 148, 3) else none) else
       (bif Nat.beq pc 59 then some (.ladd, 1) else none))))))) else
 (bif Nat.blt pc 93 then (bif Nat.blt pc 75 then (bif Nat.blt pc 68 then (bif Nat.blt pc 64 then (bif Nat.blt pc 61 then (bif Nat.beq pc 60 then some (.lstore_n 1, 1) else none) else
      (bif Nat.beq pc 61 then some (.iinc 3 1, 3) else none)) else
     (bif Nat.blt pc 67 then (bif Nat.beq pc 64 then some (.goto (-48), 3) else none) else
      (bif Nat.beq pc 67 then some (.iconst 0, 1) else none))) else
    (bif Nat.blt pc 70 then (bif Nat.blt pc 69 then (bif Nat.beq pc 68 then some (.istore_n 3, 1) else none) else
      (bif Nat.beq pc 69 then some (.iload_n 3, 1) else none)) else
     (bif Nat.blt pc 71 then (bif Nat.beq pc 70 then some (.aload_n 0, 1) else none) else
      (bif Nat.blt pc 72 then (bif Nat.beq pc 71 then some (.iconst 1, 1) else none) else
       (bif Nat.beq pc 72 then some (.invokevirtual 142, 3) else none))))) else
   (bif Nat.blt pc 86 then (bif Nat.blt pc 81 then (bif Nat.blt pc 78 then (bif Nat.beq pc 75 then some (.if_icmp .ge 46, 3) else none) else
      (bif Nat.beq pc 78 then some (.ldc2_w 133, 3) else none)) else
     (bif Nat.blt pc 84 then (bif Nat.beq pc 81 then some (.ldc2_w 133, 3) else none) else
      (bif Nat.blt pc 85 then (bif Nat.beq pc 84 then some (.lload_n 1, 1) else none) else
       (bif Nat.beq pc 85 then some (.lmul, 1) else none)))) else
    (bif Nat.blt pc 88 then (bif Nat.blt pc 87 then (bif Nat.beq pc 86 then some (.aload_n 0, 1) else none) else
      (bif Nat.beq pc 87 then some (.iload_n 3, 1) else none)) else
     (bif Nat.blt pc 89 then (bif Nat.beq pc 88 then some (.iconst 1, 1) else none) else
      (bif Nat.blt pc 92 then (bif Nat.beq pc 89 then some (.invokevirtual 152, 3) else none) else
       (bif Nat.beq pc 92 then some (.ladd, 1) else none)))))) else
  (bif Nat.blt pc 106 then (bif Nat.blt pc 101 then (bif Nat.blt pc 95 then (bif Nat.blt pc 94 then (bif Nat.beq pc 93 then some (.lmul, 1) else none) else
      (bif Nat.beq pc 94 then some (.aload_n 0, 1) else none)) else
     (bif Nat.blt pc 96 then (bif Nat.beq pc 95 then some (.iload_n 3, 1) else none) else
      (bif Nat.blt pc 98 then (bif Nat.beq pc 96 then some (.bipush 27, 2) else none) else
       (bif Nat.beq pc 98 then some (.invokevirtual 156, 3) else none)))) else
    (bif Nat.blt pc 103 then (bif Nat.blt pc 102 then (bif Nat.beq pc 101 then some (.iconst 4, 1) else none) else
      (bif Nat.beq pc 102 then some (.imul, 1) else none)) else
     (bif Nat.blt pc 104 then (bif Nat.beq pc 103 then some (.i2l, 1) else none) else
      (bif Nat.blt pc 105 then (bif Nat.beq pc 104 then some (.ladd, 1) else none) else
       (bif Nat.beq pc 105 then some (.aload_n 0, 1) else none))))) else
   (bif Nat.blt pc 114 then (bif Nat.blt pc 109 then (bif Nat.blt pc 107 then (bif Nat.beq pc 106 then some (.iload_n 3, 1) else none) else
      (bif Nat.beq pc 107 then some (.bipush 9, 2) else none)) else
     (bif Nat.blt pc 112 then (bif Nat.beq pc 109 then some (.invokevirtual 156, 3) else none) else
      (bif Nat.blt pc 113 then (bif Nat.beq pc 112 then some (.i2l, 1) else none) else
       (bif Nat.beq pc 113 then some (.ladd, 1) else none)))) else
    (bif Nat.blt pc 118 then (bif Nat.blt pc 115 then (bif Nat.beq pc 114 then some (.lstore_n 1, 1) else none) else
      (bif Nat.beq pc 115 then some (.iinc 3 1, 3) else none)) else
     (bif Nat.blt pc 121 then (bif Nat.beq pc 118 then some (.goto (-49), 3) else none) else
      (bif Nat.blt pc 122 then (bif Nat.beq pc 121 then some (.lload_n 1, 1) else none) else
       (bif Nat.beq pc 122 then some (.lreturn, 1) else none)))))))) else none
set_option maxRecDepth 10000 in
noncomputable def zc_218 (pc : Nat) : Option (Instr × Nat) :=
 bif Nat.blt pc 788 then (bif Nat.blt pc 368 then (bif Nat.blt pc 179 then (bif Nat.blt pc 81 then (bif Nat.blt pc 36 then (bif Nat.blt pc 14 then (bif Nat.blt pc 8 then (bif Nat.blt pc 5 then (bif Nat.blt pc 1 then (bif Nat.beq pc 0 then some (.aload_n 0, 1) else none) else
        (bif Nat.blt pc 2 then (bif Nat.beq pc 1 then some (.iconst 4, 1) else none) else
         (bif Nat.beq pc 2 then some (.invokevirtual 142, 3) else none))) else
       (bif Nat.blt pc 6 then (bif Nat.beq pc 5 then some (.istore_n 1, 1) else none) else
        (bif Nat.blt pc 7 then (bif Nat.beq pc 6 then some (.iconst 0, 1) else none) else
         (bif Nat.beq pc 7 then some (.istore_n 2, 1) else none)))) else
      (bif Nat.blt pc 11 then (bif Nat.blt pc 9 then (bif Nat.beq pc 8 then some (.iconst (-1), 1) else none) else
        (bif Nat.blt pc 10 then (bif Nat.beq pc 9 then some (.istore_n 3, 1) else none) else
         (bif Nat.beq pc 10 then some (.iload_n 1, 1) else none))) else
       (bif Nat.blt pc 12 then (bif Nat.beq pc 11 then some (.iconst 1, 1) else none) else
        (bif Nat.blt pc 13 then (bif Nat.beq pc 12 then some (.iconst 3, 1) else none) else
         (bif Nat.beq pc 13 then some (.aload_n 0, 1) else none))))) else
     (bif Nat.blt pc 24 then (bif Nat.blt pc 19 then (bif Nat.blt pc 15 then (bif Nat.beq pc 14 then some (.iconst 1, 1) else none) else
        (bif Nat.blt pc 18 then (bif Nat.beq pc 15 then some (.invokevirtual 142, 3) else none) else
         (bif Nat.beq pc 18 then some (.imul, 1) else none))) else
       (bif Nat.blt pc 20 then (bif Nat.beq pc 19 then some (.iadd, 1) else none) else
        (bif Nat.blt pc 23 then (bif Nat.beq pc 20 then some (.if_icmp .ne 7, 3) else none) else
         (bif Nat.beq pc 23 then some (.iconst 1, 1) else none)))) else
      (bif Nat.blt pc 30 then (bif Nat.blt pc 27 then (bif Nat.beq pc 24 then some (.goto 4, 3) else none) else
        (bif Nat.blt pc 28 then (bif Nat.beq pc 27 then some (.iconst 0, 1) else none) else
         (bif Nat.beq pc 28 then some (.istore 4, 2) else none))) else
       (bif Nat.blt pc 33 then (bif Nat.blt pc 31 then (bif Nat.beq pc 30 then some (.iconst 0, 1) else none) else
         (bif Nat.beq pc 31 then some (.istore 5, 2) else none)) else
        (bif Nat.blt pc 35 then (bif Nat.beq pc 33 then some (.iload 5, 2) else none) else
         (bif Nat.beq pc 35 then some (.iload_n 1, 1) else none)))))) else
    (bif Nat.blt pc 61 then (bif Nat.blt pc 50 then (bif Nat.blt pc 44 then (bif Nat.blt pc 39 then (bif Nat.beq pc 36 then some (.if_icmp .ge 209, 3) else none) else
        (bif Nat.blt pc 41 then (bif Nat.beq pc 39 then some (.iload 4, 2) else none) else
         (bif Nat.beq pc 41 then some (.ifCond .eq 204, 3) else none))) else
       (bif Nat.blt pc 45 then (bif Nat.beq pc 44 then some (.aload_n 0, 1) else none) else
        (bif Nat.blt pc 47 then (bif Nat.beq pc 45 then some (.iload 5, 2) else none) else
         (bif Nat.beq pc 47 then some (.invokevirtual 159, 3) else none)))) else
      (bif Nat.blt pc 55 then (bif Nat.blt pc 52 then (bif Nat.beq pc 50 then some (.lstore 6, 2) else none) else
        (bif Nat.blt pc 53 then (bif Nat.beq pc 52 then some (.aload_n 0, 1) else none) else
         (bif Nat.beq pc 53 then some (.iload 5, 2) else none))) else
       (bif Nat.blt pc 56 then (bif Nat.beq pc 55 then some (.iconst 0, 1) else none) else
        (bif Nat.blt pc 59 then (bif Nat.beq pc 56 then some (.invokevirtual 162, 3) else none) else
         (bif Nat.beq pc 59 then some (.istore 8, 2) else none))))) else
     (bif Nat.blt pc 72 then (bif Nat.blt pc 65 then (bif Nat.blt pc 62 then (bif Nat.beq pc 61 then some (.aload_n 0, 1) else none) else
        (bif Nat.blt pc 64 then (bif Nat.beq pc 62 then some (.iload 5, 2) else none) else
         (bif Nat.beq pc 64 then some (.iconst 1, 1) else none))) else
       (bif Nat.blt pc 68 then (bif Nat.beq pc 65 then some (.invokevirtual 162, 3) else none) else
        (bif Nat.blt pc 70 then (bif Nat.beq pc 68 then some (.istore 9, 2) else none) else
         (bif Nat.beq pc 70 then some (.iload 5, 2) else none)))) else
      (bif Nat.blt pc 75 then (bif Nat.blt pc 73 then (bif Nat.beq pc 72 then some (.iconst 1, 1) else none) else
        (bif Nat.blt pc 74 then (bif Nat.beq pc 73 then some (.isub, 1) else none) else
         (bif Nat.beq pc 74 then some (.iconst 3, 1) else none))) else
       (bif Nat.blt pc 78 then (bif Nat.blt pc 76 then (bif Nat.beq pc 75 then some (.idiv, 1) else none) else
         (bif Nat.beq pc 76 then some (.istore 10, 2) else none)) else
        (bif Nat.blt pc 79 then (bif Nat.beq pc 78 then some (.iload_n 2, 1) else none) else
         (bif Nat.beq pc 79 then some (.lload 6, 2) else none))))))) else
   (bif Nat.blt pc 126 then (bif Nat.blt pc 100 then (bif Nat.blt pc 91 then (bif Nat.blt pc 86 then (bif Nat.blt pc 82 then (bif Nat.beq pc 81 then some (.lconst 0, 1) else none) else
        (bif Nat.blt pc 83 then (bif Nat.beq pc 82 then some (.lcmp, 1) else none) else
         (bif Nat.beq pc 83 then some (.ifCond .ne 7, 3) else none))) else
       (bif Nat.blt pc 87 then (bif Nat.beq pc 86 then some (.iconst 0, 1) else none) else
        (bif Nat.blt pc 90 then (bif Nat.beq pc 87 then some (.goto 4, 3) else none) else
         (bif Nat.beq pc 90 then some (.iconst 1, 1) else none)))) else
      (bif Nat.blt pc 95 then (bif Nat.blt pc 92 then (bif Nat.beq pc 91 then some (.iadd, 1) else none) else
        (bif Nat.blt pc 93 then (bif Nat.beq pc 92 then some (.istore_n 2, 1) else none) else
         (bif Nat.beq pc 93 then some (.lload 6, 2) else none))) else
       (bif Nat.blt pc 96 then (bif Nat.beq pc 95 then some (.lconst 0, 1) else none) else
        (bif Nat.blt pc 97 then (bif Nat.beq pc 96 then some (.lcmp, 1) else none) else
         (bif Nat.beq pc 97 then some (.ifCond .eq 12, 3) else none))))) else
     (bif Nat.blt pc 111 then (bif Nat.blt pc 106 then (bif Nat.blt pc 101 then (bif Nat.beq pc 100 then some (.iload_n 3, 1) else none) else
        (bif Nat.blt pc 104 then (bif Nat.beq pc 101 then some (.ifCond .ge 8, 3) else none) else
         (bif Nat.beq pc 104 then some (.iload 5, 2) else none))) else
       (bif Nat.blt pc 109 then (bif Nat.beq pc 106 then some (.goto 4, 3) else none) else
        (bif Nat.blt pc 110 then (bif Nat.beq pc 109 then some (.iload_n 3, 1) else none) else
         (bif Nat.beq pc 110 then some (.istore_n 3, 1) else none)))) else
      (bif Nat.blt pc 115 then (bif Nat.blt pc 112 then (bif Nat.beq pc 111 then some (.aload_n 0, 1) else none) else
        (bif Nat.blt pc 114 then (bif Nat.beq pc 112 then some (.iload 5, 2) else none) else
         (bif Nat.beq pc 114 then some (.iconst 2, 1) else none))) else
       (bif Nat.blt pc 120 then (bif Nat.blt pc 118 then (bif Nat.beq pc 115 then some (.invokevirtual 162, 3) else none) else
         (bif Nat.beq pc 118 then some (.lload 6, 2) else none)) else
        (bif Nat.blt pc 123 then (bif Nat.beq pc 120 then some (.invokestatic 165, 3) else none) else
         (bif Nat.beq pc 123 then some (.if_icmp .ne 113, 3) else none)))))) else
    (bif Nat.blt pc 152 then (bif Nat.blt pc 136 then (bif Nat.blt pc 130 then (bif Nat.blt pc 127 then (bif Nat.beq pc 126 then some (.aload_n 0, 1) else none) else
        (bif Nat.blt pc 129 then (bif Nat.beq pc 127 then some (.iload 5, 2) else none) else
         (bif Nat.beq pc 129 then some (.iconst 3, 1) else none))) else
       (bif Nat.blt pc 133 then (bif Nat.beq pc 130 then some (.invokevirtual 162, 3) else none) else
        (bif Nat.blt pc 135 then (bif Nat.beq pc 133 then some (.lload 6, 2) else none) else
         (bif Nat.beq pc 135 then some (.lconst 0, 1) else none)))) else
      (bif Nat.blt pc 141 then (bif Nat.blt pc 137 then (bif Nat.beq pc 136 then some (.lcmp, 1) else none) else
        (bif Nat.blt pc 140 then (bif Nat.beq pc 137 then some (.ifCond .ne 7, 3) else none) else
         (bif Nat.beq pc 140 then some (.iconst (-1), 1) else none))) else
       (bif Nat.blt pc 146 then (bif Nat.blt pc 144 then (bif Nat.beq pc 141 then some (.goto 8, 3) else none) else
         (bif Nat.beq pc 144 then some (.lload 6, 2) else none)) else
        (bif Nat.blt pc 149 then (bif Nat.beq pc 146 then some (.invokestatic 171, 3) else none) else
         (bif Nat.beq pc 149 then some (.if_icmp .ne 87, 3) else none))))) else
     (bif Nat.blt pc 165 then (bif Nat.blt pc 159 then (bif Nat.blt pc 154 then (bif Nat.beq pc 152 then some (.iload 5, 2) else none) else
        (bif Nat.blt pc 157 then (bif Nat.beq pc 154 then some (.ifCond .ne 33, 3) else none) else
         (bif Nat.beq pc 157 then some (.iload 8, 2) else none))) else
       (bif Nat.blt pc 162 then (bif Nat.beq pc 159 then some (.ifCond .ne 77, 3) else none) else
        (bif Nat.blt pc 164 then (bif Nat.beq pc 162 then some (.iload 9, 2) else none) else
         (bif Nat.beq pc 164 then some (.iconst (-1), 1) else none)))) else
      (bif Nat.blt pc 171 then (bif Nat.blt pc 168 then (bif Nat.beq pc 165 then some (.if_icmp .ne 71, 3) else none) else
        (bif Nat.blt pc 170 then (bif Nat.beq pc 168 then some (.lload 6, 2) else none) else
         (bif Nat.beq pc 170 then some (.aload_n 0, 1) else none))) else
       (bif Nat.blt pc 177 then (bif Nat.blt pc 174 then (bif Nat.beq pc 171 then some (.invokevirtual 135, 3) else none) else
         (bif Nat.beq pc 174 then some (.ldc2_w 174, 3) else none)) else
        (bif Nat.blt pc 178 then (bif Nat.beq pc 177 then some (.lxor, 1) else none) else
         (bif Nat.beq pc 178 then some (.land, 1) else none)))))))) else
  (bif Nat.blt pc 272 then (bif Nat.blt pc 225 then (bif Nat.blt pc 197 then (bif Nat.blt pc 190 then (bif Nat.blt pc 184 then (bif Nat.blt pc 180 then (bif Nat.beq pc 179 then some (.lconst 0, 1) else none) else
        (bif Nat.blt pc 181 then (bif Nat.beq pc 180 then some (.lcmp, 1) else none) else
         (bif Nat.beq pc 181 then some (.ifCond .ne 55, 3) else none))) else
       (bif Nat.blt pc 187 then (bif Nat.beq pc 184 then some (.goto 48, 3) else none) else
        (bif Nat.blt pc 189 then (bif Nat.beq pc 187 then some (.iload 8, 2) else none) else
         (bif Nat.beq pc 189 then some (.iconst 1, 1) else none)))) else
      (bif Nat.blt pc 194 then (bif Nat.blt pc 192 then (bif Nat.beq pc 190 then some (.iload 5, 2) else none) else
        (bif Nat.blt pc 193 then (bif Nat.beq pc 192 then some (.iconst 1, 1) else none) else
         (bif Nat.beq pc 193 then some (.isub, 1) else none))) else
       (bif Nat.blt pc 195 then (bif Nat.beq pc 194 then some (.iconst 3, 1) else none) else
        (bif Nat.blt pc 196 then (bif Nat.beq pc 195 then some (.irem, 1) else none) else
         (bif Nat.beq pc 196 then some (.iadd, 1) else none))))) else
     (bif Nat.blt pc 210 then (bif Nat.blt pc 203 then (bif Nat.blt pc 200 then (bif Nat.beq pc 197 then some (.if_icmp .ne 39, 3) else none) else
        (bif Nat.blt pc 201 then (bif Nat.beq pc 200 then some (.aload_n 0, 1) else none) else
         (bif Nat.beq pc 201 then some (.iload 9, 2) else none))) else
       (bif Nat.blt pc 205 then (bif Nat.beq pc 203 then some (.bipush 7, 2) else none) else
        (bif Nat.blt pc 208 then (bif Nat.beq pc 205 then some (.invokevirtual 145, 3) else none) else
         (bif Nat.beq pc 208 then some (.iload 10, 2) else none)))) else
      (bif Nat.blt pc 216 then (bif Nat.blt pc 213 then (bif Nat.beq pc 210 then some (.if_icmp .ne 26, 3) else none) else
        (bif Nat.blt pc 215 then (bif Nat.beq pc 213 then some (.lload 6, 2) else none) else
         (bif Nat.beq pc 215 then some (.aload_n 0, 1) else none))) else
       (bif Nat.blt pc 219 then (bif Nat.blt pc 218 then (bif Nat.beq pc 216 then some (.iload 10, 2) else none) else
         (bif Nat.beq pc 218 then some (.iconst 1, 1) else none)) else
        (bif Nat.blt pc 222 then (bif Nat.beq pc 219 then some (.invokevirtual 152, 3) else none) else
         (bif Nat.beq pc 222 then some (.ldc2_w 174, 3) else none)))))) else
    (bif Nat.blt pc 247 then (bif Nat.blt pc 233 then (bif Nat.blt pc 228 then (bif Nat.blt pc 226 then (bif Nat.beq pc 225 then some (.lxor, 1) else none) else
        (bif Nat.blt pc 227 then (bif Nat.beq pc 226 then some (.land, 1) else none) else
         (bif Nat.beq pc 227 then some (.lconst 0, 1) else none))) else
       (bif Nat.blt pc 229 then (bif Nat.beq pc 228 then some (.lcmp, 1) else none) else
        (bif Nat.blt pc 232 then (bif Nat.beq pc 229 then some (.ifCond .ne 7, 3) else none) else
         (bif Nat.beq pc 232 then some (.iconst 1, 1) else none)))) else
      (bif Nat.blt pc 239 then (bif Nat.blt pc 236 then (bif Nat.beq pc 233 then some (.goto 4, 3) else none) else
        (bif Nat.blt pc 237 then (bif Nat.beq pc 236 then some (.iconst 0, 1) else none) else
         (bif Nat.beq pc 237 then some (.istore 4, 2) else none))) else
       (bif Nat.blt pc 242 then (bif Nat.beq pc 239 then some (.iinc 5 1, 3) else none) else
        (bif Nat.blt pc 245 then (bif Nat.beq pc 242 then some (.goto (-209), 3) else none) else
         (bif Nat.beq pc 245 then some (.iload 4, 2) else none))))) else
     (bif Nat.blt pc 259 then (bif Nat.blt pc 252 then (bif Nat.blt pc 250 then (bif Nat.beq pc 247 then some (.ifCond .eq 111, 3) else none) else
        (bif Nat.blt pc 251 then (bif Nat.beq pc 250 then some (.iload_n 2, 1) else none) else
         (bif Nat.beq pc 251 then some (.aload_n 0, 1) else none))) else
       (bif Nat.blt pc 253 then (bif Nat.beq pc 252 then some (.iconst 5, 1) else none) else
        (bif Nat.blt pc 256 then (bif Nat.beq pc 253 then some (.invokevirtual 142, 3) else none) else
         (bif Nat.beq pc 256 then some (.if_icmp .ne 102, 3) else none)))) else
      (bif Nat.blt pc 264 then (bif Nat.blt pc 260 then (bif Nat.beq pc 259 then some (.iload_n 3, 1) else none) else
        (bif Nat.blt pc 261 then (bif Nat.beq pc 260 then some (.aload_n 0, 1) else none) else
         (bif Nat.beq pc 261 then some (.invokevirtual 176, 3) else none))) else
       (bif Nat.blt pc 268 then (bif Nat.blt pc 267 then (bif Nat.beq pc 264 then some (.if_icmp .ne 94, 3) else none) else
         (bif Nat.beq pc 267 then some (.iload_n 2, 1) else none)) else
        (bif Nat.blt pc 271 then (bif Nat.beq pc 268 then some (.ifCond .ne 7, 3) else none) else
         (bif Nat.beq pc 271 then some (.iconst 1, 1) else none))))))) else
   (bif Nat.blt pc 321 then (bif Nat.blt pc 295 then (bif Nat.blt pc 283 then (bif Nat.blt pc 277 then (bif Nat.blt pc 275 then (bif Nat.beq pc 272 then some (.goto 4, 3) else none) else
        (bif Nat.blt pc 276 then (bif Nat.beq pc 275 then some (.iconst 0, 1) else none) else
         (bif Nat.beq pc 276 then some (.aload_n 0, 1) else none))) else
       (bif Nat.blt pc 279 then (bif Nat.beq pc 277 then some (.bipush 6, 2) else none) else
        (bif Nat.blt pc 282 then (bif Nat.beq pc 279 then some (.invokevirtual 142, 3) else none) else
         (bif Nat.beq pc 282 then some (.iconst 1, 1) else none)))) else
      (bif Nat.blt pc 290 then (bif Nat.blt pc 286 then (bif Nat.beq pc 283 then some (.if_icmp .ne 7, 3) else none) else
        (bif Nat.blt pc 287 then (bif Nat.beq pc 286 then some (.iconst 1, 1) else none) else
         (bif Nat.beq pc 287 then some (.goto 4, 3) else none))) else
       (bif Nat.blt pc 291 then (bif Nat.beq pc 290 then some (.iconst 0, 1) else none) else
        (bif Nat.blt pc 294 then (bif Nat.beq pc 291 then some (.if_icmp .ne 67, 3) else none) else
         (bif Nat.beq pc 294 then some (.iload_n 2, 1) else none))))) else
     (bif Nat.blt pc 307 then (bif Nat.blt pc 302 then (bif Nat.blt pc 298 then (bif Nat.beq pc 295 then some (.ifCond .gt 12, 3) else none) else
        (bif Nat.blt pc 299 then (bif Nat.beq pc 298 then some (.aload_n 0, 1) else none) else
         (bif Nat.beq pc 299 then some (.invokevirtual 179, 3) else none))) else
       (bif Nat.blt pc 303 then (bif Nat.beq pc 302 then some (.lconst 0, 1) else none) else
        (bif Nat.blt pc 304 then (bif Nat.beq pc 303 then some (.lcmp, 1) else none) else
         (bif Nat.beq pc 304 then some (.ifCond .ne 54, 3) else none)))) else
      (bif Nat.blt pc 312 then (bif Nat.blt pc 308 then (bif Nat.beq pc 307 then some (.aload_n 0, 1) else none) else
        (bif Nat.blt pc 311 then (bif Nat.beq pc 308 then some (.invokevirtual 182, 3) else none) else
         (bif Nat.beq pc 311 then some (.aload_n 0, 1) else none))) else
       (bif Nat.blt pc 318 then (bif Nat.blt pc 315 then (bif Nat.beq pc 312 then some (.invokevirtual 186, 3) else none) else
         (bif Nat.beq pc 315 then some (.invokestatic 165, 3) else none)) else
        (bif Nat.blt pc 319 then (bif Nat.beq pc 318 then some (.i2f, 1) else none) else
         (bif Nat.beq pc 319 then some (.ldc 189, 2) else none)))))) else
    (bif Nat.blt pc 346 then (bif Nat.blt pc 331 then (bif Nat.blt pc 326 then (bif Nat.blt pc 322 then (bif Nat.beq pc 321 then some (.fdiv, 1) else none) else
        (bif Nat.blt pc 323 then (bif Nat.beq pc 322 then some (.fcmp .l, 1) else none) else
         (bif Nat.beq pc 323 then some (.ifCond .ne 35, 3) else none))) else
       (bif Nat.blt pc 327 then (bif Nat.beq pc 326 then some (.aload_n 0, 1) else none) else
        (bif Nat.blt pc 330 then (bif Nat.beq pc 327 then some (.invokevirtual 186, 3) else none) else
         (bif Nat.beq pc 330 then some (.aload_n 0, 1) else none)))) else
      (bif Nat.blt pc 338 then (bif Nat.blt pc 332 then (bif Nat.beq pc 331 then some (.iconst 0, 1) else none) else
        (bif Nat.blt pc 335 then (bif Nat.beq pc 332 then some (.invokevirtual 142, 3) else none) else
         (bif Nat.beq pc 335 then some (.ifCond .ne 10, 3) else none))) else
       (bif Nat.blt pc 342 then (bif Nat.blt pc 339 then (bif Nat.beq pc 338 then some (.aload_n 0, 1) else none) else
         (bif Nat.beq pc 339 then some (.invokevirtual 139, 3) else none)) else
        (bif Nat.blt pc 345 then (bif Nat.beq pc 342 then some (.goto 8, 3) else none) else
         (bif Nat.beq pc 345 then some (.aload_n 0, 1) else none))))) else
     (bif Nat.blt pc 358 then (bif Nat.blt pc 351 then (bif Nat.blt pc 347 then (bif Nat.beq pc 346 then some (.iconst 0, 1) else none) else
        (bif Nat.blt pc 350 then (bif Nat.beq pc 347 then some (.invokevirtual 148, 3) else none) else
         (bif Nat.beq pc 350 then some (.lcmp, 1) else none))) else
       (bif Nat.blt pc 354 then (bif Nat.beq pc 351 then some (.ifCond .ne 7, 3) else none) else
        (bif Nat.blt pc 355 then (bif Nat.beq pc 354 then some (.iconst 1, 1) else none) else
         (bif Nat.beq pc 355 then some (.goto 4, 3) else none)))) else
      (bif Nat.blt pc 362 then (bif Nat.blt pc 359 then (bif Nat.beq pc 358 then some (.iconst 0, 1) else none) else
        (bif Nat.blt pc 361 then (bif Nat.beq pc 359 then some (.istore 4, 2) else none) else
         (bif Nat.beq pc 361 then some (.iconst 0, 1) else none))) else
       (bif Nat.blt pc 366 then (bif Nat.blt pc 364 then (bif Nat.beq pc 362 then some (.istore 5, 2) else none) else
         (bif Nat.beq pc 364 then some (.iload 5, 2) else none)) else
        (bif Nat.blt pc 367 then (bif Nat.beq pc 366 then some (.aload_n 0, 1) else none) else
         (bif Nat.beq pc 367 then some (.iconst 0, 1) else none))))))))) else
 (bif Nat.blt pc 574 then (bif Nat.blt pc 473 then (bif Nat.blt pc 424 then (bif Nat.blt pc 397 then (bif Nat.blt pc 382 then (bif Nat.blt pc 376 then (bif Nat.blt pc 371 then (bif Nat.beq pc 368 then some (.invokevirtual 142, 3) else none) else
        (bif Nat.blt pc 374 then (bif Nat.beq pc 371 then some (.if_icmp .ge 84, 3) else none) else
         (bif Nat.beq pc 374 then some (.iload 4, 2) else none))) else
       (bif Nat.blt pc 379 then (bif Nat.beq pc 376 then some (.ifCond .eq 79, 3) else none) else
        (bif Nat.blt pc 380 then (bif Nat.beq pc 379 then some (.aload_n 0, 1) else none) else
         (bif Nat.beq pc 380 then some (.iload 5, 2) else none)))) else
      (bif Nat.blt pc 389 then (bif Nat.blt pc 385 then (bif Nat.beq pc 382 then some (.invokevirtual 190, 3) else none) else
        (bif Nat.blt pc 388 then (bif Nat.beq pc 385 then some (.ifCond .ne 61, 3) else none) else
         (bif Nat.beq pc 388 then some (.aload_n 0, 1) else none))) else
       (bif Nat.blt pc 391 then (bif Nat.beq pc 389 then some (.iload 5, 2) else none) else
        (bif Nat.blt pc 394 then (bif Nat.beq pc 391 then some (.invokevirtual 193, 3) else none) else
         (bif Nat.beq pc 394 then some (.ifCond .ge 7, 3) else none))))) else
     (bif Nat.blt pc 408 then (bif Nat.blt pc 402 then (bif Nat.blt pc 398 then (bif Nat.beq pc 397 then some (.iconst 1, 1) else none) else
        (bif Nat.blt pc 401 then (bif Nat.beq pc 398 then some (.goto 4, 3) else none) else
         (bif Nat.beq pc 401 then some (.iconst 0, 1) else none))) else
       (bif Nat.blt pc 403 then (bif Nat.beq pc 402 then some (.aload_n 0, 1) else none) else
        (bif Nat.blt pc 405 then (bif Nat.beq pc 403 then some (.iload 5, 2) else none) else
         (bif Nat.beq pc 405 then some (.invokevirtual 196, 3) else none)))) else
      (bif Nat.blt pc 415 then (bif Nat.blt pc 411 then (bif Nat.beq pc 408 then some (.ifCond .ge 7, 3) else none) else
        (bif Nat.blt pc 412 then (bif Nat.beq pc 411 then some (.iconst 1, 1) else none) else
         (bif Nat.beq pc 412 then some (.goto 4, 3) else none))) else
       (bif Nat.blt pc 419 then (bif Nat.blt pc 416 then (bif Nat.beq pc 415 then some (.iconst 0, 1) else none) else
         (bif Nat.beq pc 416 then some (.if_icmp .ne 30, 3) else none)) else
        (bif Nat.blt pc 421 then (bif Nat.beq pc 419 then some (.iload 5, 2) else none) else
         (bif Nat.beq pc 421 then some (.ifCond .gt 21, 3) else none)))))) else
    (bif Nat.blt pc 446 then (bif Nat.blt pc 434 then (bif Nat.blt pc 429 then (bif Nat.blt pc 425 then (bif Nat.beq pc 424 then some (.aload_n 0, 1) else none) else
        (bif Nat.blt pc 426 then (bif Nat.beq pc 425 then some (.iconst 0, 1) else none) else
         (bif Nat.beq pc 426 then some (.invokevirtual 199, 3) else none))) else
       (bif Nat.blt pc 430 then (bif Nat.beq pc 429 then some (.aload_n 0, 1) else none) else
        (bif Nat.blt pc 433 then (bif Nat.beq pc 430 then some (.invokevirtual 135, 3) else none) else
         (bif Nat.beq pc 433 then some (.land, 1) else none)))) else
      (bif Nat.blt pc 439 then (bif Nat.blt pc 435 then (bif Nat.beq pc 434 then some (.aload_n 0, 1) else none) else
        (bif Nat.blt pc 438 then (bif Nat.beq pc 435 then some (.invokevirtual 135, 3) else none) else
         (bif Nat.beq pc 438 then some (.lcmp, 1) else none))) else
       (bif Nat.blt pc 442 then (bif Nat.beq pc 439 then some (.ifCond .ne 7, 3) else none) else
        (bif Nat.blt pc 443 then (bif Nat.beq pc 442 then some (.iconst 1, 1) else none) else
         (bif Nat.beq pc 443 then some (.goto 4, 3) else none))))) else
     (bif Nat.blt pc 458 then (bif Nat.blt pc 452 then (bif Nat.blt pc 447 then (bif Nat.beq pc 446 then some (.iconst 0, 1) else none) else
        (bif Nat.blt pc 449 then (bif Nat.beq pc 447 then some (.istore 4, 2) else none) else
         (bif Nat.beq pc 449 then some (.iinc 5 1, 3) else none))) else
       (bif Nat.blt pc 455 then (bif Nat.beq pc 452 then some (.goto (-88), 3) else none) else
        (bif Nat.blt pc 456 then (bif Nat.beq pc 455 then some (.iconst 0, 1) else none) else
         (bif Nat.beq pc 456 then some (.istore 5, 2) else none)))) else
      (bif Nat.blt pc 462 then (bif Nat.blt pc 460 then (bif Nat.beq pc 458 then some (.iload 5, 2) else none) else
        (bif Nat.blt pc 461 then (bif Nat.beq pc 460 then some (.aload_n 0, 1) else none) else
         (bif Nat.beq pc 461 then some (.iconst 1, 1) else none))) else
       (bif Nat.blt pc 468 then (bif Nat.blt pc 465 then (bif Nat.beq pc 462 then some (.invokevirtual 142, 3) else none) else
         (bif Nat.beq pc 465 then some (.if_icmp .ge 49, 3) else none)) else
        (bif Nat.blt pc 470 then (bif Nat.beq pc 468 then some (.iload 4, 2) else none) else
         (bif Nat.beq pc 470 then some (.ifCond .eq 44, 3) else none))))))) else
   (bif Nat.blt pc 520 then (bif Nat.blt pc 496 then (bif Nat.blt pc 483 then (bif Nat.blt pc 479 then (bif Nat.blt pc 474 then (bif Nat.beq pc 473 then some (.aload_n 0, 1) else none) else
        (bif Nat.blt pc 476 then (bif Nat.beq pc 474 then some (.iload 5, 2) else none) else
         (bif Nat.beq pc 476 then some (.invokevirtual 202, 3) else none))) else
       (bif Nat.blt pc 480 then (bif Nat.beq pc 479 then some (.aload_n 0, 1) else none) else
        (bif Nat.blt pc 482 then (bif Nat.beq pc 480 then some (.iload 5, 2) else none) else
         (bif Nat.beq pc 482 then some (.iconst 1, 1) else none)))) else
      (bif Nat.blt pc 489 then (bif Nat.blt pc 486 then (bif Nat.beq pc 483 then some (.invokevirtual 152, 3) else none) else
        (bif Nat.blt pc 487 then (bif Nat.beq pc 486 then some (.aload_n 0, 1) else none) else
         (bif Nat.beq pc 487 then some (.iload 5, 2) else none))) else
       (bif Nat.blt pc 492 then (bif Nat.beq pc 489 then some (.invokevirtual 205, 3) else none) else
        (bif Nat.blt pc 495 then (bif Nat.beq pc 492 then some (.ldc2_w 174, 3) else none) else
         (bif Nat.beq pc 495 then some (.lxor, 1) else none))))) else
     (bif Nat.blt pc 506 then (bif Nat.blt pc 501 then (bif Nat.blt pc 497 then (bif Nat.beq pc 496 then some (.land, 1) else none) else
        (bif Nat.blt pc 498 then (bif Nat.beq pc 497 then some (.lcmp, 1) else none) else
         (bif Nat.beq pc 498 then some (.ifCond .ne 7, 3) else none))) else
       (bif Nat.blt pc 502 then (bif Nat.beq pc 501 then some (.iconst 1, 1) else none) else
        (bif Nat.blt pc 505 then (bif Nat.beq pc 502 then some (.goto 4, 3) else none) else
         (bif Nat.beq pc 505 then some (.iconst 0, 1) else none)))) else
      (bif Nat.blt pc 514 then (bif Nat.blt pc 508 then (bif Nat.beq pc 506 then some (.istore 4, 2) else none) else
        (bif Nat.blt pc 511 then (bif Nat.beq pc 508 then some (.iinc 5 1, 3) else none) else
         (bif Nat.beq pc 511 then some (.goto (-53), 3) else none))) else
       (bif Nat.blt pc 517 then (bif Nat.blt pc 515 then (bif Nat.beq pc 514 then some (.dconst 0, 1) else none) else
         (bif Nat.beq pc 515 then some (.dstore 5, 2) else none)) else
        (bif Nat.blt pc 518 then (bif Nat.beq pc 517 then some (.iconst 0, 1) else none) else
         (bif Nat.beq pc 518 then some (.istore 7, 2) else none)))))) else
    (bif Nat.blt pc 546 then (bif Nat.blt pc 530 then (bif Nat.blt pc 524 then (bif Nat.blt pc 521 then (bif Nat.beq pc 520 then some (.iconst (-1), 1) else none) else
        (bif Nat.blt pc 523 then (bif Nat.beq pc 521 then some (.istore 8, 2) else none) else
         (bif Nat.beq pc 523 then some (.iconst 0, 1) else none))) else
       (bif Nat.blt pc 526 then (bif Nat.beq pc 524 then some (.istore 9, 2) else none) else
        (bif Nat.blt pc 528 then (bif Nat.beq pc 526 then some (.iload 9, 2) else none) else
         (bif Nat.beq pc 528 then some (.bipush 64, 2) else none)))) else
      (bif Nat.blt pc 538 then (bif Nat.blt pc 533 then (bif Nat.beq pc 530 then some (.if_icmp .ge 200, 3) else none) else
        (bif Nat.blt pc 535 then (bif Nat.beq pc 533 then some (.iload 4, 2) else none) else
         (bif Nat.beq pc 535 then some (.ifCond .eq 195, 3) else none))) else
       (bif Nat.blt pc 541 then (bif Nat.blt pc 539 then (bif Nat.beq pc 538 then some (.aload_n 0, 1) else none) else
         (bif Nat.beq pc 539 then some (.iload 9, 2) else none)) else
        (bif Nat.blt pc 544 then (bif Nat.beq pc 541 then some (.invokevirtual 208, 3) else none) else
         (bif Nat.beq pc 544 then some (.istore 10, 2) else none))))) else
     (bif Nat.blt pc 558 then (bif Nat.blt pc 552 then (bif Nat.blt pc 547 then (bif Nat.beq pc 546 then some (.aload_n 0, 1) else none) else
        (bif Nat.blt pc 549 then (bif Nat.beq pc 547 then some (.iload 9, 2) else none) else
         (bif Nat.beq pc 549 then some (.invokevirtual 211, 3) else none))) else
       (bif Nat.blt pc 554 then (bif Nat.beq pc 552 then some (.fstore 11, 2) else none) else
        (bif Nat.blt pc 555 then (bif Nat.beq pc 554 then some (.aload_n 0, 1) else none) else
         (bif Nat.beq pc 555 then some (.invokevirtual 135, 3) else none)))) else
      (bif Nat.blt pc 565 then (bif Nat.blt pc 560 then (bif Nat.beq pc 558 then some (.iload 9, 2) else none) else
        (bif Nat.blt pc 563 then (bif Nat.beq pc 560 then some (.invokestatic 215, 3) else none) else
         (bif Nat.beq pc 563 then some (.istore 12, 2) else none))) else
       (bif Nat.blt pc 570 then (bif Nat.blt pc 567 then (bif Nat.beq pc 565 then some (.iload 10, 2) else none) else
         (bif Nat.beq pc 567 then some (.ifCond .ge 7, 3) else none)) else
        (bif Nat.blt pc 571 then (bif Nat.beq pc 570 then some (.iconst 1, 1) else none) else
         (bif Nat.beq pc 571 then some (.goto 4, 3) else none)))))))) else
  (bif Nat.blt pc 682 then (bif Nat.blt pc 623 then (bif Nat.blt pc 598 then (bif Nat.blt pc 585 then (bif Nat.blt pc 578 then (bif Nat.blt pc 575 then (bif Nat.beq pc 574 then some (.iconst 0, 1) else none) else
        (bif Nat.blt pc 576 then (bif Nat.beq pc 575 then some (.aload_n 0, 1) else none) else
         (bif Nat.beq pc 576 then some (.iload 9, 2) else none))) else
       (bif Nat.blt pc 581 then (bif Nat.beq pc 578 then some (.invokevirtual 219, 3) else none) else
        (bif Nat.blt pc 584 then (bif Nat.beq pc 581 then some (.ifCond .ge 7, 3) else none) else
         (bif Nat.beq pc 584 then some (.iconst 1, 1) else none)))) else
      (bif Nat.blt pc 592 then (bif Nat.blt pc 588 then (bif Nat.beq pc 585 then some (.goto 4, 3) else none) else
        (bif Nat.blt pc 589 then (bif Nat.beq pc 588 then some (.iconst 0, 1) else none) else
         (bif Nat.beq pc 589 then some (.if_icmp .ne 85, 3) else none))) else
       (bif Nat.blt pc 594 then (bif Nat.beq pc 592 then some (.iload 10, 2) else none) else
        (bif Nat.blt pc 597 then (bif Nat.beq pc 594 then some (.ifCond .ge 7, 3) else none) else
         (bif Nat.beq pc 597 then some (.iconst 1, 1) else none))))) else
     (bif Nat.blt pc 609 then (bif Nat.blt pc 604 then (bif Nat.blt pc 601 then (bif Nat.beq pc 598 then some (.goto 4, 3) else none) else
        (bif Nat.blt pc 602 then (bif Nat.beq pc 601 then some (.iconst 0, 1) else none) else
         (bif Nat.beq pc 602 then some (.fload 11, 2) else none))) else
       (bif Nat.blt pc 605 then (bif Nat.beq pc 604 then some (.fconst 0, 1) else none) else
        (bif Nat.blt pc 606 then (bif Nat.beq pc 605 then some (.fcmp .g, 1) else none) else
         (bif Nat.beq pc 606 then some (.ifCond .ge 7, 3) else none)))) else
      (bif Nat.blt pc 614 then (bif Nat.blt pc 610 then (bif Nat.beq pc 609 then some (.iconst 1, 1) else none) else
        (bif Nat.blt pc 613 then (bif Nat.beq pc 610 then some (.goto 4, 3) else none) else
         (bif Nat.beq pc 613 then some (.iconst 0, 1) else none))) else
       (bif Nat.blt pc 618 then (bif Nat.blt pc 617 then (bif Nat.beq pc 614 then some (.if_icmp .ne 60, 3) else none) else
         (bif Nat.beq pc 617 then some (.aload_n 0, 1) else none)) else
        (bif Nat.blt pc 620 then (bif Nat.beq pc 618 then some (.iload 9, 2) else none) else
         (bif Nat.beq pc 620 then some (.invokevirtual 222, 3) else none)))))) else
    (bif Nat.blt pc 654 then (bif Nat.blt pc 637 then (bif Nat.blt pc 631 then (bif Nat.blt pc 625 then (bif Nat.beq pc 623 then some (.fload 11, 2) else none) else
        (bif Nat.blt pc 628 then (bif Nat.beq pc 625 then some (.invokestatic 225, 3) else none) else
         (bif Nat.beq pc 628 then some (.if_icmp .ne 46, 3) else none))) else
       (bif Nat.blt pc 632 then (bif Nat.beq pc 631 then some (.aload_n 0, 1) else none) else
        (bif Nat.blt pc 635 then (bif Nat.beq pc 632 then some (.invokevirtual 179, 3) else none) else
         (bif Nat.beq pc 635 then some (.iload 9, 2) else none)))) else
      (bif Nat.blt pc 645 then (bif Nat.blt pc 640 then (bif Nat.beq pc 637 then some (.invokestatic 215, 3) else none) else
        (bif Nat.blt pc 642 then (bif Nat.beq pc 640 then some (.iload 12, 2) else none) else
         (bif Nat.beq pc 642 then some (.ifCond .eq 24, 3) else none))) else
       (bif Nat.blt pc 650 then (bif Nat.blt pc 647 then (bif Nat.beq pc 645 then some (.iload 10, 2) else none) else
         (bif Nat.beq pc 647 then some (.ifCond .lt 15, 3) else none)) else
        (bif Nat.blt pc 651 then (bif Nat.beq pc 650 then some (.aload_n 0, 1) else none) else
         (bif Nat.beq pc 651 then some (.invokevirtual 139, 3) else none))))) else
     (bif Nat.blt pc 667 then (bif Nat.blt pc 662 then (bif Nat.blt pc 656 then (bif Nat.beq pc 654 then some (.iload 10, 2) else none) else
        (bif Nat.blt pc 659 then (bif Nat.beq pc 656 then some (.invokestatic 215, 3) else none) else
         (bif Nat.beq pc 659 then some (.ifCond .ne 7, 3) else none))) else
       (bif Nat.blt pc 663 then (bif Nat.beq pc 662 then some (.iconst 1, 1) else none) else
        (bif Nat.blt pc 666 then (bif Nat.beq pc 663 then some (.goto 4, 3) else none) else
         (bif Nat.beq pc 666 then some (.iconst 0, 1) else none)))) else
      (bif Nat.blt pc 674 then (bif Nat.blt pc 670 then (bif Nat.beq pc 667 then some (.if_icmp .ne 7, 3) else none) else
        (bif Nat.blt pc 671 then (bif Nat.beq pc 670 then some (.iconst 1, 1) else none) else
         (bif Nat.beq pc 671 then some (.goto 4, 3) else none))) else
       (bif Nat.blt pc 677 then (bif Nat.blt pc 675 then (bif Nat.beq pc 674 then some (.iconst 0, 1) else none) else
         (bif Nat.beq pc 675 then some (.istore 4, 2) else none)) else
        (bif Nat.blt pc 679 then (bif Nat.beq pc 677 then some (.iload 12, 2) else none) else
         (bif Nat.beq pc 679 then some (.ifCond .eq 45, 3) else none))))))) else
   (bif Nat.blt pc 737 then (bif Nat.blt pc 706 then (bif Nat.blt pc 693 then (bif Nat.blt pc 689 then (bif Nat.blt pc 684 then (bif Nat.beq pc 682 then some (.iload 10, 2) else none) else
        (bif Nat.blt pc 687 then (bif Nat.beq pc 684 then some (.ifCond .lt 40, 3) else none) else
         (bif Nat.beq pc 687 then some (.dload 5, 2) else none))) else
       (bif Nat.blt pc 691 then (bif Nat.beq pc 689 then some (.fload 11, 2) else none) else
        (bif Nat.blt pc 692 then (bif Nat.beq pc 691 then some (.f2d, 1) else none) else
         (bif Nat.beq pc 692 then some (.dadd, 1) else none)))) else
      (bif Nat.blt pc 700 then (bif Nat.blt pc 695 then (bif Nat.beq pc 693 then some (.dstore 5, 2) else none) else
        (bif Nat.blt pc 698 then (bif Nat.beq pc 695 then some (.iinc 7 1, 3) else none) else
         (bif Nat.beq pc 698 then some (.iload 8, 2) else none))) else
       (bif Nat.blt pc 703 then (bif Nat.beq pc 700 then some (.ifCond .lt 15, 3) else none) else
        (bif Nat.blt pc 705 then (bif Nat.beq pc 703 then some (.fload 11, 2) else none) else
         (bif Nat.beq pc 705 then some (.aload_n 0, 1) else none))))) else
     (bif Nat.blt pc 720 then (bif Nat.blt pc 712 then (bif Nat.blt pc 708 then (bif Nat.beq pc 706 then some (.iload 8, 2) else none) else
        (bif Nat.blt pc 711 then (bif Nat.beq pc 708 then some (.invokevirtual 211, 3) else none) else
         (bif Nat.beq pc 711 then some (.fcmp .l, 1) else none))) else
       (bif Nat.blt pc 715 then (bif Nat.beq pc 712 then some (.ifCond .le 8, 3) else none) else
        (bif Nat.blt pc 717 then (bif Nat.beq pc 715 then some (.iload 9, 2) else none) else
         (bif Nat.beq pc 717 then some (.goto 5, 3) else none)))) else
      (bif Nat.blt pc 727 then (bif Nat.blt pc 722 then (bif Nat.beq pc 720 then some (.iload 8, 2) else none) else
        (bif Nat.blt pc 724 then (bif Nat.beq pc 722 then some (.istore 8, 2) else none) else
         (bif Nat.beq pc 724 then some (.iinc 9 1, 3) else none))) else
       (bif Nat.blt pc 732 then (bif Nat.blt pc 730 then (bif Nat.beq pc 727 then some (.goto (-201), 3) else none) else
         (bif Nat.beq pc 730 then some (.iload 4, 2) else none)) else
        (bif Nat.blt pc 735 then (bif Nat.beq pc 732 then some (.ifCond .eq 54, 3) else none) else
         (bif Nat.beq pc 735 then some (.iload 8, 2) else none)))))) else
    (bif Nat.blt pc 763 then (bif Nat.blt pc 750 then (bif Nat.blt pc 744 then (bif Nat.blt pc 738 then (bif Nat.beq pc 737 then some (.aload_n 0, 1) else none) else
        (bif Nat.blt pc 741 then (bif Nat.beq pc 738 then some (.invokevirtual 231, 3) else none) else
         (bif Nat.beq pc 741 then some (.if_icmp .ne 45, 3) else none))) else
       (bif Nat.blt pc 745 then (bif Nat.beq pc 744 then some (.aload_n 0, 1) else none) else
        (bif Nat.blt pc 748 then (bif Nat.beq pc 745 then some (.invokevirtual 234, 3) else none) else
         (bif Nat.beq pc 748 then some (.iload 7, 2) else none)))) else
      (bif Nat.blt pc 757 then (bif Nat.blt pc 753 then (bif Nat.beq pc 750 then some (.ifCond .ne 7, 3) else none) else
        (bif Nat.blt pc 754 then (bif Nat.beq pc 753 then some (.dconst 0, 1) else none) else
         (bif Nat.beq pc 754 then some (.goto 9, 3) else none))) else
       (bif Nat.blt pc 761 then (bif Nat.blt pc 759 then (bif Nat.beq pc 757 then some (.dload 5, 2) else none) else
         (bif Nat.beq pc 759 then some (.iload 7, 2) else none)) else
        (bif Nat.blt pc 762 then (bif Nat.beq pc 761 then some (.i2d, 1) else none) else
         (bif Nat.beq pc 762 then some (.ddiv, 1) else none))))) else
     (bif Nat.blt pc 775 then (bif Nat.blt pc 768 then (bif Nat.blt pc 764 then (bif Nat.beq pc 763 then some (.dcmp .l, 1) else none) else
        (bif Nat.blt pc 767 then (bif Nat.beq pc 764 then some (.ifCond .ne 22, 3) else none) else
         (bif Nat.beq pc 767 then some (.aload_n 0, 1) else none))) else
       (bif Nat.blt pc 771 then (bif Nat.beq pc 768 then some (.invokevirtual 238, 3) else none) else
        (bif Nat.blt pc 772 then (bif Nat.beq pc 771 then some (.aload_n 0, 1) else none) else
         (bif Nat.beq pc 772 then some (.invokevirtual 234, 3) else none)))) else
      (bif Nat.blt pc 782 then (bif Nat.blt pc 778 then (bif Nat.beq pc 775 then some (.invokestatic 241, 3) else none) else
        (bif Nat.blt pc 779 then (bif Nat.beq pc 778 then some (.lcmp, 1) else none) else
         (bif Nat.beq pc 779 then some (.ifCond .ne 7, 3) else none))) else
       (bif Nat.blt pc 786 then (bif Nat.blt pc 783 then (bif Nat.beq pc 782 then some (.iconst 1, 1) else none) else
         (bif Nat.beq pc 783 then some (.goto 4, 3) else none)) else
        (bif Nat.blt pc 787 then (bif Nat.beq pc 786 then some (.iconst 0, 1) else none) else
         (bif Nat.beq pc 787 then some (.ireturn, 1) else none)))))))))) else none
set_option maxRecDepth 10000 in
noncomputable def zc_219 (pc : Nat) : Option (Instr × Nat) :=
 bif Nat.blt pc 16 then (bif Nat.blt pc 6 then (bif Nat.blt pc 3 then (bif Nat.blt pc 1 then (bif Nat.beq pc 0 then some (.lload_n 0, 1) else none) else
   (bif Nat.blt pc 2 then (bif Nat.beq pc 1 then some (.iload_n 2, 1) else none) else
    (bif Nat.beq pc 2 then some (.lushr, 1) else none))) else
  (bif Nat.blt pc 4 then (bif Nat.beq pc 3 then some (.lconst 1, 1) else none) else
   (bif Nat.blt pc 5 then (bif Nat.beq pc 4 then some (.land, 1) else none) else
    (bif Nat.beq pc 5 then some (.lconst 1, 1) else none)))) else
 (bif Nat.blt pc 11 then (bif Nat.blt pc 7 then (bif Nat.beq pc 6 then some (.lcmp, 1) else none) else
   (bif Nat.blt pc 10 then (bif Nat.beq pc 7 then some (.ifCond .ne 7, 3) else none) else
    (bif Nat.beq pc 10 then some (.iconst 1, 1) else none))) else
  (bif Nat.blt pc 14 then (bif Nat.beq pc 11 then some (.goto 4, 3) else none) else
   (bif Nat.blt pc 15 then (bif Nat.beq pc 14 then some (.iconst 0, 1) else none) else
    (bif Nat.beq pc 15 then some (.ireturn, 1) else none))))) else none
set_option maxRecDepth 10000 in
noncomputable def zc_220 (pc : Nat) : Option (Instr × Nat) :=
 bif Nat.blt pc 522 then (bif Nat.blt pc 284 then (bif Nat.blt pc 155 then (bif Nat.blt pc 94 then (bif Nat.blt pc 27 then (bif Nat.blt pc 11 then (bif Nat.blt pc 5 then (bif Nat.blt pc 1 then (bif Nat.beq pc 0 then some (.aload_n 0, 1) else none) else
       (bif Nat.blt pc 2 then (bif Nat.beq pc 1 then some (.iconst 2, 1) else none) else
        (bif Nat.beq pc 2 then some (.invokevirtual 142, 3) else none))) else
      (bif Nat.blt pc 7 then (bif Nat.blt pc 6 then (bif Nat.beq pc 5 then some (.istore_n 2, 1) else none) else
        (bif Nat.beq pc 6 then some (.aload_n 0, 1) else none)) else
       (bif Nat.blt pc 8 then (bif Nat.beq pc 7 then some (.iconst 1, 1) else none) else
        (bif Nat.beq pc 8 then some (.invokevirtual 142, 3) else none)))) else
     (bif Nat.blt pc 19 then (bif Nat.blt pc 15 then (bif Nat.blt pc 12 then (bif Nat.beq pc 11 then some (.istore_n 3, 1) else none) else
        (bif Nat.beq pc 12 then some (.new 73, 3) else none)) else
       (bif Nat.blt pc 16 then (bif Nat.beq pc 15 then some (.dup, 1) else none) else
        (bif Nat.beq pc 16 then some (.invokespecial 247, 3) else none))) else
      (bif Nat.blt pc 22 then (bif Nat.blt pc 21 then (bif Nat.beq pc 19 then some (.astore 4, 2) else none) else
        (bif Nat.beq pc 21 then some (.aload_n 1, 1) else none)) else
       (bif Nat.blt pc 25 then (bif Nat.beq pc 22 then some (.invokestatic 62, 3) else none) else
        (bif Nat.beq pc 25 then some (.bipush 7, 2) else none))))) else
    (bif Nat.blt pc 78 then (bif Nat.blt pc 72 then (bif Nat.blt pc 68 then (bif Nat.blt pc 28 then (bif Nat.beq pc 27 then some (.irem, 1) else none) else
        (bif Nat.beq pc 28 then some (.tableswitch 449 0 5 #[40, 40, 191, 235, 268, 334], 40) else none)) else
       (bif Nat.blt pc 69 then (bif Nat.beq pc 68 then some (.iload_n 2, 1) else none) else
        (bif Nat.beq pc 69 then some (.ifCond .ne 30, 3) else none))) else
      (bif Nat.blt pc 74 then (bif Nat.blt pc 73 then (bif Nat.beq pc 72 then some (.aload_n 0, 1) else none) else
        (bif Nat.beq pc 73 then some (.iconst 0, 1) else none)) else
       (bif Nat.blt pc 75 then (bif Nat.beq pc 74 then some (.iconst 0, 1) else none) else
        (bif Nat.beq pc 75 then some (.invokestatic 248, 3) else none)))) else
     (bif Nat.blt pc 85 then (bif Nat.blt pc 83 then (bif Nat.blt pc 80 then (bif Nat.beq pc 78 then some (.bipush (-5), 2) else none) else
        (bif Nat.beq pc 80 then some (.if_icmp .ne 17, 3) else none)) else
       (bif Nat.blt pc 84 then (bif Nat.beq pc 83 then some (.aload_n 0, 1) else none) else
        (bif Nat.beq pc 84 then some (.iconst 0, 1) else none))) else
      (bif Nat.blt pc 90 then (bif Nat.blt pc 87 then (bif Nat.beq pc 85 then some (.bipush 7, 2) else none) else
        (bif Nat.beq pc 87 then some (.invokevirtual 47, 3) else none)) else
       (bif Nat.blt pc 93 then (bif Nat.beq pc 90 then some (.ifCond .lt 7, 3) else none) else
        (bif Nat.beq pc 93 then some (.iconst 1, 1) else none)))))) else
   (bif Nat.blt pc 121 then (bif Nat.blt pc 105 then (bif Nat.blt pc 99 then (bif Nat.blt pc 97 then (bif Nat.beq pc 94 then some (.goto 4, 3) else none) else
       (bif Nat.blt pc 98 then (bif Nat.beq pc 97 then some (.iconst 0, 1) else none) else
        (bif Nat.beq pc 98 then some (.ireturn, 1) else none))) else
      (bif Nat.blt pc 103 then (bif Nat.blt pc 100 then (bif Nat.beq pc 99 then some (.aload_n 1, 1) else none) else
        (bif Nat.beq pc 100 then some (.invokestatic 62, 3) else none)) else
       (bif Nat.blt pc 104 then (bif Nat.beq pc 103 then some (.iload_n 2, 1) else none) else
        (bif Nat.beq pc 104 then some (.irem, 1) else none)))) else
     (bif Nat.blt pc 113 then (bif Nat.blt pc 108 then (bif Nat.blt pc 107 then (bif Nat.beq pc 105 then some (.istore 5, 2) else none) else
        (bif Nat.beq pc 107 then some (.aload_n 0, 1) else none)) else
       (bif Nat.blt pc 110 then (bif Nat.beq pc 108 then some (.iload 5, 2) else none) else
        (bif Nat.beq pc 110 then some (.invokevirtual 252, 3) else none))) else
      (bif Nat.blt pc 116 then (bif Nat.blt pc 115 then (bif Nat.beq pc 113 then some (.istore 6, 2) else none) else
        (bif Nat.beq pc 115 then some (.aload_n 0, 1) else none)) else
       (bif Nat.blt pc 118 then (bif Nat.beq pc 116 then some (.iload 5, 2) else none) else
        (bif Nat.beq pc 118 then some (.invokevirtual 255, 3) else none))))) else
    (bif Nat.blt pc 140 then (bif Nat.blt pc 130 then (bif Nat.blt pc 125 then (bif Nat.blt pc 123 then (bif Nat.beq pc 121 then some (.istore 7, 2) else none) else
        (bif Nat.beq pc 123 then some (.iload 6, 2) else none)) else
       (bif Nat.blt pc 128 then (bif Nat.beq pc 125 then some (.ifCond .lt 8, 3) else none) else
        (bif Nat.beq pc 128 then some (.iload 6, 2) else none))) else
      (bif Nat.blt pc 135 then (bif Nat.blt pc 133 then (bif Nat.beq pc 130 then some (.goto 20, 3) else none) else
        (bif Nat.beq pc 133 then some (.iload 7, 2) else none)) else
       (bif Nat.blt pc 138 then (bif Nat.beq pc 135 then some (.ifCond .lt 8, 3) else none) else
        (bif Nat.beq pc 138 then some (.iload 7, 2) else none)))) else
     (bif Nat.blt pc 149 then (bif Nat.blt pc 144 then (bif Nat.blt pc 143 then (bif Nat.beq pc 140 then some (.goto 10, 3) else none) else
        (bif Nat.beq pc 143 then some (.aload_n 1, 1) else none)) else
       (bif Nat.blt pc 147 then (bif Nat.beq pc 144 then some (.invokestatic 62, 3) else none) else
        (bif Nat.beq pc 147 then some (.bipush 39, 2) else none))) else
      (bif Nat.blt pc 152 then (bif Nat.blt pc 150 then (bif Nat.beq pc 149 then some (.irem, 1) else none) else
        (bif Nat.beq pc 150 then some (.istore 8, 2) else none)) else
       (bif Nat.blt pc 153 then (bif Nat.beq pc 152 then some (.aload_n 0, 1) else none) else
        (bif Nat.beq pc 153 then some (.iload 5, 2) else none))))))) else
  (bif Nat.blt pc 221 then (bif Nat.blt pc 189 then (bif Nat.blt pc 169 then (bif Nat.blt pc 162 then (bif Nat.blt pc 157 then (bif Nat.beq pc 155 then some (.iload 8, 2) else none) else
       (bif Nat.blt pc 160 then (bif Nat.beq pc 157 then some (.invokestatic 248, 3) else none) else
        (bif Nat.beq pc 160 then some (.istore 9, 2) else none))) else
      (bif Nat.blt pc 165 then (bif Nat.blt pc 164 then (bif Nat.beq pc 162 then some (.iload 9, 2) else none) else
        (bif Nat.beq pc 164 then some (.aload_n 0, 1) else none)) else
       (bif Nat.blt pc 166 then (bif Nat.beq pc 165 then some (.iconst 5, 1) else none) else
        (bif Nat.beq pc 166 then some (.invokevirtual 142, 3) else none)))) else
     (bif Nat.blt pc 179 then (bif Nat.blt pc 174 then (bif Nat.blt pc 172 then (bif Nat.beq pc 169 then some (.if_icmp .ne 48, 3) else none) else
        (bif Nat.beq pc 172 then some (.iload 6, 2) else none)) else
       (bif Nat.blt pc 177 then (bif Nat.beq pc 174 then some (.ifCond .lt 20, 3) else none) else
        (bif Nat.beq pc 177 then some (.iload 9, 2) else none))) else
      (bif Nat.blt pc 184 then (bif Nat.blt pc 182 then (bif Nat.beq pc 179 then some (.ifCond .ne 38, 3) else none) else
        (bif Nat.beq pc 182 then some (.iload 7, 2) else none)) else
       (bif Nat.blt pc 187 then (bif Nat.beq pc 184 then some (.ifCond .lt 33, 3) else none) else
        (bif Nat.beq pc 187 then some (.iload 7, 2) else none))))) else
    (bif Nat.blt pc 208 then (bif Nat.blt pc 199 then (bif Nat.blt pc 194 then (bif Nat.blt pc 191 then (bif Nat.beq pc 189 then some (.iload 6, 2) else none) else
        (bif Nat.beq pc 191 then some (.if_icmp .gt 26, 3) else none)) else
       (bif Nat.blt pc 196 then (bif Nat.beq pc 194 then some (.iload 6, 2) else none) else
        (bif Nat.beq pc 196 then some (.ifCond .ge 17, 3) else none))) else
      (bif Nat.blt pc 204 then (bif Nat.blt pc 201 then (bif Nat.beq pc 199 then some (.iload 7, 2) else none) else
        (bif Nat.beq pc 201 then some (.ifCond .lt 12, 3) else none)) else
       (bif Nat.blt pc 205 then (bif Nat.beq pc 204 then some (.aload_n 0, 1) else none) else
        (bif Nat.beq pc 205 then some (.invokevirtual 179, 3) else none)))) else
     (bif Nat.blt pc 214 then (bif Nat.blt pc 210 then (bif Nat.blt pc 209 then (bif Nat.beq pc 208 then some (.lconst 0, 1) else none) else
        (bif Nat.beq pc 209 then some (.lcmp, 1) else none)) else
       (bif Nat.blt pc 213 then (bif Nat.beq pc 210 then some (.ifCond .ne 7, 3) else none) else
        (bif Nat.beq pc 213 then some (.iconst 1, 1) else none))) else
      (bif Nat.blt pc 218 then (bif Nat.blt pc 217 then (bif Nat.beq pc 214 then some (.goto 4, 3) else none) else
        (bif Nat.beq pc 217 then some (.iconst 0, 1) else none)) else
       (bif Nat.blt pc 219 then (bif Nat.beq pc 218 then some (.ireturn, 1) else none) else
        (bif Nat.beq pc 219 then some (.aload 4, 2) else none)))))) else
   (bif Nat.blt pc 254 then (bif Nat.blt pc 236 then (bif Nat.blt pc 227 then (bif Nat.blt pc 223 then (bif Nat.blt pc 222 then (bif Nat.beq pc 221 then some (.iconst 1, 1) else none) else
        (bif Nat.beq pc 222 then some (.iconst 2, 1) else none)) else
       (bif Nat.blt pc 224 then (bif Nat.beq pc 223 then some (.aload_n 1, 1) else none) else
        (bif Nat.beq pc 224 then some (.invokestatic 103, 3) else none))) else
      (bif Nat.blt pc 230 then (bif Nat.blt pc 228 then (bif Nat.beq pc 227 then some (.aload_n 0, 1) else none) else
        (bif Nat.beq pc 228 then some (.aload 4, 2) else none)) else
       (bif Nat.blt pc 233 then (bif Nat.beq pc 230 then some (.invokevirtual 129, 3) else none) else
        (bif Nat.beq pc 233 then some (.invokestatic 258, 3) else none)))) else
     (bif Nat.blt pc 244 then (bif Nat.blt pc 240 then (bif Nat.blt pc 238 then (bif Nat.beq pc 236 then some (.istore 10, 2) else none) else
        (bif Nat.beq pc 238 then some (.iload 10, 2) else none)) else
       (bif Nat.blt pc 241 then (bif Nat.beq pc 240 then some (.aload_n 0, 1) else none) else
        (bif Nat.beq pc 241 then some (.invokevirtual 135, 3) else none))) else
      (bif Nat.blt pc 250 then (bif Nat.blt pc 247 then (bif Nat.beq pc 244 then some (.invokestatic 165, 3) else none) else
        (bif Nat.beq pc 247 then some (.if_icmp .ne 14, 3) else none)) else
       (bif Nat.blt pc 251 then (bif Nat.beq pc 250 then some (.aload_n 0, 1) else none) else
        (bif Nat.beq pc 251 then some (.invokevirtual 260, 3) else none))))) else
    (bif Nat.blt pc 267 then (bif Nat.blt pc 262 then (bif Nat.blt pc 258 then (bif Nat.blt pc 257 then (bif Nat.beq pc 254 then some (.ifCond .ne 7, 3) else none) else
        (bif Nat.beq pc 257 then some (.iconst 1, 1) else none)) else
       (bif Nat.blt pc 261 then (bif Nat.beq pc 258 then some (.goto 4, 3) else none) else
        (bif Nat.beq pc 261 then some (.iconst 0, 1) else none))) else
      (bif Nat.blt pc 265 then (bif Nat.blt pc 263 then (bif Nat.beq pc 262 then some (.ireturn, 1) else none) else
        (bif Nat.beq pc 263 then some (.aload 4, 2) else none)) else
       (bif Nat.blt pc 266 then (bif Nat.beq pc 265 then some (.iconst 1, 1) else none) else
        (bif Nat.beq pc 266 then some (.iconst 2, 1) else none)))) else
     (bif Nat.blt pc 274 then (bif Nat.blt pc 271 then (bif Nat.blt pc 268 then (bif Nat.beq pc 267 then some (.aload_n 1, 1) else none) else
        (bif Nat.beq pc 268 then some (.invokestatic 103, 3) else none)) else
       (bif Nat.blt pc 272 then (bif Nat.beq pc 271 then some (.aload_n 0, 1) else none) else
        (bif Nat.beq pc 272 then some (.aload 4, 2) else none))) else
      (bif Nat.blt pc 280 then (bif Nat.blt pc 277 then (bif Nat.beq pc 274 then some (.invokevirtual 129, 3) else none) else
        (bif Nat.beq pc 277 then some (.invokestatic 263, 3) else none)) else
       (bif Nat.blt pc 281 then (bif Nat.beq pc 280 then some (.aload_n 0, 1) else none) else
        (bif Nat.beq pc 281 then some (.invokevirtual 139, 3) else none)))))))) else
 (bif Nat.blt pc 397 then (bif Nat.blt pc 340 then (bif Nat.blt pc 314 then (bif Nat.blt pc 297 then (bif Nat.blt pc 291 then (bif Nat.blt pc 287 then (bif Nat.beq pc 284 then some (.invokestatic 165, 3) else none) else
       (bif Nat.blt pc 290 then (bif Nat.beq pc 287 then some (.if_icmp .ne 7, 3) else none) else
        (bif Nat.beq pc 290 then some (.iconst 1, 1) else none))) else
      (bif Nat.blt pc 295 then (bif Nat.blt pc 294 then (bif Nat.beq pc 291 then some (.goto 4, 3) else none) else
        (bif Nat.beq pc 294 then some (.iconst 0, 1) else none)) else
       (bif Nat.blt pc 296 then (bif Nat.beq pc 295 then some (.ireturn, 1) else none) else
        (bif Nat.beq pc 296 then some (.iload_n 3, 1) else none)))) else
     (bif Nat.blt pc 304 then (bif Nat.blt pc 301 then (bif Nat.blt pc 300 then (bif Nat.beq pc 297 then some (.ifCond .ne 19, 3) else none) else
        (bif Nat.beq pc 300 then some (.aload_n 0, 1) else none)) else
       (bif Nat.blt pc 302 then (bif Nat.beq pc 301 then some (.iconst 0, 1) else none) else
        (bif Nat.beq pc 302 then some (.bipush 12, 2) else none))) else
      (bif Nat.blt pc 310 then (bif Nat.blt pc 307 then (bif Nat.beq pc 304 then some (.invokevirtual 47, 3) else none) else
        (bif Nat.beq pc 307 then some (.ifCond .lt 7, 3) else none)) else
       (bif Nat.blt pc 311 then (bif Nat.beq pc 310 then some (.iconst 1, 1) else none) else
        (bif Nat.beq pc 311 then some (.goto 4, 3) else none))))) else
    (bif Nat.blt pc 326 then (bif Nat.blt pc 320 then (bif Nat.blt pc 316 then (bif Nat.blt pc 315 then (bif Nat.beq pc 314 then some (.iconst 0, 1) else none) else
        (bif Nat.beq pc 315 then some (.ireturn, 1) else none)) else
       (bif Nat.blt pc 317 then (bif Nat.beq pc 316 then some (.aload_n 1, 1) else none) else
        (bif Nat.beq pc 317 then some (.invokestatic 62, 3) else none))) else
      (bif Nat.blt pc 322 then (bif Nat.blt pc 321 then (bif Nat.beq pc 320 then some (.iload_n 3, 1) else none) else
        (bif Nat.beq pc 321 then some (.irem, 1) else none)) else
       (bif Nat.blt pc 324 then (bif Nat.beq pc 322 then some (.istore 11, 2) else none) else
        (bif Nat.beq pc 324 then some (.aload 4, 2) else none)))) else
     (bif Nat.blt pc 332 then (bif Nat.blt pc 328 then (bif Nat.blt pc 327 then (bif Nat.beq pc 326 then some (.iconst 1, 1) else none) else
        (bif Nat.beq pc 327 then some (.iconst 2, 1) else none)) else
       (bif Nat.blt pc 329 then (bif Nat.beq pc 328 then some (.aload_n 1, 1) else none) else
        (bif Nat.beq pc 329 then some (.invokestatic 103, 3) else none))) else
      (bif Nat.blt pc 335 then (bif Nat.blt pc 333 then (bif Nat.beq pc 332 then some (.aload_n 0, 1) else none) else
        (bif Nat.beq pc 333 then some (.iload 11, 2) else none)) else
       (bif Nat.blt pc 337 then (bif Nat.beq pc 335 then some (.aload 4, 2) else none) else
        (bif Nat.beq pc 337 then some (.invokevirtual 129, 3) else none)))))) else
   (bif Nat.blt pc 369 then (bif Nat.blt pc 357 then (bif Nat.blt pc 347 then (bif Nat.blt pc 344 then (bif Nat.blt pc 343 then (bif Nat.beq pc 340 then some (.invokestatic 265, 3) else none) else
        (bif Nat.beq pc 343 then some (.aload_n 0, 1) else none)) else
       (bif Nat.blt pc 346 then (bif Nat.beq pc 344 then some (.iload 11, 2) else none) else
        (bif Nat.beq pc 346 then some (.iconst 1, 1) else none))) else
      (bif Nat.blt pc 353 then (bif Nat.blt pc 350 then (bif Nat.beq pc 347 then some (.invokevirtual 152, 3) else none) else
        (bif Nat.beq pc 350 then some (.invokestatic 165, 3) else none)) else
       (bif Nat.blt pc 356 then (bif Nat.beq pc 353 then some (.if_icmp .ne 7, 3) else none) else
        (bif Nat.beq pc 356 then some (.iconst 1, 1) else none)))) else
     (bif Nat.blt pc 363 then (bif Nat.blt pc 361 then (bif Nat.blt pc 360 then (bif Nat.beq pc 357 then some (.goto 4, 3) else none) else
        (bif Nat.beq pc 360 then some (.iconst 0, 1) else none)) else
       (bif Nat.blt pc 362 then (bif Nat.beq pc 361 then some (.ireturn, 1) else none) else
        (bif Nat.beq pc 362 then some (.iload_n 3, 1) else none))) else
      (bif Nat.blt pc 367 then (bif Nat.blt pc 366 then (bif Nat.beq pc 363 then some (.ifCond .ne 18, 3) else none) else
        (bif Nat.beq pc 366 then some (.aload_n 0, 1) else none)) else
       (bif Nat.blt pc 368 then (bif Nat.beq pc 367 then some (.iconst 0, 1) else none) else
        (bif Nat.beq pc 368 then some (.iconst 3, 1) else none))))) else
    (bif Nat.blt pc 385 then (bif Nat.blt pc 379 then (bif Nat.blt pc 375 then (bif Nat.blt pc 372 then (bif Nat.beq pc 369 then some (.invokevirtual 47, 3) else none) else
        (bif Nat.beq pc 372 then some (.ifCond .lt 7, 3) else none)) else
       (bif Nat.blt pc 376 then (bif Nat.beq pc 375 then some (.iconst 1, 1) else none) else
        (bif Nat.beq pc 376 then some (.goto 4, 3) else none))) else
      (bif Nat.blt pc 381 then (bif Nat.blt pc 380 then (bif Nat.beq pc 379 then some (.iconst 0, 1) else none) else
        (bif Nat.beq pc 380 then some (.ireturn, 1) else none)) else
       (bif Nat.blt pc 382 then (bif Nat.beq pc 381 then some (.aload_n 1, 1) else none) else
        (bif Nat.beq pc 382 then some (.invokestatic 62, 3) else none)))) else
     (bif Nat.blt pc 391 then (bif Nat.blt pc 387 then (bif Nat.blt pc 386 then (bif Nat.beq pc 385 then some (.iload_n 3, 1) else none) else
        (bif Nat.beq pc 386 then some (.irem, 1) else none)) else
       (bif Nat.blt pc 389 then (bif Nat.beq pc 387 then some (.istore 12, 2) else none) else
        (bif Nat.beq pc 389 then some (.aload 4, 2) else none))) else
      (bif Nat.blt pc 393 then (bif Nat.blt pc 392 then (bif Nat.beq pc 391 then some (.iconst 0, 1) else none) else
        (bif Nat.beq pc 392 then some (.iconst 2, 1) else none)) else
       (bif Nat.blt pc 394 then (bif Nat.beq pc 393 then some (.aload_n 1, 1) else none) else
        (bif Nat.beq pc 394 then some (.invokestatic 103, 3) else none))))))) else
  (bif Nat.blt pc 464 then (bif Nat.blt pc 426 then (bif Nat.blt pc 411 then (bif Nat.blt pc 402 then (bif Nat.blt pc 398 then (bif Nat.beq pc 397 then some (.aload_n 0, 1) else none) else
       (bif Nat.blt pc 400 then (bif Nat.beq pc 398 then some (.iload 12, 2) else none) else
        (bif Nat.beq pc 400 then some (.aload 4, 2) else none))) else
      (bif Nat.blt pc 408 then (bif Nat.blt pc 405 then (bif Nat.beq pc 402 then some (.invokevirtual 129, 3) else none) else
        (bif Nat.beq pc 405 then some (.invokestatic 269, 3) else none)) else
       (bif Nat.blt pc 410 then (bif Nat.beq pc 408 then some (.istore 13, 2) else none) else
        (bif Nat.beq pc 410 then some (.iconst (-1), 1) else none)))) else
     (bif Nat.blt pc 418 then (bif Nat.blt pc 414 then (bif Nat.blt pc 413 then (bif Nat.beq pc 411 then some (.istore 14, 2) else none) else
        (bif Nat.beq pc 413 then some (.iconst 0, 1) else none)) else
       (bif Nat.blt pc 416 then (bif Nat.beq pc 414 then some (.istore 15, 2) else none) else
        (bif Nat.beq pc 416 then some (.iload 15, 2) else none))) else
      (bif Nat.blt pc 423 then (bif Nat.blt pc 420 then (bif Nat.beq pc 418 then some (.bipush 64, 2) else none) else
        (bif Nat.beq pc 420 then some (.if_icmp .ge 44, 3) else none)) else
       (bif Nat.blt pc 424 then (bif Nat.beq pc 423 then some (.aload_n 0, 1) else none) else
        (bif Nat.beq pc 424 then some (.iload 12, 2) else none))))) else
    (bif Nat.blt pc 443 then (bif Nat.blt pc 435 then (bif Nat.blt pc 430 then (bif Nat.blt pc 427 then (bif Nat.beq pc 426 then some (.iconst 1, 1) else none) else
        (bif Nat.beq pc 427 then some (.invokevirtual 152, 3) else none)) else
       (bif Nat.blt pc 432 then (bif Nat.beq pc 430 then some (.iload 15, 2) else none) else
        (bif Nat.beq pc 432 then some (.invokestatic 215, 3) else none))) else
      (bif Nat.blt pc 440 then (bif Nat.blt pc 438 then (bif Nat.beq pc 435 then some (.ifCond .eq 19, 3) else none) else
        (bif Nat.beq pc 438 then some (.iload 14, 2) else none)) else
       (bif Nat.blt pc 441 then (bif Nat.beq pc 440 then some (.aload_n 0, 1) else none) else
        (bif Nat.beq pc 441 then some (.iload 12, 2) else none)))) else
     (bif Nat.blt pc 454 then (bif Nat.blt pc 448 then (bif Nat.blt pc 445 then (bif Nat.beq pc 443 then some (.iload 15, 2) else none) else
        (bif Nat.beq pc 445 then some (.invokevirtual 156, 3) else none)) else
       (bif Nat.blt pc 451 then (bif Nat.beq pc 448 then some (.invokestatic 271, 3) else none) else
        (bif Nat.beq pc 451 then some (.goto 5, 3) else none))) else
      (bif Nat.blt pc 458 then (bif Nat.blt pc 456 then (bif Nat.beq pc 454 then some (.iload 14, 2) else none) else
        (bif Nat.beq pc 456 then some (.istore 14, 2) else none)) else
       (bif Nat.blt pc 461 then (bif Nat.beq pc 458 then some (.iinc 15 1, 3) else none) else
        (bif Nat.beq pc 461 then some (.goto (-45), 3) else none)))))) else
   (bif Nat.blt pc 492 then (bif Nat.blt pc 478 then (bif Nat.blt pc 472 then (bif Nat.blt pc 468 then (bif Nat.blt pc 466 then (bif Nat.beq pc 464 then some (.iload 13, 2) else none) else
        (bif Nat.beq pc 466 then some (.iload 14, 2) else none)) else
       (bif Nat.blt pc 471 then (bif Nat.beq pc 468 then some (.if_icmp .ne 7, 3) else none) else
        (bif Nat.beq pc 471 then some (.iconst 1, 1) else none))) else
      (bif Nat.blt pc 476 then (bif Nat.blt pc 475 then (bif Nat.beq pc 472 then some (.goto 4, 3) else none) else
        (bif Nat.beq pc 475 then some (.iconst 0, 1) else none)) else
       (bif Nat.blt pc 477 then (bif Nat.beq pc 476 then some (.ireturn, 1) else none) else
        (bif Nat.beq pc 477 then some (.aload_n 1, 1) else none)))) else
     (bif Nat.blt pc 486 then (bif Nat.blt pc 482 then (bif Nat.blt pc 481 then (bif Nat.beq pc 478 then some (.invokestatic 62, 3) else none) else
        (bif Nat.beq pc 481 then some (.aload_n 0, 1) else none)) else
       (bif Nat.blt pc 483 then (bif Nat.beq pc 482 then some (.iconst 0, 1) else none) else
        (bif Nat.beq pc 483 then some (.invokevirtual 142, 3) else none))) else
      (bif Nat.blt pc 489 then (bif Nat.blt pc 487 then (bif Nat.beq pc 486 then some (.irem, 1) else none) else
        (bif Nat.beq pc 487 then some (.istore 15, 2) else none)) else
       (bif Nat.blt pc 490 then (bif Nat.beq pc 489 then some (.aload_n 0, 1) else none) else
        (bif Nat.beq pc 490 then some (.iload 15, 2) else none))))) else
    (bif Nat.blt pc 507 then (bif Nat.blt pc 499 then (bif Nat.blt pc 496 then (bif Nat.blt pc 493 then (bif Nat.beq pc 492 then some (.iconst 5, 1) else none) else
        (bif Nat.beq pc 493 then some (.invokevirtual 145, 3) else none)) else
       (bif Nat.blt pc 498 then (bif Nat.beq pc 496 then some (.istore 16, 2) else none) else
        (bif Nat.beq pc 498 then some (.aload_n 0, 1) else none))) else
      (bif Nat.blt pc 502 then (bif Nat.blt pc 501 then (bif Nat.beq pc 499 then some (.iload 15, 2) else none) else
        (bif Nat.beq pc 501 then some (.aload_n 1, 1) else none)) else
       (bif Nat.blt pc 505 then (bif Nat.beq pc 502 then some (.invokestatic 62, 3) else none) else
        (bif Nat.beq pc 505 then some (.bipush 100, 2) else none)))) else
     (bif Nat.blt pc 516 then (bif Nat.blt pc 511 then (bif Nat.blt pc 508 then (bif Nat.beq pc 507 then some (.irem, 1) else none) else
        (bif Nat.beq pc 508 then some (.invokestatic 276, 3) else none)) else
       (bif Nat.blt pc 513 then (bif Nat.beq pc 511 then some (.iload 16, 2) else none) else
        (bif Nat.beq pc 513 then some (.if_icmp .ne 7, 3) else none))) else
      (bif Nat.blt pc 520 then (bif Nat.blt pc 517 then (bif Nat.beq pc 516 then some (.iconst 1, 1) else none) else
        (bif Nat.beq pc 517 then some (.goto 4, 3) else none)) else
       (bif Nat.blt pc 521 then (bif Nat.beq pc 520 then some (.iconst 0, 1) else none) else
        (bif Nat.beq pc 521 then some (.ireturn, 1) else none))))))))) else none
set_option maxRecDepth 10000 in
noncomputable def zc_221 (pc : Nat) : Option (Instr × Nat) :=
 bif Nat.blt pc 28 then (bif Nat.blt pc 13 then (bif Nat.blt pc 6 then (bif Nat.blt pc 2 then (bif Nat.blt pc 1 then (bif Nat.beq pc 0 then some (.aload_n 0, 1) else none) else
    (bif Nat.beq pc 1 then some (.aload_n 2, 1) else none)) else
   (bif Nat.blt pc 5 then (bif Nat.beq pc 2 then some (.invokestatic 24, 3) else none) else
    (bif Nat.beq pc 5 then some (.istore_n 3, 1) else none))) else
  (bif Nat.blt pc 8 then (bif Nat.blt pc 7 then (bif Nat.beq pc 6 then some (.aload_n 0, 1) else none) else
    (bif Nat.beq pc 7 then some (.iload_n 1, 1) else none)) else
   (bif Nat.blt pc 9 then (bif Nat.beq pc 8 then some (.iload_n 3, 1) else none) else
    (bif Nat.blt pc 12 then (bif Nat.beq pc 9 then some (.invokevirtual 56, 3) else none) else
     (bif Nat.beq pc 12 then some (.ireturn, 1) else none))))) else
 (bif Nat.blt pc 20 then (bif Nat.blt pc 17 then (bif Nat.blt pc 15 then (bif Nat.beq pc 13 then some (.astore 4, 2) else none) else
    (bif Nat.beq pc 15 then some (.bipush (-5), 2) else none)) else
   (bif Nat.blt pc 18 then (bif Nat.beq pc 17 then some (.ireturn, 1) else none) else
    (bif Nat.beq pc 18 then some (.astore 4, 2) else none))) else
  (bif Nat.blt pc 23 then (bif Nat.blt pc 22 then (bif Nat.beq pc 20 then some (.bipush (-2), 2) else none) else
    (bif Nat.beq pc 22 then some (.ireturn, 1) else none)) else
   (bif Nat.blt pc 25 then (bif Nat.beq pc 23 then some (.astore 4, 2) else none) else
    (bif Nat.blt pc 27 then (bif Nat.beq pc 25 then some (.bipush (-3), 2) else none) else
     (bif Nat.beq pc 27 then some (.ireturn, 1) else none)))))) else none
set_option maxRecDepth 10000 in
noncomputable def zc_222 (pc : Nat) : Option (Instr × Nat) :=
 bif Nat.blt pc 28 then (bif Nat.blt pc 13 then (bif Nat.blt pc 6 then (bif Nat.blt pc 2 then (bif Nat.blt pc 1 then (bif Nat.beq pc 0 then some (.aload_n 0, 1) else none) else
    (bif Nat.beq pc 1 then some (.aload_n 2, 1) else none)) else
   (bif Nat.blt pc 5 then (bif Nat.beq pc 2 then some (.invokestatic 24, 3) else none) else
    (bif Nat.beq pc 5 then some (.istore_n 3, 1) else none))) else
  (bif Nat.blt pc 8 then (bif Nat.blt pc 7 then (bif Nat.beq pc 6 then some (.aload_n 0, 1) else none) else
    (bif Nat.beq pc 7 then some (.iload_n 1, 1) else none)) else
   (bif Nat.blt pc 9 then (bif Nat.beq pc 8 then some (.iload_n 3, 1) else none) else
    (bif Nat.blt pc 12 then (bif Nat.beq pc 9 then some (.invokevirtual 59, 3) else none) else
     (bif Nat.beq pc 12 then some (.ireturn, 1) else none))))) else
 (bif Nat.blt pc 20 then (bif Nat.blt pc 17 then (bif Nat.blt pc 15 then (bif Nat.beq pc 13 then some (.astore 4, 2) else none) else
    (bif Nat.beq pc 15 then some (.bipush (-5), 2) else none)) else
   (bif Nat.blt pc 18 then (bif Nat.beq pc 17 then some (.ireturn, 1) else none) else
    (bif Nat.beq pc 18 then some (.astore 4, 2) else none))) else
  (bif Nat.blt pc 23 then (bif Nat.blt pc 22 then (bif Nat.beq pc 20 then some (.bipush (-2), 2) else none) else
    (bif Nat.beq pc 22 then some (.ireturn, 1) else none)) else
   (bif Nat.blt pc 25 then (bif Nat.beq pc 23 then some (.astore 4, 2) else none) else
    (bif Nat.blt pc 27 then (bif Nat.beq pc 25 then some (.bipush (-3), 2) else none) else
     (bif Nat.beq pc 27 then some (.ireturn, 1) else none)))))) else none
set_option maxRecDepth 10000 in
noncomputable def zc_223 (pc : Nat) : Option (Instr × Nat) :=
 bif Nat.blt pc 11 then (bif Nat.blt pc 5 then (bif Nat.blt pc 1 then (bif Nat.beq pc 0 then some (.iload_n 0, 1) else none) else
  (bif Nat.blt pc 2 then (bif Nat.beq pc 1 then some (.iload_n 1, 1) else none) else
   (bif Nat.beq pc 2 then some (.if_icmp .lt 7, 3) else none))) else
 (bif Nat.blt pc 9 then (bif Nat.blt pc 6 then (bif Nat.beq pc 5 then some (.iload_n 0, 1) else none) else
   (bif Nat.beq pc 6 then some (.goto 4, 3) else none)) else
  (bif Nat.blt pc 10 then (bif Nat.beq pc 9 then some (.iload_n 1, 1) else none) else
   (bif Nat.beq pc 10 then some (.ireturn, 1) else none)))) else none
set_option maxRecDepth 10000 in
noncomputable def zc_224 (pc : Nat) : Option (Instr × Nat) :=
 bif Nat.blt pc 11 then (bif Nat.blt pc 5 then (bif Nat.blt pc 1 then (bif Nat.beq pc 0 then some (.iload_n 0, 1) else none) else
  (bif Nat.blt pc 2 then (bif Nat.beq pc 1 then some (.iload_n 1, 1) else none) else
   (bif Nat.beq pc 2 then some (.if_icmp .gt 7, 3) else none))) else
 (bif Nat.blt pc 9 then (bif Nat.blt pc 6 then (bif Nat.beq pc 5 then some (.iload_n 0, 1) else none) else
   (bif Nat.beq pc 6 then some (.goto 4, 3) else none)) else
  (bif Nat.blt pc 10 then (bif Nat.beq pc 9 then some (.iload_n 1, 1) else none) else
   (bif Nat.beq pc 10 then some (.ireturn, 1) else none)))) else none
set_option maxRecDepth 10000 in
noncomputable def zc_225 (pc : Nat) : Option (Instr × Nat) :=
 bif Nat.blt pc 20 then (bif Nat.blt pc 10 then (bif Nat.blt pc 4 then (bif Nat.blt pc 2 then (bif Nat.blt pc 1 then (bif Nat.beq pc 0 then some (.iload_n 0, 1) else none) else
    (bif Nat.beq pc 1 then some (.iload_n 1, 1) else none)) else
   (bif Nat.blt pc 3 then (bif Nat.beq pc 2 then some (.irem, 1) else none) else
    (bif Nat.beq pc 3 then some (.istore_n 2, 1) else none))) else
  (bif Nat.blt pc 6 then (bif Nat.blt pc 5 then (bif Nat.beq pc 4 then some (.iload_n 0, 1) else none) else
    (bif Nat.beq pc 5 then some (.iload_n 1, 1) else none)) else
   (bif Nat.blt pc 7 then (bif Nat.beq pc 6 then some (.ixor, 1) else none) else
    (bif Nat.beq pc 7 then some (.ifCond .ge 11, 3) else none)))) else
 (bif Nat.blt pc 16 then (bif Nat.blt pc 14 then (bif Nat.blt pc 11 then (bif Nat.beq pc 10 then some (.iload_n 2, 1) else none) else
    (bif Nat.beq pc 11 then some (.ifCond .eq 7, 3) else none)) else
   (bif Nat.blt pc 15 then (bif Nat.beq pc 14 then some (.iload_n 2, 1) else none) else
    (bif Nat.beq pc 15 then some (.iload_n 1, 1) else none))) else
  (bif Nat.blt pc 18 then (bif Nat.blt pc 17 then (bif Nat.beq pc 16 then some (.iadd, 1) else none) else
    (bif Nat.beq pc 17 then some (.ireturn, 1) else none)) else
   (bif Nat.blt pc 19 then (bif Nat.beq pc 18 then some (.iload_n 2, 1) else none) else
    (bif Nat.beq pc 19 then some (.ireturn, 1) else none))))) else none
set_option maxRecDepth 10000 in
noncomputable def zc_226 (pc : Nat) : Option (Instr × Nat) :=
 bif Nat.blt pc 61 then (bif Nat.blt pc 32 then (bif Nat.blt pc 16 then (bif Nat.blt pc 8 then (bif Nat.blt pc 3 then (bif Nat.blt pc 1 then (bif Nat.beq pc 0 then some (.lload_n 0, 1) else none) else
     (bif Nat.blt pc 2 then (bif Nat.beq pc 1 then some (.lload_n 0, 1) else none) else
      (bif Nat.beq pc 2 then some (.iconst 1, 1) else none))) else
    (bif Nat.blt pc 4 then (bif Nat.beq pc 3 then some (.lushr, 1) else none) else
     (bif Nat.blt pc 7 then (bif Nat.beq pc 4 then some (.ldc2_w 314, 3) else none) else
      (bif Nat.beq pc 7 then some (.land, 1) else none)))) else
   (bif Nat.blt pc 11 then (bif Nat.blt pc 9 then (bif Nat.beq pc 8 then some (.lsub, 1) else none) else
     (bif Nat.blt pc 10 then (bif Nat.beq pc 9 then some (.lstore_n 0, 1) else none) else
      (bif Nat.beq pc 10 then some (.lload_n 0, 1) else none))) else
    (bif Nat.blt pc 14 then (bif Nat.beq pc 11 then some (.ldc2_w 316, 3) else none) else
     (bif Nat.blt pc 15 then (bif Nat.beq pc 14 then some (.land, 1) else none) else
      (bif Nat.beq pc 15 then some (.lload_n 0, 1) else none))))) else
  (bif Nat.blt pc 24 then (bif Nat.blt pc 21 then (bif Nat.blt pc 17 then (bif Nat.beq pc 16 then some (.iconst 2, 1) else none) else
     (bif Nat.blt pc 18 then (bif Nat.beq pc 17 then some (.lushr, 1) else none) else
      (bif Nat.beq pc 18 then some (.ldc2_w 316, 3) else none))) else
    (bif Nat.blt pc 22 then (bif Nat.beq pc 21 then some (.land, 1) else none) else
     (bif Nat.blt pc 23 then (bif Nat.beq pc 22 then some (.ladd, 1) else none) else
      (bif Nat.beq pc 23 then some (.lstore_n 0, 1) else none)))) else
   (bif Nat.blt pc 27 then (bif Nat.blt pc 25 then (bif Nat.beq pc 24 then some (.lload_n 0, 1) else none) else
     (bif Nat.blt pc 26 then (bif Nat.beq pc 25 then some (.lload_n 0, 1) else none) else
      (bif Nat.beq pc 26 then some (.iconst 4, 1) else none))) else
    (bif Nat.blt pc 28 then (bif Nat.beq pc 27 then some (.lushr, 1) else none) else
     (bif Nat.blt pc 29 then (bif Nat.beq pc 28 then some (.ladd, 1) else none) else
      (bif Nat.beq pc 29 then some (.ldc2_w 318, 3) else none)))))) else
 (bif Nat.blt pc 46 then (bif Nat.blt pc 39 then (bif Nat.blt pc 35 then (bif Nat.blt pc 33 then (bif Nat.beq pc 32 then some (.land, 1) else none) else
     (bif Nat.blt pc 34 then (bif Nat.beq pc 33 then some (.lstore_n 0, 1) else none) else
      (bif Nat.beq pc 34 then some (.lload_n 0, 1) else none))) else
    (bif Nat.blt pc 36 then (bif Nat.beq pc 35 then some (.lload_n 0, 1) else none) else
     (bif Nat.blt pc 38 then (bif Nat.beq pc 36 then some (.bipush 8, 2) else none) else
      (bif Nat.beq pc 38 then some (.lushr, 1) else none)))) else
   (bif Nat.blt pc 42 then (bif Nat.blt pc 40 then (bif Nat.beq pc 39 then some (.ladd, 1) else none) else
     (bif Nat.blt pc 41 then (bif Nat.beq pc 40 then some (.lstore_n 0, 1) else none) else
      (bif Nat.beq pc 41 then some (.lload_n 0, 1) else none))) else
    (bif Nat.blt pc 43 then (bif Nat.beq pc 42 then some (.lload_n 0, 1) else none) else
     (bif Nat.blt pc 45 then (bif Nat.beq pc 43 then some (.bipush 16, 2) else none) else
      (bif Nat.beq pc 45 then some (.lushr, 1) else none))))) else
  (bif Nat.blt pc 53 then (bif Nat.blt pc 49 then (bif Nat.blt pc 47 then (bif Nat.beq pc 46 then some (.ladd, 1) else none) else
     (bif Nat.blt pc 48 then (bif Nat.beq pc 47 then some (.lstore_n 0, 1) else none) else
      (bif Nat.beq pc 48 then some (.lload_n 0, 1) else none))) else
    (bif Nat.blt pc 50 then (bif Nat.beq pc 49 then some (.lload_n 0, 1) else none) else
     (bif Nat.blt pc 52 then (bif Nat.beq pc 50 then some (.bipush 32, 2) else none) else
      (bif Nat.beq pc 52 then some (.lushr, 1) else none)))) else
   (bif Nat.blt pc 56 then (bif Nat.blt pc 54 then (bif Nat.beq pc 53 then some (.ladd, 1) else none) else
     (bif Nat.blt pc 55 then (bif Nat.beq pc 54 then some (.lstore_n 0, 1) else none) else
      (bif Nat.beq pc 55 then some (.lload_n 0, 1) else none))) else
    (bif Nat.blt pc 59 then (bif Nat.blt pc 57 then (bif Nat.beq pc 56 then some (.l2i, 1) else none) else
      (bif Nat.beq pc 57 then some (.bipush 127, 2) else none)) else
     (bif Nat.blt pc 60 then (bif Nat.beq pc 59 then some (.iand, 1) else none) else
      (bif Nat.beq pc 60 then some (.ireturn, 1) else none))))))) else none
set_option maxRecDepth 10000 in
noncomputable def zc_227 (pc : Nat) : Option (Instr × Nat) :=
 bif Nat.blt pc 26 then (bif Nat.blt pc 12 then (bif Nat.blt pc 4 then (bif Nat.blt pc 2 then (bif Nat.blt pc 1 then (bif Nat.beq pc 0 then some (.lload_n 0, 1) else none) else
    (bif Nat.beq pc 1 then some (.l2i, 1) else none)) else
   (bif Nat.blt pc 3 then (bif Nat.beq pc 2 then some (.istore_n 2, 1) else none) else
    (bif Nat.beq pc 3 then some (.iload_n 2, 1) else none))) else
  (bif Nat.blt pc 9 then (bif Nat.blt pc 7 then (bif Nat.beq pc 4 then some (.ifCond .ne 17, 3) else none) else
    (bif Nat.beq pc 7 then some (.bipush 32, 2) else none)) else
   (bif Nat.blt pc 10 then (bif Nat.beq pc 9 then some (.lload_n 0, 1) else none) else
    (bif Nat.beq pc 10 then some (.bipush 32, 2) else none)))) else
 (bif Nat.blt pc 18 then (bif Nat.blt pc 14 then (bif Nat.blt pc 13 then (bif Nat.beq pc 12 then some (.lushr, 1) else none) else
    (bif Nat.beq pc 13 then some (.l2i, 1) else none)) else
   (bif Nat.blt pc 17 then (bif Nat.beq pc 14 then some (.invokestatic 311, 3) else none) else
    (bif Nat.beq pc 17 then some (.iadd, 1) else none))) else
  (bif Nat.blt pc 22 then (bif Nat.blt pc 21 then (bif Nat.beq pc 18 then some (.goto 7, 3) else none) else
    (bif Nat.beq pc 21 then some (.iload_n 2, 1) else none)) else
   (bif Nat.blt pc 25 then (bif Nat.beq pc 22 then some (.invokestatic 311, 3) else none) else
    (bif Nat.beq pc 25 then some (.ireturn, 1) else none))))) else none
set_option maxRecDepth 10000 in
noncomputable def zc_228 (pc : Nat) : Option (Instr × Nat) :=
 bif Nat.blt pc 23 then (bif Nat.blt pc 9 then (bif Nat.blt pc 3 then (bif Nat.blt pc 1 then (bif Nat.beq pc 0 then some (.iconst 0, 1) else none) else
   (bif Nat.blt pc 2 then (bif Nat.beq pc 1 then some (.istore_n 3, 1) else none) else
    (bif Nat.beq pc 2 then some (.aload_n 0, 1) else none))) else
  (bif Nat.blt pc 6 then (bif Nat.blt pc 4 then (bif Nat.beq pc 3 then some (.arraylength, 1) else none) else
    (bif Nat.beq pc 4 then some (.istore 4, 2) else none)) else
   (bif Nat.blt pc 7 then (bif Nat.beq pc 6 then some (.iload_n 3, 1) else none) else
    (bif Nat.beq pc 7 then some (.iload 4, 2) else none)))) else
 (bif Nat.blt pc 15 then (bif Nat.blt pc 13 then (bif Nat.blt pc 12 then (bif Nat.beq pc 9 then some (.if_icmp .ge 13, 3) else none) else
    (bif Nat.beq pc 12 then some (.aload_n 0, 1) else none)) else
   (bif Nat.blt pc 14 then (bif Nat.beq pc 13 then some (.iload_n 3, 1) else none) else
    (bif Nat.beq pc 14 then some (.lload_n 1, 1) else none))) else
  (bif Nat.blt pc 19 then (bif Nat.blt pc 16 then (bif Nat.beq pc 15 then some (.lastore, 1) else none) else
    (bif Nat.beq pc 16 then some (.iinc 3 1, 3) else none)) else
   (bif Nat.blt pc 22 then (bif Nat.beq pc 19 then some (.goto (-13), 3) else none) else
    (bif Nat.beq pc 22 then some (.return_, 1) else none))))) else none
set_option maxRecDepth 10000 in
noncomputable def zc_229 (pc : Nat) : Option (Instr × Nat) :=
 bif Nat.blt pc 25 then (bif Nat.blt pc 11 then (bif Nat.blt pc 5 then (bif Nat.blt pc 1 then (bif Nat.beq pc 0 then some (.iload_n 1, 1) else none) else
   (bif Nat.blt pc 4 then (bif Nat.beq pc 1 then some (.ifCond .ne 9, 3) else none) else
    (bif Nat.beq pc 4 then some (.iload_n 2, 1) else none))) else
  (bif Nat.blt pc 7 then (bif Nat.blt pc 6 then (bif Nat.beq pc 5 then some (.aload_n 0, 1) else none) else
    (bif Nat.beq pc 6 then some (.arraylength, 1) else none)) else
   (bif Nat.blt pc 10 then (bif Nat.beq pc 7 then some (.if_icmp .eq 10, 3) else none) else
    (bif Nat.beq pc 10 then some (.aload_n 0, 1) else none)))) else
 (bif Nat.blt pc 17 then (bif Nat.blt pc 13 then (bif Nat.blt pc 12 then (bif Nat.beq pc 11 then some (.iload_n 1, 1) else none) else
    (bif Nat.beq pc 12 then some (.iload_n 2, 1) else none)) else
   (bif Nat.blt pc 16 then (bif Nat.beq pc 13 then some (.invokestatic 339, 3) else none) else
    (bif Nat.beq pc 16 then some (.areturn, 1) else none))) else
  (bif Nat.blt pc 21 then (bif Nat.blt pc 18 then (bif Nat.beq pc 17 then some (.aload_n 0, 1) else none) else
    (bif Nat.beq pc 18 then some (.invokevirtual 310, 3) else none)) else
   (bif Nat.blt pc 24 then (bif Nat.beq pc 21 then some (.checkcast 311, 3) else none) else
    (bif Nat.beq pc 24 then some (.areturn, 1) else none))))) else none
set_option maxRecDepth 10000 in
noncomputable def zc_230 (pc : Nat) : Option (Instr × Nat) :=
 bif Nat.blt pc 33 then (bif Nat.blt pc 15 then (bif Nat.blt pc 7 then (bif Nat.blt pc 2 then (bif Nat.blt pc 1 then (bif Nat.beq pc 0 then some (.iload_n 1, 1) else none) else
    (bif Nat.beq pc 1 then some (.iload_n 2, 1) else none)) else
   (bif Nat.blt pc 5 then (bif Nat.beq pc 2 then some (.invokestatic 343, 3) else none) else
    (bif Nat.blt pc 6 then (bif Nat.beq pc 5 then some (.iload_n 2, 1) else none) else
     (bif Nat.beq pc 6 then some (.iload_n 1, 1) else none)))) else
  (bif Nat.blt pc 10 then (bif Nat.blt pc 8 then (bif Nat.beq pc 7 then some (.isub, 1) else none) else
    (bif Nat.blt pc 9 then (bif Nat.beq pc 8 then some (.istore_n 3, 1) else none) else
     (bif Nat.beq pc 9 then some (.iload_n 3, 1) else none))) else
   (bif Nat.blt pc 12 then (bif Nat.beq pc 10 then some (.newarray .byte, 2) else none) else
    (bif Nat.blt pc 14 then (bif Nat.beq pc 12 then some (.astore 4, 2) else none) else
     (bif Nat.beq pc 14 then some (.aload_n 0, 1) else none))))) else
 (bif Nat.blt pc 22 then (bif Nat.blt pc 19 then (bif Nat.blt pc 16 then (bif Nat.beq pc 15 then some (.iload_n 1, 1) else none) else
    (bif Nat.blt pc 18 then (bif Nat.beq pc 16 then some (.aload 4, 2) else none) else
     (bif Nat.beq pc 18 then some (.iconst 0, 1) else none))) else
   (bif Nat.blt pc 20 then (bif Nat.beq pc 19 then some (.aload_n 0, 1) else none) else
    (bif Nat.blt pc 21 then (bif Nat.beq pc 20 then some (.arraylength, 1) else none) else
     (bif Nat.beq pc 21 then some (.iload_n 1, 1) else none)))) else
  (bif Nat.blt pc 27 then (bif Nat.blt pc 23 then (bif Nat.beq pc 22 then some (.isub, 1) else none) else
    (bif Nat.blt pc 24 then (bif Nat.beq pc 23 then some (.iload_n 3, 1) else none) else
     (bif Nat.beq pc 24 then some (.invokestatic 304, 3) else none))) else
   (bif Nat.blt pc 30 then (bif Nat.beq pc 27 then some (.invokestatic 150, 3) else none) else
    (bif Nat.blt pc 32 then (bif Nat.beq pc 30 then some (.aload 4, 2) else none) else
     (bif Nat.beq pc 32 then some (.areturn, 1) else none)))))) else none
set_option maxRecDepth 10000 in
noncomputable def zc_231 (pc : Nat) : Option (Instr × Nat) :=
 bif Nat.blt pc 38 then (bif Nat.blt pc 17 then (bif Nat.blt pc 8 then (bif Nat.blt pc 2 then (bif Nat.blt pc 1 then (bif Nat.beq pc 0 then some (.iload_n 1, 1) else none) else
    (bif Nat.beq pc 1 then some (.iload_n 0, 1) else none)) else
   (bif Nat.blt pc 5 then (bif Nat.beq pc 2 then some (.if_icmp .ge 35, 3) else none) else
    (bif Nat.beq pc 5 then some (.new 43, 3) else none))) else
  (bif Nat.blt pc 12 then (bif Nat.blt pc 9 then (bif Nat.beq pc 8 then some (.dup, 1) else none) else
    (bif Nat.beq pc 9 then some (.new 45, 3) else none)) else
   (bif Nat.blt pc 13 then (bif Nat.beq pc 12 then some (.dup, 1) else none) else
    (bif Nat.blt pc 16 then (bif Nat.beq pc 13 then some (.invokespecial 47, 3) else none) else
     (bif Nat.beq pc 16 then some (.iload_n 0, 1) else none))))) else
 (bif Nat.blt pc 27 then (bif Nat.blt pc 23 then (bif Nat.blt pc 20 then (bif Nat.beq pc 17 then some (.invokevirtual 54, 3) else none) else
    (bif Nat.beq pc 20 then some (.ldc_w 337, 3) else none)) else
   (bif Nat.blt pc 26 then (bif Nat.beq pc 23 then some (.invokevirtual 50, 3) else none) else
    (bif Nat.beq pc 26 then some (.iload_n 1, 1) else none))) else
  (bif Nat.blt pc 33 then (bif Nat.blt pc 30 then (bif Nat.beq pc 27 then some (.invokevirtual 54, 3) else none) else
    (bif Nat.beq pc 30 then some (.invokevirtual 61, 3) else none)) else
   (bif Nat.blt pc 36 then (bif Nat.beq pc 33 then some (.invokespecial 65, 3) else none) else
    (bif Nat.blt pc 37 then (bif Nat.beq pc 36 then some (.athrow, 1) else none) else
     (bif Nat.beq pc 37 then some (.return_, 1) else none)))))) else none
set_option maxRecDepth 10000 in
noncomputable def zc_232 (pc : Nat) : Option (Instr × Nat) :=
 bif Nat.blt pc 21 then (bif Nat.blt pc 7 then (bif Nat.blt pc 3 then (bif Nat.blt pc 1 then (bif Nat.beq pc 0 then some (.iconst 0, 1) else none) else
   (bif Nat.blt pc 2 then (bif Nat.beq pc 1 then some (.istore_n 2, 1) else none) else
    (bif Nat.beq pc 2 then some (.aload_n 0, 1) else none))) else
  (bif Nat.blt pc 5 then (bif Nat.blt pc 4 then (bif Nat.beq pc 3 then some (.arraylength, 1) else none) else
    (bif Nat.beq pc 4 then some (.istore_n 3, 1) else none)) else
   (bif Nat.blt pc 6 then (bif Nat.beq pc 5 then some (.iload_n 2, 1) else none) else
    (bif Nat.beq pc 6 then some (.iload_n 3, 1) else none)))) else
 (bif Nat.blt pc 13 then (bif Nat.blt pc 11 then (bif Nat.blt pc 10 then (bif Nat.beq pc 7 then some (.if_icmp .ge 13, 3) else none) else
    (bif Nat.beq pc 10 then some (.aload_n 0, 1) else none)) else
   (bif Nat.blt pc 12 then (bif Nat.beq pc 11 then some (.iload_n 2, 1) else none) else
    (bif Nat.beq pc 12 then some (.iload_n 1, 1) else none))) else
  (bif Nat.blt pc 17 then (bif Nat.blt pc 14 then (bif Nat.beq pc 13 then some (.iastore, 1) else none) else
    (bif Nat.beq pc 14 then some (.iinc 2 1, 3) else none)) else
   (bif Nat.blt pc 20 then (bif Nat.beq pc 17 then some (.goto (-12), 3) else none) else
    (bif Nat.beq pc 20 then some (.return_, 1) else none))))) else none
set_option maxRecDepth 10000 in
noncomputable def zc_233 (pc : Nat) : Option (Instr × Nat) :=
 bif Nat.blt pc 15 then (bif Nat.blt pc 8 then (bif Nat.blt pc 4 then (bif Nat.blt pc 1 then (bif Nat.beq pc 0 then some (.fload_n 0, 1) else none) else
   (bif Nat.beq pc 1 then some (.invokestatic 59, 3) else none)) else
  (bif Nat.blt pc 7 then (bif Nat.beq pc 4 then some (.ifCond .ne 8, 3) else none) else
   (bif Nat.beq pc 7 then some (.fload_n 0, 1) else none))) else
 (bif Nat.blt pc 12 then (bif Nat.blt pc 11 then (bif Nat.beq pc 8 then some (.invokestatic 74, 3) else none) else
   (bif Nat.beq pc 11 then some (.ireturn, 1) else none)) else
  (bif Nat.blt pc 14 then (bif Nat.beq pc 12 then some (.ldc 77, 2) else none) else
   (bif Nat.beq pc 14 then some (.ireturn, 1) else none)))) else none
set_option maxRecDepth 10000 in
noncomputable def zc_234 (pc : Nat) : Option (Instr × Nat) :=
 bif Nat.blt pc 12 then (bif Nat.blt pc 6 then (bif Nat.blt pc 2 then (bif Nat.blt pc 1 then (bif Nat.beq pc 0 then some (.fload_n 0, 1) else none) else
   (bif Nat.beq pc 1 then some (.fload_n 0, 1) else none)) else
  (bif Nat.blt pc 3 then (bif Nat.beq pc 2 then some (.fcmp .l, 1) else none) else
   (bif Nat.beq pc 3 then some (.ifCond .eq 7, 3) else none))) else
 (bif Nat.blt pc 10 then (bif Nat.blt pc 7 then (bif Nat.beq pc 6 then some (.iconst 1, 1) else none) else
   (bif Nat.beq pc 7 then some (.goto 4, 3) else none)) else
  (bif Nat.blt pc 11 then (bif Nat.beq pc 10 then some (.iconst 0, 1) else none) else
   (bif Nat.beq pc 11 then some (.ireturn, 1) else none)))) else none
set_option maxRecDepth 10000 in
noncomputable def zc_235 (pc : Nat) : Option (Instr × Nat) :=
 bif Nat.blt pc 16 then (bif Nat.blt pc 8 then (bif Nat.blt pc 4 then (bif Nat.blt pc 1 then (bif Nat.beq pc 0 then some (.dload_n 0, 1) else none) else
   (bif Nat.beq pc 1 then some (.invokestatic 122, 3) else none)) else
  (bif Nat.blt pc 7 then (bif Nat.beq pc 4 then some (.ifCond .ne 8, 3) else none) else
   (bif Nat.beq pc 7 then some (.dload_n 0, 1) else none))) else
 (bif Nat.blt pc 12 then (bif Nat.blt pc 11 then (bif Nat.beq pc 8 then some (.invokestatic 134, 3) else none) else
   (bif Nat.beq pc 11 then some (.lreturn, 1) else none)) else
  (bif Nat.blt pc 15 then (bif Nat.beq pc 12 then some (.ldc2_w 137, 3) else none) else
   (bif Nat.beq pc 15 then some (.lreturn, 1) else none)))) else none
set_option maxRecDepth 10000 in
noncomputable def zc_236 (pc : Nat) : Option (Instr × Nat) :=
 bif Nat.blt pc 12 then (bif Nat.blt pc 6 then (bif Nat.blt pc 2 then (bif Nat.blt pc 1 then (bif Nat.beq pc 0 then some (.dload_n 0, 1) else none) else
   (bif Nat.beq pc 1 then some (.dload_n 0, 1) else none)) else
  (bif Nat.blt pc 3 then (bif Nat.beq pc 2 then some (.dcmp .l, 1) else none) else
   (bif Nat.beq pc 3 then some (.ifCond .eq 7, 3) else none))) else
 (bif Nat.blt pc 10 then (bif Nat.blt pc 7 then (bif Nat.beq pc 6 then some (.iconst 1, 1) else none) else
   (bif Nat.beq pc 7 then some (.goto 4, 3) else none)) else
  (bif Nat.blt pc 11 then (bif Nat.beq pc 10 then some (.iconst 0, 1) else none) else
   (bif Nat.beq pc 11 then some (.ireturn, 1) else none)))) else none
set_option maxRecDepth 10000 in
noncomputable def zc_237 (pc : Nat) : Option (Instr × Nat) :=
 bif Nat.blt pc 63 then (bif Nat.blt pc 31 then (bif Nat.blt pc 15 then (bif Nat.blt pc 8 then (bif Nat.blt pc 4 then (bif Nat.blt pc 1 then (bif Nat.beq pc 0 then some (.aload_n 0, 1) else none) else
     (bif Nat.beq pc 1 then some (.invokespecial 3, 3) else none)) else
    (bif Nat.blt pc 5 then (bif Nat.beq pc 4 then some (.aload_n 1, 1) else none) else
     (bif Nat.beq pc 5 then some (.invokevirtual 32, 3) else none))) else
   (bif Nat.blt pc 10 then (bif Nat.blt pc 9 then (bif Nat.beq pc 8 then some (.istore_n 2, 1) else none) else
     (bif Nat.beq pc 9 then some (.iload_n 2, 1) else none)) else
    (bif Nat.blt pc 12 then (bif Nat.beq pc 10 then some (.ldc 38, 2) else none) else
     (bif Nat.beq pc 12 then some (.if_icmp .ge 10, 3) else none)))) else
  (bif Nat.blt pc 22 then (bif Nat.blt pc 18 then (bif Nat.blt pc 16 then (bif Nat.beq pc 15 then some (.iload_n 2, 1) else none) else
     (bif Nat.beq pc 16 then some (.bipush 16, 2) else none)) else
    (bif Nat.blt pc 19 then (bif Nat.beq pc 18 then some (.iadd, 1) else none) else
     (bif Nat.beq pc 19 then some (.goto 5, 3) else none))) else
   (bif Nat.blt pc 25 then (bif Nat.blt pc 24 then (bif Nat.beq pc 22 then some (.ldc 39, 2) else none) else
     (bif Nat.beq pc 24 then some (.istore_n 3, 1) else none)) else
    (bif Nat.blt pc 26 then (bif Nat.beq pc 25 then some (.aload_n 1, 1) else none) else
     (bif Nat.blt pc 29 then (bif Nat.beq pc 26 then some (.invokevirtual 40, 3) else none) else
      (bif Nat.beq pc 29 then some (.istore 4, 2) else none)))))) else
 (bif Nat.blt pc 46 then (bif Nat.blt pc 38 then (bif Nat.blt pc 34 then (bif Nat.blt pc 32 then (bif Nat.beq pc 31 then some (.aload_n 0, 1) else none) else
     (bif Nat.beq pc 32 then some (.iload 4, 2) else none)) else
    (bif Nat.blt pc 37 then (bif Nat.beq pc 34 then some (.putfield 22, 3) else none) else
     (bif Nat.beq pc 37 then some (.aload_n 0, 1) else none))) else
   (bif Nat.blt pc 43 then (bif Nat.blt pc 40 then (bif Nat.beq pc 38 then some (.iload 4, 2) else none) else
     (bif Nat.beq pc 40 then some (.ifCond .ne 9, 3) else none)) else
    (bif Nat.blt pc 44 then (bif Nat.beq pc 43 then some (.iload_n 3, 1) else none) else
     (bif Nat.beq pc 44 then some (.newarray .byte, 2) else none)))) else
  (bif Nat.blt pc 56 then (bif Nat.blt pc 50 then (bif Nat.blt pc 49 then (bif Nat.beq pc 46 then some (.goto 7, 3) else none) else
     (bif Nat.beq pc 49 then some (.iload_n 3, 1) else none)) else
    (bif Nat.blt pc 53 then (bif Nat.beq pc 50 then some (.invokestatic 26, 3) else none) else
     (bif Nat.beq pc 53 then some (.putfield 15, 3) else none))) else
   (bif Nat.blt pc 58 then (bif Nat.blt pc 57 then (bif Nat.beq pc 56 then some (.aload_n 0, 1) else none) else
     (bif Nat.beq pc 57 then some (.aload_n 1, 1) else none)) else
    (bif Nat.blt pc 61 then (bif Nat.beq pc 58 then some (.invokevirtual 43, 3) else none) else
     (bif Nat.blt pc 62 then (bif Nat.beq pc 61 then some (.pop, 1) else none) else
      (bif Nat.beq pc 62 then some (.return_, 1) else none))))))) else none
set_option maxRecDepth 10000 in
noncomputable def zc_238 (pc : Nat) : Option (Instr × Nat) :=
 bif Nat.blt pc 45 then (bif Nat.blt pc 21 then (bif Nat.blt pc 10 then (bif Nat.blt pc 5 then (bif Nat.blt pc 1 then (bif Nat.beq pc 0 then some (.aload_n 1, 1) else none) else
    (bif Nat.blt pc 4 then (bif Nat.beq pc 1 then some (.ifnonnull 8, 3) else none) else
     (bif Nat.beq pc 4 then some (.aload_n 0, 1) else none))) else
   (bif Nat.blt pc 8 then (bif Nat.beq pc 5 then some (.invokevirtual 204, 3) else none) else
    (bif Nat.blt pc 9 then (bif Nat.beq pc 8 then some (.areturn, 1) else none) else
     (bif Nat.beq pc 9 then some (.aload_n 1, 1) else none)))) else
  (bif Nat.blt pc 15 then (bif Nat.blt pc 13 then (bif Nat.beq pc 10 then some (.invokevirtual 32, 3) else none) else
    (bif Nat.blt pc 14 then (bif Nat.beq pc 13 then some (.istore_n 2, 1) else none) else
     (bif Nat.beq pc 14 then some (.aload_n 0, 1) else none))) else
   (bif Nat.blt pc 19 then (bif Nat.blt pc 16 then (bif Nat.beq pc 15 then some (.aload_n 0, 1) else none) else
     (bif Nat.beq pc 16 then some (.getfield 79, 3) else none)) else
    (bif Nat.blt pc 20 then (bif Nat.beq pc 19 then some (.iload_n 2, 1) else none) else
     (bif Nat.beq pc 20 then some (.iadd, 1) else none))))) else
 (bif Nat.blt pc 34 then (bif Nat.blt pc 26 then (bif Nat.blt pc 24 then (bif Nat.beq pc 21 then some (.invokevirtual 100, 3) else none) else
    (bif Nat.blt pc 25 then (bif Nat.beq pc 24 then some (.aload_n 0, 1) else none) else
     (bif Nat.beq pc 25 then some (.aload_n 0, 1) else none))) else
   (bif Nat.blt pc 30 then (bif Nat.blt pc 29 then (bif Nat.beq pc 26 then some (.getfield 79, 3) else none) else
     (bif Nat.beq pc 29 then some (.aload_n 1, 1) else none)) else
    (bif Nat.blt pc 33 then (bif Nat.beq pc 30 then some (.invokevirtual 208, 3) else none) else
     (bif Nat.beq pc 33 then some (.aload_n 0, 1) else none)))) else
  (bif Nat.blt pc 39 then (bif Nat.blt pc 35 then (bif Nat.beq pc 34 then some (.dup, 1) else none) else
    (bif Nat.blt pc 38 then (bif Nat.beq pc 35 then some (.getfield 79, 3) else none) else
     (bif Nat.beq pc 38 then some (.iload_n 2, 1) else none))) else
   (bif Nat.blt pc 43 then (bif Nat.blt pc 40 then (bif Nat.beq pc 39 then some (.iadd, 1) else none) else
     (bif Nat.beq pc 40 then some (.putfield 79, 3) else none)) else
    (bif Nat.blt pc 44 then (bif Nat.beq pc 43 then some (.aload_n 0, 1) else none) else
     (bif Nat.beq pc 44 then some (.areturn, 1) else none)))))) else none
set_option maxRecDepth 10000 in
noncomputable def zc_239 (pc : Nat) : Option (Instr × Nat) :=
 bif Nat.blt pc 39 then (bif Nat.blt pc 17 then (bif Nat.blt pc 9 then (bif Nat.blt pc 4 then (bif Nat.blt pc 1 then (bif Nat.beq pc 0 then some (.aload_n 0, 1) else none) else
    (bif Nat.beq pc 1 then some (.getfield 15, 3) else none)) else
   (bif Nat.blt pc 5 then (bif Nat.beq pc 4 then some (.arraylength, 1) else none) else
    (bif Nat.blt pc 6 then (bif Nat.beq pc 5 then some (.aload_n 0, 1) else none) else
     (bif Nat.beq pc 6 then some (.getfield 22, 3) else none)))) else
  (bif Nat.blt pc 12 then (bif Nat.blt pc 10 then (bif Nat.beq pc 9 then some (.ishr, 1) else none) else
    (bif Nat.blt pc 11 then (bif Nat.beq pc 10 then some (.istore_n 2, 1) else none) else
     (bif Nat.beq pc 11 then some (.iload_n 1, 1) else none))) else
   (bif Nat.blt pc 13 then (bif Nat.beq pc 12 then some (.iload_n 2, 1) else none) else
    (bif Nat.blt pc 14 then (bif Nat.beq pc 13 then some (.isub, 1) else none) else
     (bif Nat.beq pc 14 then some (.ifCond .le 24, 3) else none))))) else
 (bif Nat.blt pc 27 then (bif Nat.blt pc 22 then (bif Nat.blt pc 18 then (bif Nat.beq pc 17 then some (.aload_n 0, 1) else none) else
    (bif Nat.blt pc 19 then (bif Nat.beq pc 18 then some (.aload_n 0, 1) else none) else
     (bif Nat.beq pc 19 then some (.getfield 15, 3) else none))) else
   (bif Nat.blt pc 23 then (bif Nat.beq pc 22 then some (.aload_n 0, 1) else none) else
    (bif Nat.blt pc 24 then (bif Nat.beq pc 23 then some (.iload_n 1, 1) else none) else
     (bif Nat.beq pc 24 then some (.invokevirtual 104, 3) else none)))) else
  (bif Nat.blt pc 32 then (bif Nat.blt pc 28 then (bif Nat.beq pc 27 then some (.aload_n 0, 1) else none) else
    (bif Nat.blt pc 31 then (bif Nat.beq pc 28 then some (.getfield 22, 3) else none) else
     (bif Nat.beq pc 31 then some (.ishl, 1) else none))) else
   (bif Nat.blt pc 35 then (bif Nat.beq pc 32 then some (.invokestatic 108, 3) else none) else
    (bif Nat.blt pc 38 then (bif Nat.beq pc 35 then some (.putfield 15, 3) else none) else
     (bif Nat.beq pc 38 then some (.return_, 1) else none)))))) else none
set_option maxRecDepth 10000 in
noncomputable def zc_240 (pc : Nat) : Option (Instr × Nat) :=
 bif Nat.blt pc 59 then (bif Nat.blt pc 24 then (bif Nat.blt pc 13 then (bif Nat.blt pc 6 then (bif Nat.blt pc 4 then (bif Nat.blt pc 1 then (bif Nat.beq pc 0 then some (.aload_n 0, 1) else none) else
     (bif Nat.beq pc 1 then some (.getfield 15, 3) else none)) else
    (bif Nat.blt pc 5 then (bif Nat.beq pc 4 then some (.arraylength, 1) else none) else
     (bif Nat.beq pc 5 then some (.istore_n 2, 1) else none))) else
   (bif Nat.blt pc 8 then (bif Nat.blt pc 7 then (bif Nat.beq pc 6 then some (.iload_n 1, 1) else none) else
     (bif Nat.beq pc 7 then some (.aload_n 0, 1) else none)) else
    (bif Nat.blt pc 11 then (bif Nat.beq pc 8 then some (.getfield 22, 3) else none) else
     (bif Nat.blt pc 12 then (bif Nat.beq pc 11 then some (.ishl, 1) else none) else
      (bif Nat.beq pc 12 then some (.istore_n 3, 1) else none))))) else
  (bif Nat.blt pc 18 then (bif Nat.blt pc 15 then (bif Nat.blt pc 14 then (bif Nat.beq pc 13 then some (.iload_n 3, 1) else none) else
     (bif Nat.beq pc 14 then some (.iload_n 2, 1) else none)) else
    (bif Nat.blt pc 16 then (bif Nat.beq pc 15 then some (.isub, 1) else none) else
     (bif Nat.beq pc 16 then some (.istore 4, 2) else none))) else
   (bif Nat.blt pc 21 then (bif Nat.blt pc 19 then (bif Nat.beq pc 18 then some (.iload_n 2, 1) else none) else
     (bif Nat.beq pc 19 then some (.iload 4, 2) else none)) else
    (bif Nat.blt pc 22 then (bif Nat.beq pc 21 then some (.iload_n 2, 1) else none) else
     (bif Nat.blt pc 23 then (bif Nat.beq pc 22 then some (.iconst 2, 1) else none) else
      (bif Nat.beq pc 23 then some (.aload_n 0, 1) else none)))))) else
 (bif Nat.blt pc 44 then (bif Nat.blt pc 32 then (bif Nat.blt pc 28 then (bif Nat.blt pc 27 then (bif Nat.beq pc 24 then some (.getfield 22, 3) else none) else
     (bif Nat.beq pc 27 then some (.ishl, 1) else none)) else
    (bif Nat.blt pc 29 then (bif Nat.beq pc 28 then some (.iadd, 1) else none) else
     (bif Nat.beq pc 29 then some (.invokestatic 114, 3) else none))) else
   (bif Nat.blt pc 36 then (bif Nat.blt pc 34 then (bif Nat.beq pc 32 then some (.istore 5, 2) else none) else
     (bif Nat.beq pc 34 then some (.iload 5, 2) else none)) else
    (bif Nat.blt pc 38 then (bif Nat.beq pc 36 then some (.ldc 39, 2) else none) else
     (bif Nat.blt pc 41 then (bif Nat.beq pc 38 then some (.if_icmp .ne 13, 3) else none) else
      (bif Nat.beq pc 41 then some (.new 120, 3) else none))))) else
  (bif Nat.blt pc 51 then (bif Nat.blt pc 47 then (bif Nat.blt pc 45 then (bif Nat.beq pc 44 then some (.dup, 1) else none) else
     (bif Nat.beq pc 45 then some (.ldc 122, 2) else none)) else
    (bif Nat.blt pc 50 then (bif Nat.beq pc 47 then some (.invokespecial 124, 3) else none) else
     (bif Nat.beq pc 50 then some (.athrow, 1) else none))) else
   (bif Nat.blt pc 54 then (bif Nat.blt pc 53 then (bif Nat.beq pc 51 then some (.iload 5, 2) else none) else
     (bif Nat.beq pc 53 then some (.aload_n 0, 1) else none)) else
    (bif Nat.blt pc 57 then (bif Nat.beq pc 54 then some (.getfield 22, 3) else none) else
     (bif Nat.blt pc 58 then (bif Nat.beq pc 57 then some (.ishr, 1) else none) else
      (bif Nat.beq pc 58 then some (.ireturn, 1) else none))))))) else none
set_option maxRecDepth 10000 in
noncomputable def zc_241 (pc : Nat) : Option (Instr × Nat) :=
 bif Nat.blt pc 19 then (bif Nat.blt pc 10 then (bif Nat.blt pc 6 then (bif Nat.blt pc 3 then (bif Nat.beq pc 0 then some (.getstatic 18, 3) else none) else
   (bif Nat.beq pc 3 then some (.ifCond .eq 14, 3) else none)) else
  (bif Nat.blt pc 7 then (bif Nat.beq pc 6 then some (.aload_n 0, 1) else none) else
   (bif Nat.beq pc 7 then some (.getfield 22, 3) else none))) else
 (bif Nat.blt pc 14 then (bif Nat.blt pc 13 then (bif Nat.beq pc 10 then some (.ifCond .ne 7, 3) else none) else
   (bif Nat.beq pc 13 then some (.iconst 1, 1) else none)) else
  (bif Nat.blt pc 17 then (bif Nat.beq pc 14 then some (.goto 4, 3) else none) else
   (bif Nat.blt pc 18 then (bif Nat.beq pc 17 then some (.iconst 0, 1) else none) else
    (bif Nat.beq pc 18 then some (.ireturn, 1) else none))))) else none
set_option maxRecDepth 10000 in
noncomputable def zc_242 (pc : Nat) : Option (Instr × Nat) :=
 bif Nat.blt pc 19 then (bif Nat.blt pc 7 then (bif Nat.blt pc 2 then (bif Nat.blt pc 1 then (bif Nat.beq pc 0 then some (.aload_n 0, 1) else none) else
   (bif Nat.beq pc 1 then some (.aload_n 2, 1) else none)) else
  (bif Nat.blt pc 5 then (bif Nat.beq pc 2 then some (.invokevirtual 397, 3) else none) else
   (bif Nat.blt pc 6 then (bif Nat.beq pc 5 then some (.aload_n 2, 1) else none) else
    (bif Nat.beq pc 6 then some (.aload_n 0, 1) else none)))) else
 (bif Nat.blt pc 12 then (bif Nat.blt pc 10 then (bif Nat.beq pc 7 then some (.getfield 15, 3) else none) else
   (bif Nat.blt pc 11 then (bif Nat.beq pc 10 then some (.iload_n 1, 1) else none) else
    (bif Nat.beq pc 11 then some (.aload_n 0, 1) else none))) else
  (bif Nat.blt pc 15 then (bif Nat.beq pc 12 then some (.getfield 22, 3) else none) else
   (bif Nat.blt pc 18 then (bif Nat.beq pc 15 then some (.invokevirtual 399, 3) else none) else
    (bif Nat.beq pc 18 then some (.return_, 1) else none))))) else none
set_option maxRecDepth 10000 in
noncomputable def zc_243 (pc : Nat) : Option (Instr × Nat) :=
 bif Nat.blt pc 22 then (bif Nat.blt pc 11 then (bif Nat.blt pc 6 then (bif Nat.blt pc 3 then (bif Nat.beq pc 0 then some (.getstatic 18, 3) else none) else
   (bif Nat.beq pc 3 then some (.ifCond .eq 18, 3) else none)) else
  (bif Nat.blt pc 7 then (bif Nat.beq pc 6 then some (.aload_n 0, 1) else none) else
   (bif Nat.blt pc 10 then (bif Nat.beq pc 7 then some (.getfield 22, 3) else none) else
    (bif Nat.beq pc 10 then some (.aload_n 1, 1) else none)))) else
 (bif Nat.blt pc 17 then (bif Nat.blt pc 14 then (bif Nat.beq pc 11 then some (.invokevirtual 40, 3) else none) else
   (bif Nat.beq pc 14 then some (.if_icmp .eq 7, 3) else none)) else
  (bif Nat.blt pc 18 then (bif Nat.beq pc 17 then some (.aload_n 0, 1) else none) else
   (bif Nat.blt pc 21 then (bif Nat.beq pc 18 then some (.invokevirtual 195, 3) else none) else
    (bif Nat.beq pc 21 then some (.return_, 1) else none))))) else none
set_option maxRecDepth 10000 in
noncomputable def zc_244 (pc : Nat) : Option (Instr × Nat) :=
 bif Nat.blt pc 77 then (bif Nat.blt pc 39 then (bif Nat.blt pc 18 then (bif Nat.blt pc 7 then (bif Nat.blt pc 2 then (bif Nat.blt pc 1 then (bif Nat.beq pc 0 then some (.aload_n 0, 1) else none) else
     (bif Nat.beq pc 1 then some (.aload_n 0, 1) else none)) else
    (bif Nat.blt pc 5 then (bif Nat.beq pc 2 then some (.getfield 79, 3) else none) else
     (bif Nat.blt pc 6 then (bif Nat.beq pc 5 then some (.iconst 1, 1) else none) else
      (bif Nat.beq pc 6 then some (.iadd, 1) else none)))) else
   (bif Nat.blt pc 11 then (bif Nat.blt pc 10 then (bif Nat.beq pc 7 then some (.invokevirtual 100, 3) else none) else
     (bif Nat.beq pc 10 then some (.aload_n 0, 1) else none)) else
    (bif Nat.blt pc 14 then (bif Nat.beq pc 11 then some (.invokevirtual 83, 3) else none) else
     (bif Nat.blt pc 17 then (bif Nat.beq pc 14 then some (.ifCond .eq 31, 3) else none) else
      (bif Nat.beq pc 17 then some (.iload_n 1, 1) else none))))) else
  (bif Nat.blt pc 29 then (bif Nat.blt pc 24 then (bif Nat.blt pc 21 then (bif Nat.beq pc 18 then some (.invokestatic 191, 3) else none) else
     (bif Nat.beq pc 21 then some (.ifCond .eq 24, 3) else none)) else
    (bif Nat.blt pc 25 then (bif Nat.beq pc 24 then some (.aload_n 0, 1) else none) else
     (bif Nat.blt pc 28 then (bif Nat.beq pc 25 then some (.getfield 15, 3) else none) else
      (bif Nat.beq pc 28 then some (.aload_n 0, 1) else none)))) else
   (bif Nat.blt pc 34 then (bif Nat.blt pc 30 then (bif Nat.beq pc 29 then some (.dup, 1) else none) else
     (bif Nat.blt pc 33 then (bif Nat.beq pc 30 then some (.getfield 79, 3) else none) else
      (bif Nat.beq pc 33 then some (.dup_x1, 1) else none))) else
    (bif Nat.blt pc 35 then (bif Nat.beq pc 34 then some (.iconst 1, 1) else none) else
     (bif Nat.blt pc 36 then (bif Nat.beq pc 35 then some (.iadd, 1) else none) else
      (bif Nat.beq pc 36 then some (.putfield 79, 3) else none)))))) else
 (bif Nat.blt pc 60 then (bif Nat.blt pc 46 then (bif Nat.blt pc 41 then (bif Nat.blt pc 40 then (bif Nat.beq pc 39 then some (.iload_n 1, 1) else none) else
     (bif Nat.beq pc 40 then some (.i2b, 1) else none)) else
    (bif Nat.blt pc 42 then (bif Nat.beq pc 41 then some (.bastore, 1) else none) else
     (bif Nat.blt pc 45 then (bif Nat.beq pc 42 then some (.goto 33, 3) else none) else
      (bif Nat.beq pc 45 then some (.aload_n 0, 1) else none)))) else
   (bif Nat.blt pc 53 then (bif Nat.blt pc 49 then (bif Nat.beq pc 46 then some (.invokevirtual 83, 3) else none) else
     (bif Nat.blt pc 52 then (bif Nat.beq pc 49 then some (.ifCond .eq 7, 3) else none) else
      (bif Nat.beq pc 52 then some (.aload_n 0, 1) else none))) else
    (bif Nat.blt pc 56 then (bif Nat.beq pc 53 then some (.invokevirtual 195, 3) else none) else
     (bif Nat.blt pc 57 then (bif Nat.beq pc 56 then some (.aload_n 0, 1) else none) else
      (bif Nat.beq pc 57 then some (.getfield 15, 3) else none))))) else
  (bif Nat.blt pc 67 then (bif Nat.blt pc 62 then (bif Nat.blt pc 61 then (bif Nat.beq pc 60 then some (.aload_n 0, 1) else none) else
     (bif Nat.beq pc 61 then some (.dup, 1) else none)) else
    (bif Nat.blt pc 65 then (bif Nat.beq pc 62 then some (.getfield 79, 3) else none) else
     (bif Nat.blt pc 66 then (bif Nat.beq pc 65 then some (.dup_x1, 1) else none) else
      (bif Nat.beq pc 66 then some (.iconst 1, 1) else none)))) else
   (bif Nat.blt pc 72 then (bif Nat.blt pc 68 then (bif Nat.beq pc 67 then some (.iadd, 1) else none) else
     (bif Nat.blt pc 71 then (bif Nat.beq pc 68 then some (.putfield 79, 3) else none) else
      (bif Nat.beq pc 71 then some (.iload_n 1, 1) else none))) else
    (bif Nat.blt pc 75 then (bif Nat.beq pc 72 then some (.invokestatic 197, 3) else none) else
     (bif Nat.blt pc 76 then (bif Nat.beq pc 75 then some (.aload_n 0, 1) else none) else
      (bif Nat.beq pc 76 then some (.areturn, 1) else none))))))) else none
set_option maxRecDepth 10000 in
noncomputable def zc_245 (pc : Nat) : Option (Instr × Nat) :=
 bif Nat.blt pc 55 then (bif Nat.blt pc 26 then (bif Nat.blt pc 12 then (bif Nat.blt pc 6 then (bif Nat.blt pc 4 then (bif Nat.blt pc 1 then (bif Nat.beq pc 0 then some (.aload_n 0, 1) else none) else
     (bif Nat.beq pc 1 then some (.getfield 79, 3) else none)) else
    (bif Nat.blt pc 5 then (bif Nat.beq pc 4 then some (.istore_n 2, 1) else none) else
     (bif Nat.beq pc 5 then some (.iload_n 2, 1) else none))) else
   (bif Nat.blt pc 10 then (bif Nat.blt pc 7 then (bif Nat.beq pc 6 then some (.iload_n 1, 1) else none) else
     (bif Nat.beq pc 7 then some (.invokestatic 245, 3) else none)) else
    (bif Nat.blt pc 11 then (bif Nat.beq pc 10 then some (.iadd, 1) else none) else
     (bif Nat.beq pc 11 then some (.istore_n 3, 1) else none)))) else
  (bif Nat.blt pc 18 then (bif Nat.blt pc 14 then (bif Nat.blt pc 13 then (bif Nat.beq pc 12 then some (.aload_n 0, 1) else none) else
     (bif Nat.beq pc 13 then some (.iload_n 3, 1) else none)) else
    (bif Nat.blt pc 17 then (bif Nat.beq pc 14 then some (.invokevirtual 100, 3) else none) else
     (bif Nat.beq pc 17 then some (.aload_n 0, 1) else none))) else
   (bif Nat.blt pc 24 then (bif Nat.blt pc 21 then (bif Nat.beq pc 18 then some (.invokevirtual 83, 3) else none) else
     (bif Nat.beq pc 21 then some (.ifCond .eq 16, 3) else none)) else
    (bif Nat.blt pc 25 then (bif Nat.beq pc 24 then some (.iload_n 1, 1) else none) else
     (bif Nat.beq pc 25 then some (.iload_n 3, 1) else none))))) else
 (bif Nat.blt pc 40 then (bif Nat.blt pc 34 then (bif Nat.blt pc 30 then (bif Nat.blt pc 27 then (bif Nat.beq pc 26 then some (.aload_n 0, 1) else none) else
     (bif Nat.beq pc 27 then some (.getfield 15, 3) else none)) else
    (bif Nat.blt pc 33 then (bif Nat.beq pc 30 then some (.invokestatic 248, 3) else none) else
     (bif Nat.beq pc 33 then some (.pop, 1) else none))) else
   (bif Nat.blt pc 38 then (bif Nat.blt pc 37 then (bif Nat.beq pc 34 then some (.goto 14, 3) else none) else
     (bif Nat.beq pc 37 then some (.iload_n 1, 1) else none)) else
    (bif Nat.blt pc 39 then (bif Nat.beq pc 38 then some (.iload_n 2, 1) else none) else
     (bif Nat.beq pc 39 then some (.iload_n 3, 1) else none)))) else
  (bif Nat.blt pc 48 then (bif Nat.blt pc 44 then (bif Nat.blt pc 41 then (bif Nat.beq pc 40 then some (.aload_n 0, 1) else none) else
     (bif Nat.beq pc 41 then some (.getfield 15, 3) else none)) else
    (bif Nat.blt pc 47 then (bif Nat.beq pc 44 then some (.invokestatic 251, 3) else none) else
     (bif Nat.beq pc 47 then some (.pop, 1) else none))) else
   (bif Nat.blt pc 50 then (bif Nat.blt pc 49 then (bif Nat.beq pc 48 then some (.aload_n 0, 1) else none) else
     (bif Nat.beq pc 49 then some (.iload_n 3, 1) else none)) else
    (bif Nat.blt pc 53 then (bif Nat.beq pc 50 then some (.putfield 79, 3) else none) else
     (bif Nat.blt pc 54 then (bif Nat.beq pc 53 then some (.aload_n 0, 1) else none) else
      (bif Nat.beq pc 54 then some (.areturn, 1) else none))))))) else none
set_option maxRecDepth 10000 in
noncomputable def zc_246 (pc : Nat) : Option (Instr × Nat) :=
 bif Nat.blt pc 5 then (bif Nat.blt pc 1 then (bif Nat.beq pc 0 then some (.aload_n 0, 1) else none) else
 (bif Nat.blt pc 4 then (bif Nat.beq pc 1 then some (.getfield 15, 3) else none) else
  (bif Nat.beq pc 4 then some (.areturn, 1) else none))) else none
set_option maxRecDepth 10000 in
noncomputable def zc_247 (pc : Nat) : Option (Instr × Nat) :=
 bif Nat.blt pc 5 then (bif Nat.blt pc 1 then (bif Nat.beq pc 0 then some (.aload_n 0, 1) else none) else
 (bif Nat.blt pc 4 then (bif Nat.beq pc 1 then some (.getfield 79, 3) else none) else
  (bif Nat.beq pc 4 then some (.ireturn, 1) else none))) else none
set_option maxRecDepth 10000 in
noncomputable def zc_248 (pc : Nat) : Option (Instr × Nat) :=
 bif Nat.blt pc 39 then (bif Nat.blt pc 19 then (bif Nat.blt pc 11 then (bif Nat.blt pc 4 then (bif Nat.blt pc 1 then (bif Nat.beq pc 0 then some (.aload_n 0, 1) else none) else
    (bif Nat.beq pc 1 then some (.invokespecial 3, 3) else none)) else
   (bif Nat.blt pc 7 then (bif Nat.beq pc 4 then some (.getstatic 18, 3) else none) else
    (bif Nat.blt pc 10 then (bif Nat.beq pc 7 then some (.ifCond .eq 18, 3) else none) else
     (bif Nat.beq pc 10 then some (.aload_n 0, 1) else none)))) else
  (bif Nat.blt pc 14 then (bif Nat.blt pc 12 then (bif Nat.beq pc 11 then some (.iload_n 1, 1) else none) else
    (bif Nat.beq pc 12 then some (.newarray .byte, 2) else none)) else
   (bif Nat.blt pc 17 then (bif Nat.beq pc 14 then some (.putfield 15, 3) else none) else
    (bif Nat.blt pc 18 then (bif Nat.beq pc 17 then some (.aload_n 0, 1) else none) else
     (bif Nat.beq pc 18 then some (.iconst 0, 1) else none))))) else
 (bif Nat.blt pc 30 then (bif Nat.blt pc 25 then (bif Nat.blt pc 22 then (bif Nat.beq pc 19 then some (.putfield 22, 3) else none) else
    (bif Nat.beq pc 22 then some (.goto 16, 3) else none)) else
   (bif Nat.blt pc 26 then (bif Nat.beq pc 25 then some (.aload_n 0, 1) else none) else
    (bif Nat.blt pc 27 then (bif Nat.beq pc 26 then some (.iload_n 1, 1) else none) else
     (bif Nat.beq pc 27 then some (.invokestatic 26, 3) else none)))) else
  (bif Nat.blt pc 34 then (bif Nat.blt pc 33 then (bif Nat.beq pc 30 then some (.putfield 15, 3) else none) else
    (bif Nat.beq pc 33 then some (.aload_n 0, 1) else none)) else
   (bif Nat.blt pc 35 then (bif Nat.beq pc 34 then some (.iconst 1, 1) else none) else
    (bif Nat.blt pc 38 then (bif Nat.beq pc 35 then some (.putfield 22, 3) else none) else
     (bif Nat.beq pc 38 then some (.return_, 1) else none)))))) else none
set_option maxRecDepth 10000 in
noncomputable def zc_249 (pc : Nat) : Option (Instr × Nat) :=
 bif Nat.blt pc 11 then (bif Nat.blt pc 5 then (bif Nat.blt pc 1 then (bif Nat.beq pc 0 then some (.aload_n 0, 1) else none) else
  (bif Nat.blt pc 4 then (bif Nat.beq pc 1 then some (.getfield 9, 3) else none) else
   (bif Nat.beq pc 4 then some (.arraylength, 1) else none))) else
 (bif Nat.blt pc 9 then (bif Nat.blt pc 6 then (bif Nat.beq pc 5 then some (.aload_n 0, 1) else none) else
   (bif Nat.beq pc 6 then some (.invokevirtual 335, 3) else none)) else
  (bif Nat.blt pc 10 then (bif Nat.beq pc 9 then some (.ishr, 1) else none) else
   (bif Nat.beq pc 10 then some (.ireturn, 1) else none)))) else none
set_option maxRecDepth 10000 in
noncomputable def zc_250 (pc : Nat) : Option (Instr × Nat) :=
 bif Nat.blt pc 15 then (bif Nat.blt pc 7 then (bif Nat.blt pc 3 then (bif Nat.beq pc 0 then some (.getstatic 38, 3) else none) else
  (bif Nat.blt pc 6 then (bif Nat.beq pc 3 then some (.ifCond .eq 10, 3) else none) else
   (bif Nat.beq pc 6 then some (.aload_n 0, 1) else none))) else
 (bif Nat.blt pc 13 then (bif Nat.blt pc 10 then (bif Nat.beq pc 7 then some (.getfield 15, 3) else none) else
   (bif Nat.beq pc 10 then some (.goto 4, 3) else none)) else
  (bif Nat.blt pc 14 then (bif Nat.beq pc 13 then some (.iconst 1, 1) else none) else
   (bif Nat.beq pc 14 then some (.ireturn, 1) else none)))) else none
set_option maxRecDepth 10000 in
noncomputable def zc_251 (pc : Nat) : Option (Instr × Nat) :=
 bif Nat.blt pc 25 then (bif Nat.blt pc 12 then (bif Nat.blt pc 7 then (bif Nat.blt pc 1 then (bif Nat.beq pc 0 then some (.aload_n 0, 1) else none) else
   (bif Nat.blt pc 4 then (bif Nat.beq pc 1 then some (.invokevirtual 492, 3) else none) else
    (bif Nat.beq pc 4 then some (.ifCond .eq 12, 3) else none))) else
  (bif Nat.blt pc 8 then (bif Nat.beq pc 7 then some (.aload_n 0, 1) else none) else
   (bif Nat.blt pc 11 then (bif Nat.beq pc 8 then some (.getfield 9, 3) else none) else
    (bif Nat.beq pc 11 then some (.iload_n 1, 1) else none)))) else
 (bif Nat.blt pc 17 then (bif Nat.blt pc 15 then (bif Nat.beq pc 12 then some (.invokestatic 495, 3) else none) else
   (bif Nat.blt pc 16 then (bif Nat.beq pc 15 then some (.ireturn, 1) else none) else
    (bif Nat.beq pc 16 then some (.aload_n 0, 1) else none))) else
  (bif Nat.blt pc 21 then (bif Nat.blt pc 20 then (bif Nat.beq pc 17 then some (.getfield 9, 3) else none) else
    (bif Nat.beq pc 20 then some (.iload_n 1, 1) else none)) else
   (bif Nat.blt pc 24 then (bif Nat.beq pc 21 then some (.invokestatic 498, 3) else none) else
    (bif Nat.beq pc 24 then some (.ireturn, 1) else none))))) else none
set_option maxRecDepth 10000 in
noncomputable def zc_252 (pc : Nat) : Option (Instr × Nat) :=
 bif Nat.blt pc 19 then (bif Nat.blt pc 10 then (bif Nat.blt pc 6 then (bif Nat.blt pc 3 then (bif Nat.beq pc 0 then some (.getstatic 38, 3) else none) else
   (bif Nat.beq pc 3 then some (.ifCond .eq 14, 3) else none)) else
  (bif Nat.blt pc 7 then (bif Nat.beq pc 6 then some (.aload_n 0, 1) else none) else
   (bif Nat.beq pc 7 then some (.getfield 15, 3) else none))) else
 (bif Nat.blt pc 14 then (bif Nat.blt pc 13 then (bif Nat.beq pc 10 then some (.ifCond .ne 7, 3) else none) else
   (bif Nat.beq pc 13 then some (.iconst 1, 1) else none)) else
  (bif Nat.blt pc 17 then (bif Nat.beq pc 14 then some (.goto 4, 3) else none) else
   (bif Nat.blt pc 18 then (bif Nat.beq pc 17 then some (.iconst 0, 1) else none) else
    (bif Nat.beq pc 18 then some (.ireturn, 1) else none))))) else none
set_option maxRecDepth 10000 in
noncomputable def zc_253 (pc : Nat) : Option (Instr × Nat) :=
 bif Nat.blt pc 7 then (bif Nat.blt pc 2 then (bif Nat.blt pc 1 then (bif Nat.beq pc 0 then some (.aload_n 0, 1) else none) else
  (bif Nat.beq pc 1 then some (.aload_n 1, 1) else none)) else
 (bif Nat.blt pc 3 then (bif Nat.beq pc 2 then some (.aconst_null, 1) else none) else
  (bif Nat.blt pc 6 then (bif Nat.beq pc 3 then some (.invokespecial 489, 3) else none) else
   (bif Nat.beq pc 6 then some (.return_, 1) else none)))) else none
set_option maxRecDepth 10000 in
noncomputable def zc_254 (pc : Nat) : Option (Instr × Nat) :=
 bif Nat.blt pc 98 then (bif Nat.blt pc 51 then (bif Nat.blt pc 23 then (bif Nat.blt pc 10 then (bif Nat.blt pc 5 then (bif Nat.blt pc 1 then (bif Nat.beq pc 0 then some (.aload_n 0, 1) else none) else
     (bif Nat.blt pc 4 then (bif Nat.beq pc 1 then some (.invokespecial 1, 3) else none) else
      (bif Nat.beq pc 4 then some (.aload_n 1, 1) else none))) else
    (bif Nat.blt pc 8 then (bif Nat.beq pc 5 then some (.invokevirtual 552, 3) else none) else
     (bif Nat.blt pc 9 then (bif Nat.beq pc 8 then some (.astore_n 3, 1) else none) else
      (bif Nat.beq pc 9 then some (.aload_n 1, 1) else none)))) else
   (bif Nat.blt pc 16 then (bif Nat.blt pc 13 then (bif Nat.beq pc 10 then some (.invokevirtual 549, 3) else none) else
     (bif Nat.blt pc 15 then (bif Nat.beq pc 13 then some (.istore 4, 2) else none) else
      (bif Nat.beq pc 15 then some (.aload_n 1, 1) else none))) else
    (bif Nat.blt pc 19 then (bif Nat.beq pc 16 then some (.invokevirtual 1047, 3) else none) else
     (bif Nat.blt pc 22 then (bif Nat.beq pc 19 then some (.ifCond .eq 22, 3) else none) else
      (bif Nat.beq pc 22 then some (.aload_n 0, 1) else none))))) else
  (bif Nat.blt pc 32 then (bif Nat.blt pc 28 then (bif Nat.blt pc 24 then (bif Nat.beq pc 23 then some (.iconst 0, 1) else none) else
     (bif Nat.blt pc 27 then (bif Nat.beq pc 24 then some (.putfield 15, 3) else none) else
      (bif Nat.beq pc 27 then some (.aload_n 0, 1) else none))) else
    (bif Nat.blt pc 29 then (bif Nat.beq pc 28 then some (.aload_n 3, 1) else none) else
     (bif Nat.blt pc 30 then (bif Nat.beq pc 29 then some (.iconst 0, 1) else none) else
      (bif Nat.beq pc 30 then some (.iload 4, 2) else none)))) else
   (bif Nat.blt pc 41 then (bif Nat.blt pc 35 then (bif Nat.beq pc 32 then some (.invokestatic 54, 3) else none) else
     (bif Nat.blt pc 38 then (bif Nat.beq pc 35 then some (.putfield 9, 3) else none) else
      (bif Nat.beq pc 38 then some (.goto 59, 3) else none))) else
    (bif Nat.blt pc 47 then (bif Nat.blt pc 44 then (bif Nat.beq pc 41 then some (.getstatic 38, 3) else none) else
      (bif Nat.beq pc 44 then some (.ifCond .eq 35, 3) else none)) else
     (bif Nat.blt pc 48 then (bif Nat.beq pc 47 then some (.aload_n 1, 1) else none) else
      (bif Nat.beq pc 48 then some (.getfield 1048, 3) else none)))))) else
 (bif Nat.blt pc 78 then (bif Nat.blt pc 62 then (bif Nat.blt pc 56 then (bif Nat.blt pc 54 then (bif Nat.beq pc 51 then some (.ifCond .eq 28, 3) else none) else
     (bif Nat.blt pc 55 then (bif Nat.beq pc 54 then some (.aload_n 0, 1) else none) else
      (bif Nat.beq pc 55 then some (.aload_n 3, 1) else none))) else
    (bif Nat.blt pc 57 then (bif Nat.beq pc 56 then some (.iconst 0, 1) else none) else
     (bif Nat.blt pc 59 then (bif Nat.beq pc 57 then some (.iload 4, 2) else none) else
      (bif Nat.beq pc 59 then some (.invokestatic 1051, 3) else none)))) else
   (bif Nat.blt pc 67 then (bif Nat.blt pc 65 then (bif Nat.beq pc 62 then some (.putfield 9, 3) else none) else
     (bif Nat.blt pc 66 then (bif Nat.beq pc 65 then some (.aload_n 0, 1) else none) else
      (bif Nat.beq pc 66 then some (.aload_n 0, 1) else none))) else
    (bif Nat.blt pc 72 then (bif Nat.blt pc 70 then (bif Nat.beq pc 67 then some (.getfield 9, 3) else none) else
      (bif Nat.beq pc 70 then some (.iload 4, 2) else none)) else
     (bif Nat.blt pc 75 then (bif Nat.beq pc 72 then some (.invokestatic 47, 3) else none) else
      (bif Nat.beq pc 75 then some (.putfield 15, 3) else none))))) else
  (bif Nat.blt pc 86 then (bif Nat.blt pc 81 then (bif Nat.blt pc 79 then (bif Nat.beq pc 78 then some (.return_, 1) else none) else
     (bif Nat.blt pc 80 then (bif Nat.beq pc 79 then some (.aload_n 0, 1) else none) else
      (bif Nat.beq pc 80 then some (.iconst 1, 1) else none))) else
    (bif Nat.blt pc 84 then (bif Nat.beq pc 81 then some (.putfield 15, 3) else none) else
     (bif Nat.blt pc 85 then (bif Nat.beq pc 84 then some (.aload_n 0, 1) else none) else
      (bif Nat.beq pc 85 then some (.aload_n 3, 1) else none)))) else
   (bif Nat.blt pc 90 then (bif Nat.blt pc 87 then (bif Nat.beq pc 86 then some (.iconst 0, 1) else none) else
     (bif Nat.blt pc 89 then (bif Nat.beq pc 87 then some (.iload 4, 2) else none) else
      (bif Nat.beq pc 89 then some (.iconst 1, 1) else none))) else
    (bif Nat.blt pc 94 then (bif Nat.blt pc 91 then (bif Nat.beq pc 90 then some (.ishl, 1) else none) else
      (bif Nat.beq pc 91 then some (.invokestatic 54, 3) else none)) else
     (bif Nat.blt pc 97 then (bif Nat.beq pc 94 then some (.putfield 9, 3) else none) else
      (bif Nat.beq pc 97 then some (.return_, 1) else none))))))) else none
set_option maxRecDepth 10000 in
noncomputable def zc_255 (pc : Nat) : Option (Instr × Nat) :=
 bif Nat.blt pc 47 then (bif Nat.blt pc 22 then (bif Nat.blt pc 10 then (bif Nat.blt pc 6 then (bif Nat.blt pc 2 then (bif Nat.blt pc 1 then (bif Nat.beq pc 0 then some (.iconst 1, 1) else none) else
     (bif Nat.beq pc 1 then some (.istore_n 1, 1) else none)) else
    (bif Nat.blt pc 3 then (bif Nat.beq pc 2 then some (.iload_n 0, 1) else none) else
     (bif Nat.beq pc 3 then some (.ifCond .lt 8, 3) else none))) else
   (bif Nat.blt pc 8 then (bif Nat.blt pc 7 then (bif Nat.beq pc 6 then some (.iconst 0, 1) else none) else
     (bif Nat.beq pc 7 then some (.istore_n 1, 1) else none)) else
    (bif Nat.blt pc 9 then (bif Nat.beq pc 8 then some (.iload_n 0, 1) else none) else
     (bif Nat.beq pc 9 then some (.ineg, 1) else none)))) else
  (bif Nat.blt pc 15 then (bif Nat.blt pc 13 then (bif Nat.blt pc 11 then (bif Nat.beq pc 10 then some (.istore_n 0, 1) else none) else
     (bif Nat.beq pc 11 then some (.bipush (-10), 2) else none)) else
    (bif Nat.blt pc 14 then (bif Nat.beq pc 13 then some (.istore_n 2, 1) else none) else
     (bif Nat.beq pc 14 then some (.iconst 1, 1) else none))) else
   (bif Nat.blt pc 17 then (bif Nat.blt pc 16 then (bif Nat.beq pc 15 then some (.istore_n 3, 1) else none) else
     (bif Nat.beq pc 16 then some (.iload_n 3, 1) else none)) else
    (bif Nat.blt pc 19 then (bif Nat.beq pc 17 then some (.bipush 10, 2) else none) else
     (bif Nat.beq pc 19 then some (.if_icmp .ge 23, 3) else none))))) else
 (bif Nat.blt pc 33 then (bif Nat.blt pc 28 then (bif Nat.blt pc 24 then (bif Nat.blt pc 23 then (bif Nat.beq pc 22 then some (.iload_n 0, 1) else none) else
     (bif Nat.beq pc 23 then some (.iload_n 2, 1) else none)) else
    (bif Nat.blt pc 27 then (bif Nat.beq pc 24 then some (.if_icmp .le 7, 3) else none) else
     (bif Nat.beq pc 27 then some (.iload_n 3, 1) else none))) else
   (bif Nat.blt pc 30 then (bif Nat.blt pc 29 then (bif Nat.beq pc 28 then some (.iload_n 1, 1) else none) else
     (bif Nat.beq pc 29 then some (.iadd, 1) else none)) else
    (bif Nat.blt pc 31 then (bif Nat.beq pc 30 then some (.ireturn, 1) else none) else
     (bif Nat.beq pc 31 then some (.bipush 10, 2) else none)))) else
  (bif Nat.blt pc 39 then (bif Nat.blt pc 35 then (bif Nat.blt pc 34 then (bif Nat.beq pc 33 then some (.iload_n 2, 1) else none) else
     (bif Nat.beq pc 34 then some (.imul, 1) else none)) else
    (bif Nat.blt pc 36 then (bif Nat.beq pc 35 then some (.istore_n 2, 1) else none) else
     (bif Nat.beq pc 36 then some (.iinc 3 1, 3) else none))) else
   (bif Nat.blt pc 44 then (bif Nat.blt pc 42 then (bif Nat.beq pc 39 then some (.goto (-23), 3) else none) else
     (bif Nat.beq pc 42 then some (.bipush 10, 2) else none)) else
    (bif Nat.blt pc 45 then (bif Nat.beq pc 44 then some (.iload_n 1, 1) else none) else
     (bif Nat.blt pc 46 then (bif Nat.beq pc 45 then some (.iadd, 1) else none) else
      (bif Nat.beq pc 46 then some (.ireturn, 1) else none))))))) else none
set_option maxRecDepth 10000 in
noncomputable def zc_256 (pc : Nat) : Option (Instr × Nat) :=
 bif Nat.blt pc 121 then (bif Nat.blt pc 56 then (bif Nat.blt pc 29 then (bif Nat.blt pc 14 then (bif Nat.blt pc 7 then (bif Nat.blt pc 3 then (bif Nat.blt pc 1 then (bif Nat.beq pc 0 then some (.iload_n 1, 1) else none) else
      (bif Nat.beq pc 1 then some (.istore 5, 2) else none)) else
     (bif Nat.blt pc 4 then (bif Nat.beq pc 3 then some (.iload_n 0, 1) else none) else
      (bif Nat.beq pc 4 then some (.ifCond .ge 7, 3) else none))) else
    (bif Nat.blt pc 11 then (bif Nat.blt pc 8 then (bif Nat.beq pc 7 then some (.iconst 1, 1) else none) else
      (bif Nat.beq pc 8 then some (.goto 4, 3) else none)) else
     (bif Nat.blt pc 12 then (bif Nat.beq pc 11 then some (.iconst 0, 1) else none) else
      (bif Nat.beq pc 12 then some (.istore 6, 2) else none)))) else
   (bif Nat.blt pc 21 then (bif Nat.blt pc 19 then (bif Nat.blt pc 16 then (bif Nat.beq pc 14 then some (.iload 6, 2) else none) else
      (bif Nat.beq pc 16 then some (.ifCond .ne 6, 3) else none)) else
     (bif Nat.blt pc 20 then (bif Nat.beq pc 19 then some (.iload_n 0, 1) else none) else
      (bif Nat.beq pc 20 then some (.ineg, 1) else none))) else
    (bif Nat.blt pc 23 then (bif Nat.blt pc 22 then (bif Nat.beq pc 21 then some (.istore_n 0, 1) else none) else
      (bif Nat.beq pc 22 then some (.iload_n 0, 1) else none)) else
     (bif Nat.blt pc 25 then (bif Nat.beq pc 23 then some (.bipush (-100), 2) else none) else
      (bif Nat.blt pc 28 then (bif Nat.beq pc 25 then some (.if_icmp .gt 47, 3) else none) else
       (bif Nat.beq pc 28 then some (.iload_n 0, 1) else none)))))) else
  (bif Nat.blt pc 41 then (bif Nat.blt pc 34 then (bif Nat.blt pc 32 then (bif Nat.blt pc 31 then (bif Nat.beq pc 29 then some (.bipush 100, 2) else none) else
      (bif Nat.beq pc 31 then some (.idiv, 1) else none)) else
     (bif Nat.blt pc 33 then (bif Nat.beq pc 32 then some (.istore_n 3, 1) else none) else
      (bif Nat.beq pc 33 then some (.iload_n 3, 1) else none))) else
    (bif Nat.blt pc 37 then (bif Nat.blt pc 36 then (bif Nat.beq pc 34 then some (.bipush 100, 2) else none) else
      (bif Nat.beq pc 36 then some (.imul, 1) else none)) else
     (bif Nat.blt pc 38 then (bif Nat.beq pc 37 then some (.iload_n 0, 1) else none) else
      (bif Nat.blt pc 39 then (bif Nat.beq pc 38 then some (.isub, 1) else none) else
       (bif Nat.beq pc 39 then some (.istore 4, 2) else none))))) else
   (bif Nat.blt pc 47 then (bif Nat.blt pc 43 then (bif Nat.blt pc 42 then (bif Nat.beq pc 41 then some (.iload_n 3, 1) else none) else
      (bif Nat.beq pc 42 then some (.istore_n 0, 1) else none)) else
     (bif Nat.blt pc 44 then (bif Nat.beq pc 43 then some (.aload_n 2, 1) else none) else
      (bif Nat.beq pc 44 then some (.iinc 5 (-1), 3) else none))) else
    (bif Nat.blt pc 52 then (bif Nat.blt pc 49 then (bif Nat.beq pc 47 then some (.iload 5, 2) else none) else
      (bif Nat.beq pc 49 then some (.getstatic 83, 3) else none)) else
     (bif Nat.blt pc 54 then (bif Nat.beq pc 52 then some (.iload 4, 2) else none) else
      (bif Nat.blt pc 55 then (bif Nat.beq pc 54 then some (.baload, 1) else none) else
       (bif Nat.beq pc 55 then some (.bastore, 1) else none))))))) else
 (bif Nat.blt pc 88 then (bif Nat.blt pc 73 then (bif Nat.blt pc 65 then (bif Nat.blt pc 60 then (bif Nat.blt pc 57 then (bif Nat.beq pc 56 then some (.aload_n 2, 1) else none) else
      (bif Nat.beq pc 57 then some (.iinc 5 (-1), 3) else none)) else
     (bif Nat.blt pc 62 then (bif Nat.beq pc 60 then some (.iload 5, 2) else none) else
      (bif Nat.beq pc 62 then some (.getstatic 87, 3) else none))) else
    (bif Nat.blt pc 68 then (bif Nat.blt pc 67 then (bif Nat.beq pc 65 then some (.iload 4, 2) else none) else
      (bif Nat.beq pc 67 then some (.baload, 1) else none)) else
     (bif Nat.blt pc 69 then (bif Nat.beq pc 68 then some (.bastore, 1) else none) else
      (bif Nat.blt pc 72 then (bif Nat.beq pc 69 then some (.goto (-47), 3) else none) else
       (bif Nat.beq pc 72 then some (.aload_n 2, 1) else none))))) else
   (bif Nat.blt pc 82 then (bif Nat.blt pc 78 then (bif Nat.blt pc 76 then (bif Nat.beq pc 73 then some (.iinc 5 (-1), 3) else none) else
      (bif Nat.beq pc 76 then some (.iload 5, 2) else none)) else
     (bif Nat.blt pc 81 then (bif Nat.beq pc 78 then some (.getstatic 83, 3) else none) else
      (bif Nat.beq pc 81 then some (.iload_n 0, 1) else none))) else
    (bif Nat.blt pc 84 then (bif Nat.blt pc 83 then (bif Nat.beq pc 82 then some (.ineg, 1) else none) else
      (bif Nat.beq pc 83 then some (.baload, 1) else none)) else
     (bif Nat.blt pc 85 then (bif Nat.beq pc 84 then some (.bastore, 1) else none) else
      (bif Nat.blt pc 86 then (bif Nat.beq pc 85 then some (.iload_n 0, 1) else none) else
       (bif Nat.beq pc 86 then some (.bipush (-9), 2) else none)))))) else
  (bif Nat.blt pc 104 then (bif Nat.blt pc 97 then (bif Nat.blt pc 92 then (bif Nat.blt pc 91 then (bif Nat.beq pc 88 then some (.if_icmp .ge 16, 3) else none) else
      (bif Nat.beq pc 91 then some (.aload_n 2, 1) else none)) else
     (bif Nat.blt pc 95 then (bif Nat.beq pc 92 then some (.iinc 5 (-1), 3) else none) else
      (bif Nat.beq pc 95 then some (.iload 5, 2) else none))) else
    (bif Nat.blt pc 101 then (bif Nat.blt pc 100 then (bif Nat.beq pc 97 then some (.getstatic 87, 3) else none) else
      (bif Nat.beq pc 100 then some (.iload_n 0, 1) else none)) else
     (bif Nat.blt pc 102 then (bif Nat.beq pc 101 then some (.ineg, 1) else none) else
      (bif Nat.blt pc 103 then (bif Nat.beq pc 102 then some (.baload, 1) else none) else
       (bif Nat.beq pc 103 then some (.bastore, 1) else none))))) else
   (bif Nat.blt pc 113 then (bif Nat.blt pc 109 then (bif Nat.blt pc 106 then (bif Nat.beq pc 104 then some (.iload 6, 2) else none) else
      (bif Nat.beq pc 106 then some (.ifCond .eq 12, 3) else none)) else
     (bif Nat.blt pc 110 then (bif Nat.beq pc 109 then some (.aload_n 2, 1) else none) else
      (bif Nat.beq pc 110 then some (.iinc 5 (-1), 3) else none))) else
    (bif Nat.blt pc 117 then (bif Nat.blt pc 115 then (bif Nat.beq pc 113 then some (.iload 5, 2) else none) else
      (bif Nat.beq pc 115 then some (.bipush 45, 2) else none)) else
     (bif Nat.blt pc 118 then (bif Nat.beq pc 117 then some (.bastore, 1) else none) else
      (bif Nat.blt pc 120 then (bif Nat.beq pc 118 then some (.iload 5, 2) else none) else
       (bif Nat.beq pc 120 then some (.ireturn, 1) else none)))))))) else none
set_option maxRecDepth 10000 in
noncomputable def zc_257 (pc : Nat) : Option (Instr × Nat) :=
 bif Nat.blt pc 80 then (bif Nat.blt pc 41 then (bif Nat.blt pc 16 then (bif Nat.blt pc 6 then (bif Nat.blt pc 3 then (bif Nat.blt pc 1 then (bif Nat.beq pc 0 then some (.iload_n 0, 1) else none) else
     (bif Nat.blt pc 2 then (bif Nat.beq pc 1 then some (.iconst (-1), 1) else none) else
      (bif Nat.beq pc 2 then some (.ixor, 1) else none))) else
    (bif Nat.blt pc 4 then (bif Nat.beq pc 3 then some (.iload_n 0, 1) else none) else
     (bif Nat.blt pc 5 then (bif Nat.beq pc 4 then some (.iconst 1, 1) else none) else
      (bif Nat.beq pc 5 then some (.isub, 1) else none)))) else
   (bif Nat.blt pc 9 then (bif Nat.blt pc 7 then (bif Nat.beq pc 6 then some (.iand, 1) else none) else
     (bif Nat.blt pc 8 then (bif Nat.beq pc 7 then some (.istore_n 0, 1) else none) else
      (bif Nat.beq pc 8 then some (.iload_n 0, 1) else none))) else
    (bif Nat.blt pc 13 then (bif Nat.blt pc 12 then (bif Nat.beq pc 9 then some (.ifCond .gt 8, 3) else none) else
      (bif Nat.beq pc 12 then some (.iload_n 0, 1) else none)) else
     (bif Nat.blt pc 15 then (bif Nat.beq pc 13 then some (.bipush 32, 2) else none) else
      (bif Nat.beq pc 15 then some (.iand, 1) else none))))) else
  (bif Nat.blt pc 29 then (bif Nat.blt pc 19 then (bif Nat.blt pc 17 then (bif Nat.beq pc 16 then some (.ireturn, 1) else none) else
     (bif Nat.blt pc 18 then (bif Nat.beq pc 17 then some (.iconst 1, 1) else none) else
      (bif Nat.beq pc 18 then some (.istore_n 1, 1) else none))) else
    (bif Nat.blt pc 23 then (bif Nat.blt pc 20 then (bif Nat.beq pc 19 then some (.iload_n 0, 1) else none) else
      (bif Nat.beq pc 20 then some (.ldc_w 264, 3) else none)) else
     (bif Nat.blt pc 26 then (bif Nat.beq pc 23 then some (.if_icmp .le 11, 3) else none) else
      (bif Nat.beq pc 26 then some (.iinc 1 16, 3) else none)))) else
   (bif Nat.blt pc 33 then (bif Nat.blt pc 30 then (bif Nat.beq pc 29 then some (.iload_n 0, 1) else none) else
     (bif Nat.blt pc 32 then (bif Nat.beq pc 30 then some (.bipush 16, 2) else none) else
      (bif Nat.beq pc 32 then some (.iushr, 1) else none))) else
    (bif Nat.blt pc 35 then (bif Nat.blt pc 34 then (bif Nat.beq pc 33 then some (.istore_n 0, 1) else none) else
      (bif Nat.beq pc 34 then some (.iload_n 0, 1) else none)) else
     (bif Nat.blt pc 38 then (bif Nat.beq pc 35 then some (.sipush 256, 3) else none) else
      (bif Nat.beq pc 38 then some (.if_icmp .le 11, 3) else none)))))) else
 (bif Nat.blt pc 62 then (bif Nat.blt pc 50 then (bif Nat.blt pc 47 then (bif Nat.blt pc 44 then (bif Nat.beq pc 41 then some (.iinc 1 8, 3) else none) else
     (bif Nat.blt pc 45 then (bif Nat.beq pc 44 then some (.iload_n 0, 1) else none) else
      (bif Nat.beq pc 45 then some (.bipush 8, 2) else none))) else
    (bif Nat.blt pc 48 then (bif Nat.beq pc 47 then some (.iushr, 1) else none) else
     (bif Nat.blt pc 49 then (bif Nat.beq pc 48 then some (.istore_n 0, 1) else none) else
      (bif Nat.beq pc 49 then some (.iload_n 0, 1) else none)))) else
   (bif Nat.blt pc 58 then (bif Nat.blt pc 52 then (bif Nat.beq pc 50 then some (.bipush 16, 2) else none) else
     (bif Nat.blt pc 55 then (bif Nat.beq pc 52 then some (.if_icmp .le 10, 3) else none) else
      (bif Nat.beq pc 55 then some (.iinc 1 4, 3) else none))) else
    (bif Nat.blt pc 60 then (bif Nat.blt pc 59 then (bif Nat.beq pc 58 then some (.iload_n 0, 1) else none) else
      (bif Nat.beq pc 59 then some (.iconst 4, 1) else none)) else
     (bif Nat.blt pc 61 then (bif Nat.beq pc 60 then some (.iushr, 1) else none) else
      (bif Nat.beq pc 61 then some (.istore_n 0, 1) else none))))) else
  (bif Nat.blt pc 73 then (bif Nat.blt pc 67 then (bif Nat.blt pc 63 then (bif Nat.beq pc 62 then some (.iload_n 0, 1) else none) else
     (bif Nat.blt pc 64 then (bif Nat.beq pc 63 then some (.iconst 4, 1) else none) else
      (bif Nat.beq pc 64 then some (.if_icmp .le 10, 3) else none))) else
    (bif Nat.blt pc 71 then (bif Nat.blt pc 70 then (bif Nat.beq pc 67 then some (.iinc 1 2, 3) else none) else
      (bif Nat.beq pc 70 then some (.iload_n 0, 1) else none)) else
     (bif Nat.blt pc 72 then (bif Nat.beq pc 71 then some (.iconst 2, 1) else none) else
      (bif Nat.beq pc 72 then some (.iushr, 1) else none)))) else
   (bif Nat.blt pc 76 then (bif Nat.blt pc 74 then (bif Nat.beq pc 73 then some (.istore_n 0, 1) else none) else
     (bif Nat.blt pc 75 then (bif Nat.beq pc 74 then some (.iload_n 1, 1) else none) else
      (bif Nat.beq pc 75 then some (.iload_n 0, 1) else none))) else
    (bif Nat.blt pc 78 then (bif Nat.blt pc 77 then (bif Nat.beq pc 76 then some (.iconst 1, 1) else none) else
      (bif Nat.beq pc 77 then some (.iushr, 1) else none)) else
     (bif Nat.blt pc 79 then (bif Nat.beq pc 78 then some (.iadd, 1) else none) else
      (bif Nat.beq pc 79 then some (.ireturn, 1) else none))))))) else none
set_option maxRecDepth 10000 in
noncomputable def zc_258 (pc : Nat) : Option (Instr × Nat) :=
 bif Nat.blt pc 27 then (bif Nat.blt pc 13 then (bif Nat.blt pc 6 then (bif Nat.blt pc 2 then (bif Nat.blt pc 1 then (bif Nat.beq pc 0 then some (.iload_n 0, 1) else none) else
    (bif Nat.beq pc 1 then some (.iload_n 1, 1) else none)) else
   (bif Nat.blt pc 3 then (bif Nat.beq pc 2 then some (.iload_n 2, 1) else none) else
    (bif Nat.beq pc 3 then some (.invokestatic 194, 3) else none))) else
  (bif Nat.blt pc 8 then (bif Nat.blt pc 7 then (bif Nat.beq pc 6 then some (.iadd, 1) else none) else
    (bif Nat.beq pc 7 then some (.istore_n 3, 1) else none)) else
   (bif Nat.blt pc 9 then (bif Nat.beq pc 8 then some (.iconst 0, 1) else none) else
    (bif Nat.blt pc 10 then (bif Nat.beq pc 9 then some (.iload_n 3, 1) else none) else
     (bif Nat.beq pc 10 then some (.if_icmp .ge 11, 3) else none))))) else
 (bif Nat.blt pc 20 then (bif Nat.blt pc 16 then (bif Nat.blt pc 14 then (bif Nat.beq pc 13 then some (.iload_n 3, 1) else none) else
    (bif Nat.beq pc 14 then some (.ldc 200, 2) else none)) else
   (bif Nat.blt pc 19 then (bif Nat.beq pc 16 then some (.if_icmp .gt 5, 3) else none) else
    (bif Nat.beq pc 19 then some (.iload_n 3, 1) else none))) else
  (bif Nat.blt pc 22 then (bif Nat.blt pc 21 then (bif Nat.beq pc 20 then some (.ireturn, 1) else none) else
    (bif Nat.beq pc 21 then some (.iload_n 0, 1) else none)) else
   (bif Nat.blt pc 23 then (bif Nat.beq pc 22 then some (.iload_n 1, 1) else none) else
    (bif Nat.blt pc 26 then (bif Nat.beq pc 23 then some (.invokestatic 201, 3) else none) else
     (bif Nat.beq pc 26 then some (.ireturn, 1) else none)))))) else none
set_option maxRecDepth 10000 in
noncomputable def zc_259 (pc : Nat) : Option (Instr × Nat) :=
 bif Nat.blt pc 15 then (bif Nat.blt pc 7 then (bif Nat.blt pc 2 then (bif Nat.blt pc 1 then (bif Nat.beq pc 0 then some (.iload_n 1, 1) else none) else
   (bif Nat.beq pc 1 then some (.aload_n 0, 1) else none)) else
  (bif Nat.blt pc 3 then (bif Nat.beq pc 2 then some (.arraylength, 1) else none) else
   (bif Nat.blt pc 6 then (bif Nat.beq pc 3 then some (.invokestatic 9, 3) else none) else
    (bif Nat.beq pc 6 then some (.aload_n 0, 1) else none)))) else
 (bif Nat.blt pc 12 then (bif Nat.blt pc 8 then (bif Nat.beq pc 7 then some (.iload_n 1, 1) else none) else
   (bif Nat.blt pc 9 then (bif Nat.beq pc 8 then some (.baload, 1) else none) else
    (bif Nat.beq pc 9 then some (.sipush 255, 3) else none))) else
  (bif Nat.blt pc 13 then (bif Nat.beq pc 12 then some (.iand, 1) else none) else
   (bif Nat.blt pc 14 then (bif Nat.beq pc 13 then some (.i2c, 1) else none) else
    (bif Nat.beq pc 14 then some (.ireturn, 1) else none))))) else none
set_option maxRecDepth 10000 in
noncomputable def zc_260 (pc : Nat) : Option (Instr × Nat) :=
 bif Nat.blt pc 13 then (bif Nat.blt pc 7 then (bif Nat.blt pc 1 then (bif Nat.beq pc 0 then some (.iload_n 0, 1) else none) else
  (bif Nat.blt pc 4 then (bif Nat.beq pc 1 then some (.sipush 255, 3) else none) else
   (bif Nat.beq pc 4 then some (.if_icmp .gt 7, 3) else none))) else
 (bif Nat.blt pc 11 then (bif Nat.blt pc 8 then (bif Nat.beq pc 7 then some (.iconst 1, 1) else none) else
   (bif Nat.beq pc 8 then some (.goto 4, 3) else none)) else
  (bif Nat.blt pc 12 then (bif Nat.beq pc 11 then some (.iconst 0, 1) else none) else
   (bif Nat.beq pc 12 then some (.ireturn, 1) else none)))) else none
set_option maxRecDepth 10000 in
noncomputable def zc_261 (pc : Nat) : Option (Instr × Nat) :=
 bif Nat.blt pc 318 then (bif Nat.blt pc 146 then (bif Nat.blt pc 65 then (bif Nat.blt pc 32 then (bif Nat.blt pc 15 then (bif Nat.blt pc 9 then (bif Nat.blt pc 4 then (bif Nat.blt pc 3 then (bif Nat.beq pc 0 then some (.new 19, 3) else none) else
       (bif Nat.beq pc 3 then some (.dup, 1) else none)) else
      (bif Nat.blt pc 7 then (bif Nat.beq pc 4 then some (.invokespecial 279, 3) else none) else
       (bif Nat.blt pc 8 then (bif Nat.beq pc 7 then some (.astore_n 1, 1) else none) else
        (bif Nat.beq pc 8 then some (.iconst 1, 1) else none)))) else
     (bif Nat.blt pc 12 then (bif Nat.blt pc 11 then (bif Nat.beq pc 9 then some (.newarray .int, 2) else none) else
       (bif Nat.beq pc 11 then some (.dup, 1) else none)) else
      (bif Nat.blt pc 13 then (bif Nat.beq pc 12 then some (.iconst 0, 1) else none) else
       (bif Nat.blt pc 14 then (bif Nat.beq pc 13 then some (.aload_n 0, 1) else none) else
        (bif Nat.beq pc 14 then some (.arraylength, 1) else none))))) else
    (bif Nat.blt pc 26 then (bif Nat.blt pc 21 then (bif Nat.blt pc 18 then (bif Nat.beq pc 15 then some (.ifCond .ne 9, 3) else none) else
       (bif Nat.beq pc 18 then some (.sipush 4199, 3) else none)) else
      (bif Nat.blt pc 24 then (bif Nat.beq pc 21 then some (.goto 6, 3) else none) else
       (bif Nat.blt pc 25 then (bif Nat.beq pc 24 then some (.aload_n 0, 1) else none) else
        (bif Nat.beq pc 25 then some (.iconst 0, 1) else none)))) else
     (bif Nat.blt pc 29 then (bif Nat.blt pc 27 then (bif Nat.beq pc 26 then some (.iaload, 1) else none) else
       (bif Nat.blt pc 28 then (bif Nat.beq pc 27 then some (.iastore, 1) else none) else
        (bif Nat.beq pc 28 then some (.astore_n 2, 1) else none))) else
      (bif Nat.blt pc 30 then (bif Nat.beq pc 29 then some (.iconst 1, 1) else none) else
       (bif Nat.blt pc 31 then (bif Nat.beq pc 30 then some (.istore_n 3, 1) else none) else
        (bif Nat.beq pc 31 then some (.iconst 0, 1) else none)))))) else
   (bif Nat.blt pc 48 then (bif Nat.blt pc 41 then (bif Nat.blt pc 36 then (bif Nat.blt pc 34 then (bif Nat.beq pc 32 then some (.istore 4, 2) else none) else
       (bif Nat.beq pc 34 then some (.iload 4, 2) else none)) else
      (bif Nat.blt pc 37 then (bif Nat.beq pc 36 then some (.iconst 2, 1) else none) else
       (bif Nat.blt pc 40 then (bif Nat.beq pc 37 then some (.if_icmp .ge 279, 3) else none) else
        (bif Nat.beq pc 40 then some (.iload_n 3, 1) else none)))) else
     (bif Nat.blt pc 45 then (bif Nat.blt pc 44 then (bif Nat.beq pc 41 then some (.ifCond .eq 275, 3) else none) else
       (bif Nat.beq pc 44 then some (.aload_n 2, 1) else none)) else
      (bif Nat.blt pc 46 then (bif Nat.beq pc 45 then some (.iconst 0, 1) else none) else
       (bif Nat.blt pc 47 then (bif Nat.beq pc 46 then some (.dup2, 1) else none) else
        (bif Nat.beq pc 47 then some (.iaload, 1) else none))))) else
    (bif Nat.blt pc 56 then (bif Nat.blt pc 51 then (bif Nat.blt pc 50 then (bif Nat.beq pc 48 then some (.iload 4, 2) else none) else
       (bif Nat.beq pc 50 then some (.aload_n 0, 1) else none)) else
      (bif Nat.blt pc 52 then (bif Nat.beq pc 51 then some (.arraylength, 1) else none) else
       (bif Nat.blt pc 55 then (bif Nat.beq pc 52 then some (.if_icmp .ge 10, 3) else none) else
        (bif Nat.beq pc 55 then some (.aload_n 0, 1) else none)))) else
     (bif Nat.blt pc 62 then (bif Nat.blt pc 58 then (bif Nat.beq pc 56 then some (.iload 4, 2) else none) else
       (bif Nat.blt pc 59 then (bif Nat.beq pc 58 then some (.iaload, 1) else none) else
        (bif Nat.beq pc 59 then some (.goto 4, 3) else none))) else
      (bif Nat.blt pc 63 then (bif Nat.beq pc 62 then some (.iconst 0, 1) else none) else
       (bif Nat.blt pc 64 then (bif Nat.beq pc 63 then some (.ixor, 1) else none) else
        (bif Nat.beq pc 64 then some (.iastore, 1) else none))))))) else
  (bif Nat.blt pc 104 then (bif Nat.blt pc 86 then (bif Nat.blt pc 75 then (bif Nat.blt pc 67 then (bif Nat.blt pc 66 then (bif Nat.beq pc 65 then some (.aload_n 1, 1) else none) else
       (bif Nat.beq pc 66 then some (.aload_n 2, 1) else none)) else
      (bif Nat.blt pc 70 then (bif Nat.beq pc 67 then some (.invokestatic 280, 3) else none) else
       (bif Nat.blt pc 73 then (bif Nat.beq pc 70 then some (.invokestatic 283, 3) else none) else
        (bif Nat.beq pc 73 then some (.istore 5, 2) else none)))) else
     (bif Nat.blt pc 80 then (bif Nat.blt pc 77 then (bif Nat.beq pc 75 then some (.iload 5, 2) else none) else
       (bif Nat.beq pc 77 then some (.ifCond .le 17, 3) else none)) else
      (bif Nat.blt pc 81 then (bif Nat.beq pc 80 then some (.aload_n 1, 1) else none) else
       (bif Nat.blt pc 83 then (bif Nat.beq pc 81 then some (.iload 4, 2) else none) else
        (bif Nat.beq pc 83 then some (.invokevirtual 285, 3) else none))))) else
    (bif Nat.blt pc 95 then (bif Nat.blt pc 90 then (bif Nat.blt pc 87 then (bif Nat.beq pc 86 then some (.iconst 1, 1) else none) else
       (bif Nat.beq pc 87 then some (.if_icmp .ne 7, 3) else none)) else
      (bif Nat.blt pc 91 then (bif Nat.beq pc 90 then some (.iconst 1, 1) else none) else
       (bif Nat.blt pc 94 then (bif Nat.beq pc 91 then some (.goto 4, 3) else none) else
        (bif Nat.beq pc 94 then some (.iconst 0, 1) else none)))) else
     (bif Nat.blt pc 100 then (bif Nat.blt pc 96 then (bif Nat.beq pc 95 then some (.istore_n 3, 1) else none) else
       (bif Nat.blt pc 97 then (bif Nat.beq pc 96 then some (.aload_n 1, 1) else none) else
        (bif Nat.beq pc 97 then some (.invokestatic 288, 3) else none))) else
      (bif Nat.blt pc 102 then (bif Nat.beq pc 100 then some (.lstore 6, 2) else none) else
       (bif Nat.blt pc 103 then (bif Nat.beq pc 102 then some (.aload_n 1, 1) else none) else
        (bif Nat.beq pc 103 then some (.iconst 5, 1) else none)))))) else
   (bif Nat.blt pc 126 then (bif Nat.blt pc 114 then (bif Nat.blt pc 109 then (bif Nat.blt pc 107 then (bif Nat.beq pc 104 then some (.invokevirtual 142, 3) else none) else
       (bif Nat.beq pc 107 then some (.istore 8, 2) else none)) else
      (bif Nat.blt pc 110 then (bif Nat.beq pc 109 then some (.iconst 0, 1) else none) else
       (bif Nat.blt pc 112 then (bif Nat.beq pc 110 then some (.istore 9, 2) else none) else
        (bif Nat.beq pc 112 then some (.iload 9, 2) else none)))) else
     (bif Nat.blt pc 119 then (bif Nat.blt pc 115 then (bif Nat.beq pc 114 then some (.iconst 3, 1) else none) else
       (bif Nat.blt pc 118 then (bif Nat.beq pc 115 then some (.if_icmp .ge 155, 3) else none) else
        (bif Nat.beq pc 118 then some (.iload_n 3, 1) else none))) else
      (bif Nat.blt pc 122 then (bif Nat.beq pc 119 then some (.ifCond .eq 151, 3) else none) else
       (bif Nat.blt pc 123 then (bif Nat.beq pc 122 then some (.aload_n 1, 1) else none) else
        (bif Nat.beq pc 123 then some (.invokestatic 288, 3) else none))))) else
    (bif Nat.blt pc 134 then (bif Nat.blt pc 129 then (bif Nat.blt pc 128 then (bif Nat.beq pc 126 then some (.lstore 10, 2) else none) else
       (bif Nat.beq pc 128 then some (.aload_n 1, 1) else none)) else
      (bif Nat.blt pc 130 then (bif Nat.beq pc 129 then some (.iconst (-1), 1) else none) else
       (bif Nat.blt pc 131 then (bif Nat.beq pc 130 then some (.iconst 0, 1) else none) else
        (bif Nat.beq pc 131 then some (.invokestatic 248, 3) else none)))) else
     (bif Nat.blt pc 140 then (bif Nat.blt pc 136 then (bif Nat.beq pc 134 then some (.bipush (-5), 2) else none) else
       (bif Nat.blt pc 139 then (bif Nat.beq pc 136 then some (.if_icmp .ne 65, 3) else none) else
        (bif Nat.beq pc 139 then some (.aload_n 1, 1) else none))) else
      (bif Nat.blt pc 142 then (bif Nat.beq pc 140 then some (.iload 5, 2) else none) else
       (bif Nat.blt pc 143 then (bif Nat.beq pc 142 then some (.iconst 0, 1) else none) else
        (bif Nat.beq pc 143 then some (.invokestatic 276, 3) else none)))))))) else
 (bif Nat.blt pc 233 then (bif Nat.blt pc 193 then (bif Nat.blt pc 167 then (bif Nat.blt pc 155 then (bif Nat.blt pc 151 then (bif Nat.blt pc 148 then (bif Nat.beq pc 146 then some (.bipush (-5), 2) else none) else
       (bif Nat.beq pc 148 then some (.if_icmp .ne 53, 3) else none)) else
      (bif Nat.blt pc 152 then (bif Nat.beq pc 151 then some (.aload_n 1, 1) else none) else
       (bif Nat.blt pc 153 then (bif Nat.beq pc 152 then some (.iconst 0, 1) else none) else
        (bif Nat.beq pc 153 then some (.bipush 100, 2) else none)))) else
     (bif Nat.blt pc 160 then (bif Nat.blt pc 158 then (bif Nat.beq pc 155 then some (.invokestatic 276, 3) else none) else
       (bif Nat.beq pc 158 then some (.bipush (-2), 2) else none)) else
      (bif Nat.blt pc 163 then (bif Nat.beq pc 160 then some (.if_icmp .ne 41, 3) else none) else
       (bif Nat.blt pc 164 then (bif Nat.beq pc 163 then some (.aload_n 1, 1) else none) else
        (bif Nat.beq pc 164 then some (.ldc_w 292, 3) else none))))) else
    (bif Nat.blt pc 179 then (bif Nat.blt pc 172 then (bif Nat.blt pc 170 then (bif Nat.beq pc 167 then some (.invokestatic 258, 3) else none) else
       (bif Nat.beq pc 170 then some (.bipush (-3), 2) else none)) else
      (bif Nat.blt pc 175 then (bif Nat.beq pc 172 then some (.if_icmp .ne 29, 3) else none) else
       (bif Nat.blt pc 176 then (bif Nat.beq pc 175 then some (.aload_n 1, 1) else none) else
        (bif Nat.beq pc 176 then some (.ldc_w 294, 3) else none)))) else
     (bif Nat.blt pc 187 then (bif Nat.blt pc 182 then (bif Nat.beq pc 179 then some (.invokestatic 263, 3) else none) else
       (bif Nat.blt pc 184 then (bif Nat.beq pc 182 then some (.bipush (-3), 2) else none) else
        (bif Nat.beq pc 184 then some (.if_icmp .ne 17, 3) else none))) else
      (bif Nat.blt pc 188 then (bif Nat.beq pc 187 then some (.aload_n 1, 1) else none) else
       (bif Nat.blt pc 191 then (bif Nat.beq pc 188 then some (.invokestatic 288, 3) else none) else
        (bif Nat.beq pc 191 then some (.lload 10, 2) else none)))))) else
   (bif Nat.blt pc 212 then (bif Nat.blt pc 202 then (bif Nat.blt pc 197 then (bif Nat.blt pc 194 then (bif Nat.beq pc 193 then some (.lcmp, 1) else none) else
       (bif Nat.beq pc 194 then some (.ifCond .ne 7, 3) else none)) else
      (bif Nat.blt pc 198 then (bif Nat.beq pc 197 then some (.iconst 1, 1) else none) else
       (bif Nat.blt pc 201 then (bif Nat.beq pc 198 then some (.goto 4, 3) else none) else
        (bif Nat.beq pc 201 then some (.iconst 0, 1) else none)))) else
     (bif Nat.blt pc 207 then (bif Nat.blt pc 203 then (bif Nat.beq pc 202 then some (.istore_n 3, 1) else none) else
       (bif Nat.blt pc 204 then (bif Nat.beq pc 203 then some (.iload_n 3, 1) else none) else
        (bif Nat.beq pc 204 then some (.ifCond .eq 22, 3) else none))) else
      (bif Nat.blt pc 208 then (bif Nat.beq pc 207 then some (.aload_n 1, 1) else none) else
       (bif Nat.blt pc 209 then (bif Nat.beq pc 208 then some (.aload_n 2, 1) else none) else
        (bif Nat.beq pc 209 then some (.invokestatic 296, 3) else none))))) else
    (bif Nat.blt pc 223 then (bif Nat.blt pc 216 then (bif Nat.blt pc 215 then (bif Nat.beq pc 212 then some (.ifCond .eq 14, 3) else none) else
       (bif Nat.beq pc 215 then some (.aload_n 1, 1) else none)) else
      (bif Nat.blt pc 219 then (bif Nat.beq pc 216 then some (.invokestatic 300, 3) else none) else
       (bif Nat.blt pc 222 then (bif Nat.beq pc 219 then some (.ifCond .eq 7, 3) else none) else
        (bif Nat.beq pc 222 then some (.iconst 1, 1) else none)))) else
     (bif Nat.blt pc 228 then (bif Nat.blt pc 226 then (bif Nat.beq pc 223 then some (.goto 4, 3) else none) else
       (bif Nat.blt pc 227 then (bif Nat.beq pc 226 then some (.iconst 0, 1) else none) else
        (bif Nat.beq pc 227 then some (.istore_n 3, 1) else none))) else
      (bif Nat.blt pc 229 then (bif Nat.beq pc 228 then some (.iload_n 3, 1) else none) else
       (bif Nat.blt pc 232 then (bif Nat.beq pc 229 then some (.ifCond .eq 35, 3) else none) else
        (bif Nat.beq pc 232 then some (.aload_n 2, 1) else none))))))) else
  (bif Nat.blt pc 275 then (bif Nat.blt pc 254 then (bif Nat.blt pc 242 then (bif Nat.blt pc 237 then (bif Nat.blt pc 236 then (bif Nat.beq pc 233 then some (.invokestatic 62, 3) else none) else
       (bif Nat.beq pc 236 then some (.iconst 4, 1) else none)) else
      (bif Nat.blt pc 238 then (bif Nat.beq pc 237 then some (.irem, 1) else none) else
       (bif Nat.blt pc 241 then (bif Nat.beq pc 238 then some (.ifCond .ne 26, 3) else none) else
        (bif Nat.beq pc 241 then some (.aload_n 1, 1) else none)))) else
     (bif Nat.blt pc 248 then (bif Nat.blt pc 245 then (bif Nat.beq pc 242 then some (.invokestatic 304, 3) else none) else
       (bif Nat.beq pc 245 then some (.ifCond .lt 17, 3) else none)) else
      (bif Nat.blt pc 249 then (bif Nat.beq pc 248 then some (.aload_n 1, 1) else none) else
       (bif Nat.blt pc 252 then (bif Nat.beq pc 249 then some (.invokestatic 288, 3) else none) else
        (bif Nat.beq pc 252 then some (.lload 10, 2) else none))))) else
    (bif Nat.blt pc 263 then (bif Nat.blt pc 258 then (bif Nat.blt pc 255 then (bif Nat.beq pc 254 then some (.lcmp, 1) else none) else
       (bif Nat.beq pc 255 then some (.ifCond .ne 7, 3) else none)) else
      (bif Nat.blt pc 259 then (bif Nat.beq pc 258 then some (.iconst 1, 1) else none) else
       (bif Nat.blt pc 262 then (bif Nat.beq pc 259 then some (.goto 4, 3) else none) else
        (bif Nat.beq pc 262 then some (.iconst 0, 1) else none)))) else
     (bif Nat.blt pc 270 then (bif Nat.blt pc 264 then (bif Nat.beq pc 263 then some (.istore_n 3, 1) else none) else
       (bif Nat.blt pc 267 then (bif Nat.beq pc 264 then some (.iinc 9 1, 3) else none) else
        (bif Nat.beq pc 267 then some (.goto (-155), 3) else none))) else
      (bif Nat.blt pc 271 then (bif Nat.beq pc 270 then some (.iload_n 3, 1) else none) else
       (bif Nat.blt pc 274 then (bif Nat.beq pc 271 then some (.ifCond .eq 39, 3) else none) else
        (bif Nat.beq pc 274 then some (.aload_n 2, 1) else none)))))) else
   (bif Nat.blt pc 298 then (bif Nat.blt pc 284 then (bif Nat.blt pc 279 then (bif Nat.blt pc 278 then (bif Nat.beq pc 275 then some (.invokestatic 62, 3) else none) else
       (bif Nat.beq pc 278 then some (.iconst 2, 1) else none)) else
      (bif Nat.blt pc 280 then (bif Nat.beq pc 279 then some (.irem, 1) else none) else
       (bif Nat.blt pc 283 then (bif Nat.beq pc 280 then some (.ifCond .ne 30, 3) else none) else
        (bif Nat.beq pc 283 then some (.aload_n 1, 1) else none)))) else
     (bif Nat.blt pc 291 then (bif Nat.blt pc 286 then (bif Nat.beq pc 284 then some (.iload 4, 2) else none) else
       (bif Nat.blt pc 289 then (bif Nat.beq pc 286 then some (.invokevirtual 308, 3) else none) else
        (bif Nat.beq pc 289 then some (.iload 8, 2) else none))) else
      (bif Nat.blt pc 294 then (bif Nat.beq pc 291 then some (.if_icmp .ne 17, 3) else none) else
       (bif Nat.blt pc 295 then (bif Nat.beq pc 294 then some (.aload_n 1, 1) else none) else
        (bif Nat.beq pc 295 then some (.invokestatic 288, 3) else none))))) else
    (bif Nat.blt pc 308 then (bif Nat.blt pc 301 then (bif Nat.blt pc 300 then (bif Nat.beq pc 298 then some (.lload 6, 2) else none) else
       (bif Nat.beq pc 300 then some (.lcmp, 1) else none)) else
      (bif Nat.blt pc 304 then (bif Nat.beq pc 301 then some (.ifCond .ne 7, 3) else none) else
       (bif Nat.blt pc 305 then (bif Nat.beq pc 304 then some (.iconst 1, 1) else none) else
        (bif Nat.beq pc 305 then some (.goto 4, 3) else none)))) else
     (bif Nat.blt pc 313 then (bif Nat.blt pc 309 then (bif Nat.beq pc 308 then some (.iconst 0, 1) else none) else
       (bif Nat.blt pc 310 then (bif Nat.beq pc 309 then some (.istore_n 3, 1) else none) else
        (bif Nat.beq pc 310 then some (.iinc 4 1, 3) else none))) else
      (bif Nat.blt pc 316 then (bif Nat.beq pc 313 then some (.goto (-279), 3) else none) else
       (bif Nat.blt pc 317 then (bif Nat.beq pc 316 then some (.iload_n 3, 1) else none) else
        (bif Nat.beq pc 317 then some (.ireturn, 1) else none))))))))) else none
noncomputable def zcode (m pc : Nat) : Option (Instr × Nat) :=
 (bif Nat.blt m 131 then (bif Nat.blt m 65 then (bif Nat.blt m 32 then (bif Nat.blt m 16 then (bif Nat.blt m 8 then (bif Nat.blt m 4 then (bif Nat.blt m 2 then (bif Nat.blt m 1 then (bif Nat.beq m 0 then zc_0 pc else none) else
        (bif Nat.beq m 1 then zc_1 pc else none)) else
       (bif Nat.blt m 3 then (bif Nat.beq m 2 then zc_2 pc else none) else
        (bif Nat.beq m 3 then zc_3 pc else none))) else
      (bif Nat.blt m 6 then (bif Nat.blt m 5 then (bif Nat.beq m 4 then zc_4 pc else none) else
        (bif Nat.beq m 5 then zc_5 pc else none)) else
       (bif Nat.blt m 7 then (bif Nat.beq m 6 then zc_6 pc else none) else
        (bif Nat.beq m 7 then zc_7 pc else none)))) else
     (bif Nat.blt m 12 then (bif Nat.blt m 10 then (bif Nat.blt m 9 then (bif Nat.beq m 8 then zc_8 pc else none) else
        (bif Nat.beq m 9 then zc_9 pc else none)) else
       (bif Nat.blt m 11 then (bif Nat.beq m 10 then zc_10 pc else none) else
        (bif Nat.beq m 11 then zc_11 pc else none))) else
      (bif Nat.blt m 14 then (bif Nat.blt m 13 then (bif Nat.beq m 12 then zc_12 pc else none) else
        (bif Nat.beq m 13 then zc_13 pc else none)) else
       (bif Nat.blt m 15 then (bif Nat.beq m 14 then zc_14 pc else none) else
        (bif Nat.beq m 15 then zc_15 pc else none))))) else
    (bif Nat.blt m 24 then (bif Nat.blt m 20 then (bif Nat.blt m 18 then (bif Nat.blt m 17 then (bif Nat.beq m 16 then zc_16 pc else none) else
        (bif Nat.beq m 17 then zc_17 pc else none)) else
       (bif Nat.blt m 19 then (bif Nat.beq m 18 then zc_18 pc else none) else
        (bif Nat.beq m 19 then zc_19 pc else none))) else
      (bif Nat.blt m 22 then (bif Nat.blt m 21 then (bif Nat.beq m 20 then zc_20 pc else none) else
        (bif Nat.beq m 21 then zc_21 pc else none)) else
       (bif Nat.blt m 23 then (bif Nat.beq m 22 then zc_22 pc else none) else
        (bif Nat.beq m 23 then zc_23 pc else none)))) else
     (bif Nat.blt m 28 then (bif Nat.blt m 26 then (bif Nat.blt m 25 then (bif Nat.beq m 24 then zc_24 pc else none) else
        (bif Nat.beq m 25 then zc_25 pc else none)) else
       (bif Nat.blt m 27 then (bif Nat.beq m 26 then zc_26 pc else none) else
        (bif Nat.beq m 27 then zc_27 pc else none))) else
      (bif Nat.blt m 30 then (bif Nat.blt m 29 then (bif Nat.beq m 28 then zc_28 pc else none) else
        (bif Nat.beq m 29 then zc_29 pc else none)) else
       (bif Nat.blt m 31 then (bif Nat.beq m 30 then zc_30 pc else none) else
        (bif Nat.beq m 31 then zc_31 pc else none)))))) else
   (bif Nat.blt m 48 then (bif Nat.blt m 40 then (bif Nat.blt m 36 then (bif Nat.blt m 34 then (bif Nat.blt m 33 then (bif Nat.beq m 32 then zc_32 pc else none) else
        (bif Nat.beq m 33 then zc_33 pc else none)) else
       (bif Nat.blt m 35 then (bif Nat.beq m 34 then zc_34 pc else none) else
        (bif Nat.beq m 35 then zc_35 pc else none))) else
      (bif Nat.blt m 38 then (bif Nat.blt m 37 then (bif Nat.beq m 36 then zc_36 pc else none) else
        (bif Nat.beq m 37 then zc_37 pc else none)) else
       (bif Nat.blt m 39 then (bif Nat.beq m 38 then zc_38 pc else none) else
        (bif Nat.beq m 39 then zc_39 pc else none)))) else
     (bif Nat.blt m 44 then (bif Nat.blt m 42 then (bif Nat.blt m 41 then (bif Nat.beq m 40 then zc_40 pc else none) else
        (bif Nat.beq m 41 then zc_41 pc else none)) else
       (bif Nat.blt m 43 then (bif Nat.beq m 42 then zc_42 pc else none) else
        (bif Nat.beq m 43 then zc_43 pc else none))) else
      (bif Nat.blt m 46 then (bif Nat.blt m 45 then (bif Nat.beq m 44 then zc_44 pc else none) else
        (bif Nat.beq m 45 then zc_45 pc else none)) else
       (bif Nat.blt m 47 then (bif Nat.beq m 46 then zc_46 pc else none) else
        (bif Nat.beq m 47 then zc_47 pc else none))))) else
    (bif Nat.blt m 56 then (bif Nat.blt m 52 then (bif Nat.blt m 50 then (bif Nat.blt m 49 then (bif Nat.beq m 48 then zc_48 pc else none) else
        (bif Nat.beq m 49 then zc_49 pc else none)) else
       (bif Nat.blt m 51 then (bif Nat.beq m 50 then zc_50 pc else none) else
        (bif Nat.beq m 51 then zc_51 pc else none))) else
      (bif Nat.blt m 54 then (bif Nat.blt m 53 then (bif Nat.beq m 52 then zc_52 pc else none) else
        (bif Nat.beq m 53 then zc_53 pc else none)) else
       (bif Nat.blt m 55 then (bif Nat.beq m 54 then zc_54 pc else none) else
        (bif Nat.beq m 55 then zc_55 pc else none)))) else
     (bif Nat.blt m 60 then (bif Nat.blt m 58 then (bif Nat.blt m 57 then (bif Nat.beq m 56 then zc_56 pc else none) else
        (bif Nat.beq m 57 then zc_57 pc else none)) else
       (bif Nat.blt m 59 then (bif Nat.beq m 58 then zc_58 pc else none) else
        (bif Nat.beq m 59 then zc_59 pc else none))) else
      (bif Nat.blt m 62 then (bif Nat.blt m 61 then (bif Nat.beq m 60 then zc_60 pc else none) else
        (bif Nat.beq m 61 then zc_61 pc else none)) else
       (bif Nat.blt m 63 then (bif Nat.beq m 62 then zc_62 pc else none) else
        (bif Nat.blt m 64 then (bif Nat.beq m 63 then zc_63 pc else none) else
         (bif Nat.beq m 64 then zc_64 pc else none)))))))) else
  (bif Nat.blt m 98 then (bif Nat.blt m 81 then (bif Nat.blt m 73 then (bif Nat.blt m 69 then (bif Nat.blt m 67 then (bif Nat.blt m 66 then (bif Nat.beq m 65 then zc_65 pc else none) else
        (bif Nat.beq m 66 then zc_66 pc else none)) else
       (bif Nat.blt m 68 then (bif Nat.beq m 67 then zc_67 pc else none) else
        (bif Nat.beq m 68 then zc_68 pc else none))) else
      (bif Nat.blt m 71 then (bif Nat.blt m 70 then (bif Nat.beq m 69 then zc_69 pc else none) else
        (bif Nat.beq m 70 then zc_70 pc else none)) else
       (bif Nat.blt m 72 then (bif Nat.beq m 71 then zc_71 pc else none) else
        (bif Nat.beq m 72 then zc_72 pc else none)))) else
     (bif Nat.blt m 77 then (bif Nat.blt m 75 then (bif Nat.blt m 74 then (bif Nat.beq m 73 then zc_73 pc else none) else
        (bif Nat.beq m 74 then zc_74 pc else none)) else
       (bif Nat.blt m 76 then (bif Nat.beq m 75 then zc_75 pc else none) else
        (bif Nat.beq m 76 then zc_76 pc else none))) else
      (bif Nat.blt m 79 then (bif Nat.blt m 78 then (bif Nat.beq m 77 then zc_77 pc else none) else
        (bif Nat.beq m 78 then zc_78 pc else none)) else
       (bif Nat.blt m 80 then (bif Nat.beq m 79 then zc_79 pc else none) else
        (bif Nat.beq m 80 then zc_80 pc else none))))) else
    (bif Nat.blt m 89 then (bif Nat.blt m 85 then (bif Nat.blt m 83 then (bif Nat.blt m 82 then (bif Nat.beq m 81 then zc_81 pc else none) else
        (bif Nat.beq m 82 then zc_82 pc else none)) else
       (bif Nat.blt m 84 then (bif Nat.beq m 83 then zc_83 pc else none) else
        (bif Nat.beq m 84 then zc_84 pc else none))) else
      (bif Nat.blt m 87 then (bif Nat.blt m 86 then (bif Nat.beq m 85 then zc_85 pc else none) else
        (bif Nat.beq m 86 then zc_86 pc else none)) else
       (bif Nat.blt m 88 then (bif Nat.beq m 87 then zc_87 pc else none) else
        (bif Nat.beq m 88 then zc_88 pc else none)))) else
     (bif Nat.blt m 93 then (bif Nat.blt m 91 then (bif Nat.blt m 90 then (bif Nat.beq m 89 then zc_89 pc else none) else
        (bif Nat.beq m 90 then zc_90 pc else none)) else
       (bif Nat.blt m 92 then (bif Nat.beq m 91 then zc_91 pc else none) else
        (bif Nat.beq m 92 then zc_92 pc else none))) else
      (bif Nat.blt m 95 then (bif Nat.blt m 94 then (bif Nat.beq m 93 then zc_93 pc else none) else
        (bif Nat.beq m 94 then zc_94 pc else none)) else
       (bif Nat.blt m 96 then (bif Nat.beq m 95 then zc_95 pc else none) else
        (bif Nat.blt m 97 then (bif Nat.beq m 96 then zc_96 pc else none) else
         (bif Nat.beq m 97 then zc_97 pc else none))))))) else
   (bif Nat.blt m 114 then (bif Nat.blt m 106 then (bif Nat.blt m 102 then (bif Nat.blt m 100 then (bif Nat.blt m 99 then (bif Nat.beq m 98 then zc_98 pc else none) else
        (bif Nat.beq m 99 then zc_99 pc else none)) else
       (bif Nat.blt m 101 then (bif Nat.beq m 100 then zc_100 pc else none) else
        (bif Nat.beq m 101 then zc_101 pc else none))) else
      (bif Nat.blt m 104 then (bif Nat.blt m 103 then (bif Nat.beq m 102 then zc_102 pc else none) else
        (bif Nat.beq m 103 then zc_103 pc else none)) else
       (bif Nat.blt m 105 then (bif Nat.beq m 104 then zc_104 pc else none) else
        (bif Nat.beq m 105 then zc_105 pc else none)))) else
     (bif Nat.blt m 110 then (bif Nat.blt m 108 then (bif Nat.blt m 107 then (bif Nat.beq m 106 then zc_106 pc else none) else
        (bif Nat.beq m 107 then zc_107 pc else none)) else
       (bif Nat.blt m 109 then (bif Nat.beq m 108 then zc_108 pc else none) else
        (bif Nat.beq m 109 then zc_109 pc else none))) else
      (bif Nat.blt m 112 then (bif Nat.blt m 111 then (bif Nat.beq m 110 then zc_110 pc else none) else
        (bif Nat.beq m 111 then zc_111 pc else none)) else
       (bif Nat.blt m 113 then (bif Nat.beq m 112 then zc_112 pc else none) else
        (bif Nat.beq m 113 then zc_113 pc else none))))) else
    (bif Nat.blt m 122 then (bif Nat.blt m 118 then (bif Nat.blt m 116 then (bif Nat.blt m 115 then (bif Nat.beq m 114 then zc_114 pc else none) else
        (bif Nat.beq m 115 then zc_115 pc else none)) else
       (bif Nat.blt m 117 then (bif Nat.beq m 116 then zc_116 pc else none) else
        (bif Nat.beq m 117 then zc_117 pc else none))) else
      (bif Nat.blt m 120 then (bif Nat.blt m 119 then (bif Nat.beq m 118 then zc_118 pc else none) else
        (bif Nat.beq m 119 then zc_119 pc else none)) else
       (bif Nat.blt m 121 then (bif Nat.beq m 120 then zc_120 pc else none) else
        (bif Nat.beq m 121 then zc_121 pc else none)))) else
     (bif Nat.blt m 126 then (bif Nat.blt m 124 then (bif Nat.blt m 123 then (bif Nat.beq m 122 then zc_122 pc else none) else
        (bif Nat.beq m 123 then zc_123 pc else none)) else
       (bif Nat.blt m 125 then (bif Nat.beq m 124 then zc_124 pc else none) else
        (bif Nat.beq m 125 then zc_125 pc else none))) else
      (bif Nat.blt m 128 then (bif Nat.blt m 127 then (bif Nat.beq m 126 then zc_126 pc else none) else
        (bif Nat.beq m 127 then zc_127 pc else none)) else
       (bif Nat.blt m 129 then (bif Nat.beq m 128 then zc_128 pc else none) else
        (bif Nat.blt m 130 then (bif Nat.beq m 129 then zc_129 pc else none) else
         (bif Nat.beq m 130 then zc_130 pc else none))))))))) else
 (bif Nat.blt m 196 then (bif Nat.blt m 163 then (bif Nat.blt m 147 then (bif Nat.blt m 139 then (bif Nat.blt m 135 then (bif Nat.blt m 133 then (bif Nat.blt m 132 then (bif Nat.beq m 131 then zc_131 pc else none) else
        (bif Nat.beq m 132 then zc_132 pc else none)) else
       (bif Nat.blt m 134 then (bif Nat.beq m 133 then zc_133 pc else none) else
        (bif Nat.beq m 134 then zc_134 pc else none))) else
      (bif Nat.blt m 137 then (bif Nat.blt m 136 then (bif Nat.beq m 135 then zc_135 pc else none) else
        (bif Nat.beq m 136 then zc_136 pc else none)) else
       (bif Nat.blt m 138 then (bif Nat.beq m 137 then zc_137 pc else none) else
        (bif Nat.beq m 138 then zc_138 pc else none)))) else
     (bif Nat.blt m 143 then (bif Nat.blt m 141 then (bif Nat.blt m 140 then (bif Nat.beq m 139 then zc_139 pc else none) else
        (bif Nat.beq m 140 then zc_140 pc else none)) else
       (bif Nat.blt m 142 then (bif Nat.beq m 141 then zc_141 pc else none) else
        (bif Nat.beq m 142 then zc_142 pc else none))) else
      (bif Nat.blt m 145 then (bif Nat.blt m 144 then (bif Nat.beq m 143 then zc_143 pc else none) else
        (bif Nat.beq m 144 then zc_144 pc else none)) else
       (bif Nat.blt m 146 then (bif Nat.beq m 145 then zc_145 pc else none) else
        (bif Nat.beq m 146 then zc_146 pc else none))))) else
    (bif Nat.blt m 155 then (bif Nat.blt m 151 then (bif Nat.blt m 149 then (bif Nat.blt m 148 then (bif Nat.beq m 147 then zc_147 pc else none) else
        (bif Nat.beq m 148 then zc_148 pc else none)) else
       (bif Nat.blt m 150 then (bif Nat.beq m 149 then zc_149 pc else none) else
        (bif Nat.beq m 150 then zc_150 pc else none))) else
      (bif Nat.blt m 153 then (bif Nat.blt m 152 then (bif Nat.beq m 151 then zc_151 pc else none) else
        (bif Nat.beq m 152 then zc_152 pc else none)) else
       (bif Nat.blt m 154 then (bif Nat.beq m 153 then zc_153 pc else none) else
        (bif Nat.beq m 154 then zc_154 pc else none)))) else
     (bif Nat.blt m 159 then (bif Nat.blt m 157 then (bif Nat.blt m 156 then (bif Nat.beq m 155 then zc_155 pc else none) else
        (bif Nat.beq m 156 then zc_156 pc else none)) else
       (bif Nat.blt m 158 then (bif Nat.beq m 157 then zc_157 pc else none) else
        (bif Nat.beq m 158 then zc_158 pc else none))) else
      (bif Nat.blt m 161 then (bif Nat.blt m 160 then (bif Nat.beq m 159 then zc_159 pc else none) else
        (bif Nat.beq m 160 then zc_160 pc else none)) else
       (bif Nat.blt m 162 then (bif Nat.beq m 161 then zc_161 pc else none) else
        (bif Nat.beq m 162 then zc_162 pc else none)))))) else
   (bif Nat.blt m 179 then (bif Nat.blt m 171 then (bif Nat.blt m 167 then (bif Nat.blt m 165 then (bif Nat.blt m 164 then (bif Nat.beq m 163 then zc_163 pc else none) else
        (bif Nat.beq m 164 then zc_164 pc else none)) else
       (bif Nat.blt m 166 then (bif Nat.beq m 165 then zc_165 pc else none) else
        (bif Nat.beq m 166 then zc_166 pc else none))) else
      (bif Nat.blt m 169 then (bif Nat.blt m 168 then (bif Nat.beq m 167 then zc_167 pc else none) else
        (bif Nat.beq m 168 then zc_168 pc else none)) else
       (bif Nat.blt m 170 then (bif Nat.beq m 169 then zc_169 pc else none) else
        (bif Nat.beq m 170 then zc_170 pc else none)))) else
     (bif Nat.blt m 175 then (bif Nat.blt m 173 then (bif Nat.blt m 172 then (bif Nat.beq m 171 then zc_171 pc else none) else
        (bif Nat.beq m 172 then zc_172 pc else none)) else
       (bif Nat.blt m 174 then (bif Nat.beq m 173 then zc_173 pc else none) else
        (bif Nat.beq m 174 then zc_174 pc else none))) else
      (bif Nat.blt m 177 then (bif Nat.blt m 176 then (bif Nat.beq m 175 then zc_175 pc else none) else
        (bif Nat.beq m 176 then zc_176 pc else none)) else
       (bif Nat.blt m 178 then (bif Nat.beq m 177 then zc_177 pc else none) else
        (bif Nat.beq m 178 then zc_178 pc else none))))) else
    (bif Nat.blt m 187 then (bif Nat.blt m 183 then (bif Nat.blt m 181 then (bif Nat.blt m 180 then (bif Nat.beq m 179 then zc_179 pc else none) else
        (bif Nat.beq m 180 then zc_180 pc else none)) else
       (bif Nat.blt m 182 then (bif Nat.beq m 181 then zc_181 pc else none) else
        (bif Nat.beq m 182 then zc_182 pc else none))) else
      (bif Nat.blt m 185 then (bif Nat.blt m 184 then (bif Nat.beq m 183 then zc_183 pc else none) else
        (bif Nat.beq m 184 then zc_184 pc else none)) else
       (bif Nat.blt m 186 then (bif Nat.beq m 185 then zc_185 pc else none) else
        (bif Nat.beq m 186 then zc_186 pc else none)))) else
     (bif Nat.blt m 191 then (bif Nat.blt m 189 then (bif Nat.blt m 188 then (bif Nat.beq m 187 then zc_187 pc else none) else
        (bif Nat.beq m 188 then zc_188 pc else none)) else
       (bif Nat.blt m 190 then (bif Nat.beq m 189 then zc_189 pc else none) else
        (bif Nat.beq m 190 then zc_190 pc else none))) else
      (bif Nat.blt m 193 then (bif Nat.blt m 192 then (bif Nat.beq m 191 then zc_191 pc else none) else
        (bif Nat.beq m 192 then zc_192 pc else none)) else
       (bif Nat.blt m 194 then (bif Nat.beq m 193 then zc_193 pc else none) else
        (bif Nat.blt m 195 then (bif Nat.beq m 194 then zc_194 pc else none) else
         (bif Nat.beq m 195 then zc_195 pc else none)))))))) else
  (bif Nat.blt m 229 then (bif Nat.blt m 212 then (bif Nat.blt m 204 then (bif Nat.blt m 200 then (bif Nat.blt m 198 then (bif Nat.blt m 197 then (bif Nat.beq m 196 then zc_196 pc else none) else
        (bif Nat.beq m 197 then zc_197 pc else none)) else
       (bif Nat.blt m 199 then (bif Nat.beq m 198 then zc_198 pc else none) else
        (bif Nat.beq m 199 then zc_199 pc else none))) else
      (bif Nat.blt m 202 then (bif Nat.blt m 201 then (bif Nat.beq m 200 then zc_200 pc else none) else
        (bif Nat.beq m 201 then zc_201 pc else none)) else
       (bif Nat.blt m 203 then (bif Nat.beq m 202 then zc_202 pc else none) else
        (bif Nat.beq m 203 then zc_203 pc else none)))) else
     (bif Nat.blt m 208 then (bif Nat.blt m 206 then (bif Nat.blt m 205 then (bif Nat.beq m 204 then zc_204 pc else none) else
        (bif Nat.beq m 205 then zc_205 pc else none)) else
       (bif Nat.blt m 207 then (bif Nat.beq m 206 then zc_206 pc else none) else
        (bif Nat.beq m 207 then zc_207 pc else none))) else
      (bif Nat.blt m 210 then (bif Nat.blt m 209 then (bif Nat.beq m 208 then zc_208 pc else none) else
        (bif Nat.beq m 209 then zc_209 pc else none)) else
       (bif Nat.blt m 211 then (bif Nat.beq m 210 then zc_210 pc else none) else
        (bif Nat.beq m 211 then zc_211 pc else none))))) else
    (bif Nat.blt m 220 then (bif Nat.blt m 216 then (bif Nat.blt m 214 then (bif Nat.blt m 213 then (bif Nat.beq m 212 then zc_212 pc else none) else
        (bif Nat.beq m 213 then zc_213 pc else none)) else
       (bif Nat.blt m 215 then (bif Nat.beq m 214 then zc_214 pc else none) else
        (bif Nat.beq m 215 then zc_215 pc else none))) else
      (bif Nat.blt m 218 then (bif Nat.blt m 217 then (bif Nat.beq m 216 then zc_216 pc else none) else
        (bif Nat.beq m 217 then zc_217 pc else none)) else
       (bif Nat.blt m 219 then (bif Nat.beq m 218 then zc_218 pc else none) else
        (bif Nat.beq m 219 then zc_219 pc else none)))) else
     (bif Nat.blt m 224 then (bif Nat.blt m 222 then (bif Nat.blt m 221 then (bif Nat.beq m 220 then zc_220 pc else none) else
        (bif Nat.beq m 221 then zc_221 pc else none)) else
       (bif Nat.blt m 223 then (bif Nat.beq m 222 then zc_222 pc else none) else
        (bif Nat.beq m 223 then zc_223 pc else none))) else
      (bif Nat.blt m 226 then (bif Nat.blt m 225 then (bif Nat.beq m 224 then zc_224 pc else none) else
        (bif Nat.beq m 225 then zc_225 pc else none)) else
       (bif Nat.blt m 227 then (bif Nat.beq m 226 then zc_226 pc else none) else
        (bif Nat.blt m 228 then (bif Nat.beq m 227 then zc_227 pc else none) else
         (bif Nat.beq m 228 then zc_228 pc else none))))))) else
   (bif Nat.blt m 245 then (bif Nat.blt m 237 then (bif Nat.blt m 233 then (bif Nat.blt m 231 then (bif Nat.blt m 230 then (bif Nat.beq m 229 then zc_229 pc else none) else
        (bif Nat.beq m 230 then zc_230 pc else none)) else
       (bif Nat.blt m 232 then (bif Nat.beq m 231 then zc_231 pc else none) else
        (bif Nat.beq m 232 then zc_232 pc else none))) else
      (bif Nat.blt m 235 then (bif Nat.blt m 234 then (bif Nat.beq m 233 then zc_233 pc else none) else
        (bif Nat.beq m 234 then zc_234 pc else none)) else
       (bif Nat.blt m 236 then (bif Nat.beq m 235 then zc_235 pc else none) else
        (bif Nat.beq m 236 then zc_236 pc else none)))) else
     (bif Nat.blt m 241 then (bif Nat.blt m 239 then (bif Nat.blt m 238 then (bif Nat.beq m 237 then zc_237 pc else none) else
        (bif Nat.beq m 238 then zc_238 pc else none)) else
       (bif Nat.blt m 240 then (bif Nat.beq m 239 then zc_239 pc else none) else
        (bif Nat.beq m 240 then zc_240 pc else none))) else
      (bif Nat.blt m 243 then (bif Nat.blt m 242 then (bif Nat.beq m 241 then zc_241 pc else none) else
        (bif Nat.beq m 242 then zc_242 pc else none)) else
       (bif Nat.blt m 244 then (bif Nat.beq m 243 then zc_243 pc else none) else
        (bif Nat.beq m 244 then zc_244 pc else none))))) else
    (bif Nat.blt m 253 then (bif Nat.blt m 249 then (bif Nat.blt m 247 then (bif Nat.blt m 246 then (bif Nat.beq m 245 then zc_245 pc else none) else
        (bif Nat.beq m 246 then zc_246 pc else none)) else
       (bif Nat.blt m 248 then (bif Nat.beq m 247 then zc_247 pc else none) else
        (bif Nat.beq m 248 then zc_248 pc else none))) else
      (bif Nat.blt m 251 then (bif Nat.blt m 250 then (bif Nat.beq m 249 then zc_249 pc else none) else
        (bif Nat.beq m 250 then zc_250 pc else none)) else
       (bif Nat.blt m 252 then (bif Nat.beq m 251 then zc_251 pc else none) else
        (bif Nat.beq m 252 then zc_252 pc else none)))) else
     (bif Nat.blt m 257 then (bif Nat.blt m 255 then (bif Nat.blt m 254 then (bif Nat.beq m 253 then zc_253 pc else none) else
        (bif Nat.beq m 254 then zc_254 pc else none)) else
       (bif Nat.blt m 256 then (bif Nat.beq m 255 then zc_255 pc else none) else
        (bif Nat.beq m 256 then zc_256 pc else none))) else
      (bif Nat.blt m 259 then (bif Nat.blt m 258 then (bif Nat.beq m 257 then zc_257 pc else none) else
        (bif Nat.beq m 258 then zc_258 pc else none)) else
       (bif Nat.blt m 260 then (bif Nat.beq m 259 then zc_259 pc else none) else
        (bif Nat.blt m 261 then (bif Nat.beq m 260 then zc_260 pc else none) else
         (bif Nat.beq m 261 then zc_261 pc else none))))))))))
noncomputable def zown (m : Nat) : Nat :=
 (bif Nat.blt m 131 then (bif Nat.blt m 65 then (bif Nat.blt m 32 then (bif Nat.blt m 16 then (bif Nat.blt m 8 then (bif Nat.blt m 4 then (bif Nat.blt m 2 then (bif Nat.blt m 1 then (bif Nat.beq m 0 then 0 else 100) else
        (bif Nat.beq m 1 then 0 else 100)) else
       (bif Nat.blt m 3 then (bif Nat.beq m 2 then 0 else 100) else
        (bif Nat.beq m 3 then 0 else 100))) else
      (bif Nat.blt m 6 then (bif Nat.blt m 5 then (bif Nat.beq m 4 then 0 else 100) else
        (bif Nat.beq m 5 then 0 else 100)) else
       (bif Nat.blt m 7 then (bif Nat.beq m 6 then 0 else 100) else
        (bif Nat.beq m 7 then 0 else 100)))) else
     (bif Nat.blt m 12 then (bif Nat.blt m 10 then (bif Nat.blt m 9 then (bif Nat.beq m 8 then 0 else 100) else
        (bif Nat.beq m 9 then 0 else 100)) else
       (bif Nat.blt m 11 then (bif Nat.beq m 10 then 0 else 100) else
        (bif Nat.beq m 11 then 0 else 100))) else
      (bif Nat.blt m 14 then (bif Nat.blt m 13 then (bif Nat.beq m 12 then 0 else 100) else
        (bif Nat.beq m 13 then 1 else 100)) else
       (bif Nat.blt m 15 then (bif Nat.beq m 14 then 1 else 100) else
        (bif Nat.beq m 15 then 2 else 100))))) else
    (bif Nat.blt m 24 then (bif Nat.blt m 20 then (bif Nat.blt m 18 then (bif Nat.blt m 17 then (bif Nat.beq m 16 then 2 else 100) else
        (bif Nat.beq m 17 then 2 else 100)) else
       (bif Nat.blt m 19 then (bif Nat.beq m 18 then 2 else 100) else
        (bif Nat.beq m 19 then 2 else 100))) else
      (bif Nat.blt m 22 then (bif Nat.blt m 21 then (bif Nat.beq m 20 then 2 else 100) else
        (bif Nat.beq m 21 then 2 else 100)) else
       (bif Nat.blt m 23 then (bif Nat.beq m 22 then 2 else 100) else
        (bif Nat.beq m 23 then 3 else 100)))) else
     (bif Nat.blt m 28 then (bif Nat.blt m 26 then (bif Nat.blt m 25 then (bif Nat.beq m 24 then 3 else 100) else
        (bif Nat.beq m 25 then 3 else 100)) else
       (bif Nat.blt m 27 then (bif Nat.beq m 26 then 3 else 100) else
        (bif Nat.beq m 27 then 3 else 100))) else
      (bif Nat.blt m 30 then (bif Nat.blt m 29 then (bif Nat.beq m 28 then 3 else 100) else
        (bif Nat.beq m 29 then 3 else 100)) else
       (bif Nat.blt m 31 then (bif Nat.beq m 30 then 3 else 100) else
        (bif Nat.beq m 31 then 3 else 100)))))) else
   (bif Nat.blt m 48 then (bif Nat.blt m 40 then (bif Nat.blt m 36 then (bif Nat.blt m 34 then (bif Nat.blt m 33 then (bif Nat.beq m 32 then 3 else 100) else
        (bif Nat.beq m 33 then 3 else 100)) else
       (bif Nat.blt m 35 then (bif Nat.beq m 34 then 3 else 100) else
        (bif Nat.beq m 35 then 4 else 100))) else
      (bif Nat.blt m 38 then (bif Nat.blt m 37 then (bif Nat.beq m 36 then 4 else 100) else
        (bif Nat.beq m 37 then 4 else 100)) else
       (bif Nat.blt m 39 then (bif Nat.beq m 38 then 4 else 100) else
        (bif Nat.beq m 39 then 4 else 100)))) else
     (bif Nat.blt m 44 then (bif Nat.blt m 42 then (bif Nat.blt m 41 then (bif Nat.beq m 40 then 4 else 100) else
        (bif Nat.beq m 41 then 4 else 100)) else
       (bif Nat.blt m 43 then (bif Nat.beq m 42 then 4 else 100) else
        (bif Nat.beq m 43 then 4 else 100))) else
      (bif Nat.blt m 46 then (bif Nat.blt m 45 then (bif Nat.beq m 44 then 4 else 100) else
        (bif Nat.beq m 45 then 4 else 100)) else
       (bif Nat.blt m 47 then (bif Nat.beq m 46 then 4 else 100) else
        (bif Nat.beq m 47 then 4 else 100))))) else
    (bif Nat.blt m 56 then (bif Nat.blt m 52 then (bif Nat.blt m 50 then (bif Nat.blt m 49 then (bif Nat.beq m 48 then 4 else 100) else
        (bif Nat.beq m 49 then 4 else 100)) else
       (bif Nat.blt m 51 then (bif Nat.beq m 50 then 4 else 100) else
        (bif Nat.beq m 51 then 4 else 100))) else
      (bif Nat.blt m 54 then (bif Nat.blt m 53 then (bif Nat.beq m 52 then 4 else 100) else
        (bif Nat.beq m 53 then 4 else 100)) else
       (bif Nat.blt m 55 then (bif Nat.beq m 54 then 4 else 100) else
        (bif Nat.beq m 55 then 4 else 100)))) else
     (bif Nat.blt m 60 then (bif Nat.blt m 58 then (bif Nat.blt m 57 then (bif Nat.beq m 56 then 4 else 100) else
        (bif Nat.beq m 57 then 5 else 100)) else
       (bif Nat.blt m 59 then (bif Nat.beq m 58 then 5 else 100) else
        (bif Nat.beq m 59 then 5 else 100))) else
      (bif Nat.blt m 62 then (bif Nat.blt m 61 then (bif Nat.beq m 60 then 5 else 100) else
        (bif Nat.beq m 61 then 5 else 100)) else
       (bif Nat.blt m 63 then (bif Nat.beq m 62 then 5 else 100) else
        (bif Nat.blt m 64 then (bif Nat.beq m 63 then 5 else 100) else
         (bif Nat.beq m 64 then 5 else 100)))))))) else
  (bif Nat.blt m 98 then (bif Nat.blt m 81 then (bif Nat.blt m 73 then (bif Nat.blt m 69 then (bif Nat.blt m 67 then (bif Nat.blt m 66 then (bif Nat.beq m 65 then 5 else 100) else
        (bif Nat.beq m 66 then 5 else 100)) else
       (bif Nat.blt m 68 then (bif Nat.beq m 67 then 5 else 100) else
        (bif Nat.beq m 68 then 5 else 100))) else
      (bif Nat.blt m 71 then (bif Nat.blt m 70 then (bif Nat.beq m 69 then 5 else 100) else
        (bif Nat.beq m 70 then 5 else 100)) else
       (bif Nat.blt m 72 then (bif Nat.beq m 71 then 5 else 100) else
        (bif Nat.beq m 72 then 5 else 100)))) else
     (bif Nat.blt m 77 then (bif Nat.blt m 75 then (bif Nat.blt m 74 then (bif Nat.beq m 73 then 5 else 100) else
        (bif Nat.beq m 74 then 5 else 100)) else
       (bif Nat.blt m 76 then (bif Nat.beq m 75 then 5 else 100) else
        (bif Nat.beq m 76 then 5 else 100))) else
      (bif Nat.blt m 79 then (bif Nat.blt m 78 then (bif Nat.beq m 77 then 5 else 100) else
        (bif Nat.beq m 78 then 5 else 100)) else
       (bif Nat.blt m 80 then (bif Nat.beq m 79 then 5 else 100) else
        (bif Nat.beq m 80 then 12 else 100))))) else
    (bif Nat.blt m 89 then (bif Nat.blt m 85 then (bif Nat.blt m 83 then (bif Nat.blt m 82 then (bif Nat.beq m 81 then 6 else 100) else
        (bif Nat.beq m 82 then 6 else 100)) else
       (bif Nat.blt m 84 then (bif Nat.beq m 83 then 6 else 100) else
        (bif Nat.beq m 84 then 6 else 100))) else
      (bif Nat.blt m 87 then (bif Nat.blt m 86 then (bif Nat.beq m 85 then 6 else 100) else
        (bif Nat.beq m 86 then 6 else 100)) else
       (bif Nat.blt m 88 then (bif Nat.beq m 87 then 6 else 100) else
        (bif Nat.beq m 88 then 6 else 100)))) else
     (bif Nat.blt m 93 then (bif Nat.blt m 91 then (bif Nat.blt m 90 then (bif Nat.beq m 89 then 6 else 100) else
        (bif Nat.beq m 90 then 6 else 100)) else
       (bif Nat.blt m 92 then (bif Nat.beq m 91 then 6 else 100) else
        (bif Nat.beq m 92 then 7 else 100))) else
      (bif Nat.blt m 95 then (bif Nat.blt m 94 then (bif Nat.beq m 93 then 7 else 100) else
        (bif Nat.beq m 94 then 7 else 100)) else
       (bif Nat.blt m 96 then (bif Nat.beq m 95 then 7 else 100) else
        (bif Nat.blt m 97 then (bif Nat.beq m 96 then 7 else 100) else
         (bif Nat.beq m 97 then 7 else 100))))))) else
   (bif Nat.blt m 114 then (bif Nat.blt m 106 then (bif Nat.blt m 102 then (bif Nat.blt m 100 then (bif Nat.blt m 99 then (bif Nat.beq m 98 then 7 else 100) else
        (bif Nat.beq m 99 then 7 else 100)) else
       (bif Nat.blt m 101 then (bif Nat.beq m 100 then 7 else 100) else
        (bif Nat.beq m 101 then 7 else 100))) else
      (bif Nat.blt m 104 then (bif Nat.blt m 103 then (bif Nat.beq m 102 then 7 else 100) else
        (bif Nat.beq m 103 then 7 else 100)) else
       (bif Nat.blt m 105 then (bif Nat.beq m 104 then 7 else 100) else
        (bif Nat.beq m 105 then 7 else 100)))) else
     (bif Nat.blt m 110 then (bif Nat.blt m 108 then (bif Nat.blt m 107 then (bif Nat.beq m 106 then 7 else 100) else
        (bif Nat.beq m 107 then 7 else 100)) else
       (bif Nat.blt m 109 then (bif Nat.beq m 108 then 7 else 100) else
        (bif Nat.beq m 109 then 7 else 100))) else
      (bif Nat.blt m 112 then (bif Nat.blt m 111 then (bif Nat.beq m 110 then 7 else 100) else
        (bif Nat.beq m 111 then 7 else 100)) else
       (bif Nat.blt m 113 then (bif Nat.beq m 112 then 7 else 100) else
        (bif Nat.beq m 113 then 8 else 100))))) else
    (bif Nat.blt m 122 then (bif Nat.blt m 118 then (bif Nat.blt m 116 then (bif Nat.blt m 115 then (bif Nat.beq m 114 then 8 else 100) else
        (bif Nat.beq m 115 then 8 else 100)) else
       (bif Nat.blt m 117 then (bif Nat.beq m 116 then 8 else 100) else
        (bif Nat.beq m 117 then 8 else 100))) else
      (bif Nat.blt m 120 then (bif Nat.blt m 119 then (bif Nat.beq m 118 then 8 else 100) else
        (bif Nat.beq m 119 then 8 else 100)) else
       (bif Nat.blt m 121 then (bif Nat.beq m 120 then 8 else 100) else
        (bif Nat.beq m 121 then 8 else 100)))) else
     (bif Nat.blt m 126 then (bif Nat.blt m 124 then (bif Nat.blt m 123 then (bif Nat.beq m 122 then 8 else 100) else
        (bif Nat.beq m 123 then 8 else 100)) else
       (bif Nat.blt m 125 then (bif Nat.beq m 124 then 9 else 100) else
        (bif Nat.beq m 125 then 9 else 100))) else
      (bif Nat.blt m 128 then (bif Nat.blt m 127 then (bif Nat.beq m 126 then 9 else 100) else
        (bif Nat.beq m 127 then 9 else 100)) else
       (bif Nat.blt m 129 then (bif Nat.beq m 128 then 9 else 100) else
        (bif Nat.blt m 130 then (bif Nat.beq m 129 then 9 else 100) else
         (bif Nat.beq m 130 then 9 else 100))))))))) else
 (bif Nat.blt m 196 then (bif Nat.blt m 163 then (bif Nat.blt m 147 then (bif Nat.blt m 139 then (bif Nat.blt m 135 then (bif Nat.blt m 133 then (bif Nat.blt m 132 then (bif Nat.beq m 131 then 9 else 100) else
        (bif Nat.beq m 132 then 9 else 100)) else
       (bif Nat.blt m 134 then (bif Nat.beq m 133 then 9 else 100) else
        (bif Nat.beq m 134 then 9 else 100))) else
      (bif Nat.blt m 137 then (bif Nat.blt m 136 then (bif Nat.beq m 135 then 9 else 100) else
        (bif Nat.beq m 136 then 10 else 100)) else
       (bif Nat.blt m 138 then (bif Nat.beq m 137 then 10 else 100) else
        (bif Nat.beq m 138 then 10 else 100)))) else
     (bif Nat.blt m 143 then (bif Nat.blt m 141 then (bif Nat.blt m 140 then (bif Nat.beq m 139 then 10 else 100) else
        (bif Nat.beq m 140 then 10 else 100)) else
       (bif Nat.blt m 142 then (bif Nat.beq m 141 then 10 else 100) else
        (bif Nat.beq m 142 then 10 else 100))) else
      (bif Nat.blt m 145 then (bif Nat.blt m 144 then (bif Nat.beq m 143 then 10 else 100) else
        (bif Nat.beq m 144 then 10 else 100)) else
       (bif Nat.blt m 146 then (bif Nat.beq m 145 then 10 else 100) else
        (bif Nat.beq m 146 then 11 else 100))))) else
    (bif Nat.blt m 155 then (bif Nat.blt m 151 then (bif Nat.blt m 149 then (bif Nat.blt m 148 then (bif Nat.beq m 147 then 11 else 100) else
        (bif Nat.beq m 148 then 12 else 100)) else
       (bif Nat.blt m 150 then (bif Nat.beq m 149 then 11 else 100) else
        (bif Nat.beq m 150 then 11 else 100))) else
      (bif Nat.blt m 153 then (bif Nat.blt m 152 then (bif Nat.beq m 151 then 11 else 100) else
        (bif Nat.beq m 152 then 11 else 100)) else
       (bif Nat.blt m 154 then (bif Nat.beq m 153 then 11 else 100) else
        (bif Nat.beq m 154 then 11 else 100)))) else
     (bif Nat.blt m 159 then (bif Nat.blt m 157 then (bif Nat.blt m 156 then (bif Nat.beq m 155 then 11 else 100) else
        (bif Nat.beq m 156 then 11 else 100)) else
       (bif Nat.blt m 158 then (bif Nat.beq m 157 then 11 else 100) else
        (bif Nat.beq m 158 then 11 else 100))) else
      (bif Nat.blt m 161 then (bif Nat.blt m 160 then (bif Nat.beq m 159 then 11 else 100) else
        (bif Nat.beq m 160 then 11 else 100)) else
       (bif Nat.blt m 162 then (bif Nat.beq m 161 then 11 else 100) else
        (bif Nat.beq m 162 then 11 else 100)))))) else
   (bif Nat.blt m 179 then (bif Nat.blt m 171 then (bif Nat.blt m 167 then (bif Nat.blt m 165 then (bif Nat.blt m 164 then (bif Nat.beq m 163 then 11 else 100) else
        (bif Nat.beq m 164 then 11 else 100)) else
       (bif Nat.blt m 166 then (bif Nat.beq m 165 then 11 else 100) else
        (bif Nat.beq m 166 then 11 else 100))) else
      (bif Nat.blt m 169 then (bif Nat.blt m 168 then (bif Nat.beq m 167 then 11 else 100) else
        (bif Nat.beq m 168 then 11 else 100)) else
       (bif Nat.blt m 170 then (bif Nat.beq m 169 then 11 else 100) else
        (bif Nat.beq m 170 then 11 else 100)))) else
     (bif Nat.blt m 175 then (bif Nat.blt m 173 then (bif Nat.blt m 172 then (bif Nat.beq m 171 then 11 else 100) else
        (bif Nat.beq m 172 then 11 else 100)) else
       (bif Nat.blt m 174 then (bif Nat.beq m 173 then 11 else 100) else
        (bif Nat.beq m 174 then 11 else 100))) else
      (bif Nat.blt m 177 then (bif Nat.blt m 176 then (bif Nat.beq m 175 then 11 else 100) else
        (bif Nat.beq m 176 then 11 else 100)) else
       (bif Nat.blt m 178 then (bif Nat.beq m 177 then 11 else 100) else
        (bif Nat.beq m 178 then 11 else 100))))) else
    (bif Nat.blt m 187 then (bif Nat.blt m 183 then (bif Nat.blt m 181 then (bif Nat.blt m 180 then (bif Nat.beq m 179 then 11 else 100) else
        (bif Nat.beq m 180 then 12 else 100)) else
       (bif Nat.blt m 182 then (bif Nat.beq m 181 then 11 else 100) else
        (bif Nat.beq m 182 then 11 else 100))) else
      (bif Nat.blt m 185 then (bif Nat.blt m 184 then (bif Nat.beq m 183 then 11 else 100) else
        (bif Nat.beq m 184 then 11 else 100)) else
       (bif Nat.blt m 186 then (bif Nat.beq m 185 then 11 else 100) else
        (bif Nat.beq m 186 then 11 else 100)))) else
     (bif Nat.blt m 191 then (bif Nat.blt m 189 then (bif Nat.blt m 188 then (bif Nat.beq m 187 then 11 else 100) else
        (bif Nat.beq m 188 then 11 else 100)) else
       (bif Nat.blt m 190 then (bif Nat.beq m 189 then 12 else 100) else
        (bif Nat.beq m 190 then 11 else 100))) else
      (bif Nat.blt m 193 then (bif Nat.blt m 192 then (bif Nat.beq m 191 then 11 else 100) else
        (bif Nat.beq m 192 then 11 else 100)) else
       (bif Nat.blt m 194 then (bif Nat.beq m 193 then 11 else 100) else
        (bif Nat.blt m 195 then (bif Nat.beq m 194 then 11 else 100) else
         (bif Nat.beq m 195 then 11 else 100)))))))) else
  (bif Nat.blt m 229 then (bif Nat.blt m 212 then (bif Nat.blt m 204 then (bif Nat.blt m 200 then (bif Nat.blt m 198 then (bif Nat.blt m 197 then (bif Nat.beq m 196 then 11 else 100) else
        (bif Nat.beq m 197 then 11 else 100)) else
       (bif Nat.blt m 199 then (bif Nat.beq m 198 then 11 else 100) else
        (bif Nat.beq m 199 then 11 else 100))) else
      (bif Nat.blt m 202 then (bif Nat.blt m 201 then (bif Nat.beq m 200 then 11 else 100) else
        (bif Nat.beq m 201 then 11 else 100)) else
       (bif Nat.blt m 203 then (bif Nat.beq m 202 then 11 else 100) else
        (bif Nat.beq m 203 then 12 else 100)))) else
     (bif Nat.blt m 208 then (bif Nat.blt m 206 then (bif Nat.blt m 205 then (bif Nat.beq m 204 then 12 else 100) else
        (bif Nat.beq m 205 then 12 else 100)) else
       (bif Nat.blt m 207 then (bif Nat.beq m 206 then 12 else 100) else
        (bif Nat.beq m 207 then 13 else 100))) else
      (bif Nat.blt m 210 then (bif Nat.blt m 209 then (bif Nat.beq m 208 then 13 else 100) else
        (bif Nat.beq m 209 then 13 else 100)) else
       (bif Nat.blt m 211 then (bif Nat.beq m 210 then 13 else 100) else
        (bif Nat.beq m 211 then 13 else 100))))) else
    (bif Nat.blt m 220 then (bif Nat.blt m 216 then (bif Nat.blt m 214 then (bif Nat.blt m 213 then (bif Nat.beq m 212 then 13 else 100) else
        (bif Nat.beq m 213 then 13 else 100)) else
       (bif Nat.blt m 215 then (bif Nat.beq m 214 then 13 else 100) else
        (bif Nat.beq m 215 then 13 else 100))) else
      (bif Nat.blt m 218 then (bif Nat.blt m 217 then (bif Nat.beq m 216 then 13 else 100) else
        (bif Nat.beq m 217 then 13 else 100)) else
       (bif Nat.blt m 219 then (bif Nat.beq m 218 then 13 else 100) else
        (bif Nat.beq m 219 then 13 else 100)))) else
     (bif Nat.blt m 224 then (bif Nat.blt m 222 then (bif Nat.blt m 221 then (bif Nat.beq m 220 then 13 else 100) else
        (bif Nat.beq m 221 then 13 else 100)) else
       (bif Nat.blt m 223 then (bif Nat.beq m 222 then 13 else 100) else
        (bif Nat.beq m 223 then 14 else 100))) else
      (bif Nat.blt m 226 then (bif Nat.blt m 225 then (bif Nat.beq m 224 then 14 else 100) else
        (bif Nat.beq m 225 then 14 else 100)) else
       (bif Nat.blt m 227 then (bif Nat.beq m 226 then 15 else 100) else
        (bif Nat.blt m 228 then (bif Nat.beq m 227 then 15 else 100) else
         (bif Nat.beq m 228 then 16 else 100))))))) else
   (bif Nat.blt m 245 then (bif Nat.blt m 237 then (bif Nat.blt m 233 then (bif Nat.blt m 231 then (bif Nat.blt m 230 then (bif Nat.beq m 229 then 16 else 100) else
        (bif Nat.beq m 230 then 16 else 100)) else
       (bif Nat.blt m 232 then (bif Nat.beq m 231 then 16 else 100) else
        (bif Nat.beq m 232 then 16 else 100))) else
      (bif Nat.blt m 235 then (bif Nat.blt m 234 then (bif Nat.beq m 233 then 17 else 100) else
        (bif Nat.beq m 234 then 17 else 100)) else
       (bif Nat.blt m 236 then (bif Nat.beq m 235 then 18 else 100) else
        (bif Nat.beq m 236 then 18 else 100)))) else
     (bif Nat.blt m 241 then (bif Nat.blt m 239 then (bif Nat.blt m 238 then (bif Nat.beq m 237 then 19 else 100) else
        (bif Nat.beq m 238 then 19 else 100)) else
       (bif Nat.blt m 240 then (bif Nat.beq m 239 then 19 else 100) else
        (bif Nat.beq m 240 then 19 else 100))) else
      (bif Nat.blt m 243 then (bif Nat.blt m 242 then (bif Nat.beq m 241 then 19 else 100) else
        (bif Nat.beq m 242 then 19 else 100)) else
       (bif Nat.blt m 244 then (bif Nat.beq m 243 then 19 else 100) else
        (bif Nat.beq m 244 then 19 else 100))))) else
    (bif Nat.blt m 253 then (bif Nat.blt m 249 then (bif Nat.blt m 247 then (bif Nat.blt m 246 then (bif Nat.beq m 245 then 19 else 100) else
        (bif Nat.beq m 246 then 19 else 100)) else
       (bif Nat.blt m 248 then (bif Nat.beq m 247 then 19 else 100) else
        (bif Nat.beq m 248 then 19 else 100))) else
      (bif Nat.blt m 251 then (bif Nat.blt m 250 then (bif Nat.beq m 249 then 20 else 100) else
        (bif Nat.beq m 250 then 20 else 100)) else
       (bif Nat.blt m 252 then (bif Nat.beq m 251 then 20 else 100) else
        (bif Nat.beq m 252 then 20 else 100)))) else
     (bif Nat.blt m 257 then (bif Nat.blt m 255 then (bif Nat.blt m 254 then (bif Nat.beq m 253 then 20 else 100) else
        (bif Nat.beq m 254 then 20 else 100)) else
       (bif Nat.blt m 256 then (bif Nat.beq m 255 then 21 else 100) else
        (bif Nat.beq m 256 then 21 else 100))) else
      (bif Nat.blt m 259 then (bif Nat.blt m 258 then (bif Nat.beq m 257 then 21 else 100) else
        (bif Nat.beq m 258 then 22 else 100)) else
       (bif Nat.blt m 260 then (bif Nat.beq m 259 then 23 else 100) else
        (bif Nat.blt m 261 then (bif Nat.beq m 260 then 23 else 100) else
         (bif Nat.beq m 261 then 13 else 100))))))))))
noncomputable def zmaxl (m : Nat) : Nat :=
 (bif Nat.blt m 131 then (bif Nat.blt m 65 then (bif Nat.blt m 32 then (bif Nat.blt m 16 then (bif Nat.blt m 8 then (bif Nat.blt m 4 then (bif Nat.blt m 2 then (bif Nat.blt m 1 then (bif Nat.beq m 0 then 3 else 0) else
        (bif Nat.beq m 1 then 4 else 0)) else
       (bif Nat.blt m 3 then (bif Nat.beq m 2 then 4 else 0) else
        (bif Nat.beq m 3 then 4 else 0))) else
      (bif Nat.blt m 6 then (bif Nat.blt m 5 then (bif Nat.beq m 4 then 2 else 0) else
        (bif Nat.beq m 5 then 2 else 0)) else
       (bif Nat.blt m 7 then (bif Nat.beq m 6 then 8 else 0) else
        (bif Nat.beq m 7 then 8 else 0)))) else
     (bif Nat.blt m 12 then (bif Nat.blt m 10 then (bif Nat.blt m 9 then (bif Nat.beq m 8 then 7 else 0) else
        (bif Nat.beq m 9 then 2 else 0)) else
       (bif Nat.blt m 11 then (bif Nat.beq m 10 then 1 else 0) else
        (bif Nat.beq m 11 then 3 else 0))) else
      (bif Nat.blt m 14 then (bif Nat.blt m 13 then (bif Nat.beq m 12 then 3 else 0) else
        (bif Nat.beq m 13 then 3 else 0)) else
       (bif Nat.blt m 15 then (bif Nat.beq m 14 then 1 else 0) else
        (bif Nat.beq m 15 then 3 else 0))))) else
    (bif Nat.blt m 24 then (bif Nat.blt m 20 then (bif Nat.blt m 18 then (bif Nat.blt m 17 then (bif Nat.beq m 16 then 2 else 0) else
        (bif Nat.beq m 17 then 2 else 0)) else
       (bif Nat.blt m 19 then (bif Nat.beq m 18 then 2 else 0) else
        (bif Nat.beq m 19 then 3 else 0))) else
      (bif Nat.blt m 22 then (bif Nat.blt m 21 then (bif Nat.beq m 20 then 2 else 0) else
        (bif Nat.beq m 21 then 3 else 0)) else
       (bif Nat.blt m 23 then (bif Nat.beq m 22 then 3 else 0) else
        (bif Nat.beq m 23 then 2 else 0)))) else
     (bif Nat.blt m 28 then (bif Nat.blt m 26 then (bif Nat.blt m 25 then (bif Nat.beq m 24 then 2 else 0) else
        (bif Nat.beq m 25 then 4 else 0)) else
       (bif Nat.blt m 27 then (bif Nat.beq m 26 then 2 else 0) else
        (bif Nat.beq m 27 then 2 else 0))) else
      (bif Nat.blt m 30 then (bif Nat.blt m 29 then (bif Nat.beq m 28 then 8 else 0) else
        (bif Nat.beq m 29 then 4 else 0)) else
       (bif Nat.blt m 31 then (bif Nat.beq m 30 then 3 else 0) else
        (bif Nat.beq m 31 then 3 else 0)))))) else
   (bif Nat.blt m 48 then (bif Nat.blt m 40 then (bif Nat.blt m 36 then (bif Nat.blt m 34 then (bif Nat.blt m 33 then (bif Nat.beq m 32 then 2 else 0) else
        (bif Nat.beq m 33 then 5 else 0)) else
       (bif Nat.blt m 35 then (bif Nat.beq m 34 then 3 else 0) else
        (bif Nat.beq m 35 then 3 else 0))) else
      (bif Nat.blt m 38 then (bif Nat.blt m 37 then (bif Nat.beq m 36 then 2 else 0) else
        (bif Nat.beq m 37 then 2 else 0)) else
       (bif Nat.blt m 39 then (bif Nat.beq m 38 then 6 else 0) else
        (bif Nat.beq m 39 then 1 else 0)))) else
     (bif Nat.blt m 44 then (bif Nat.blt m 42 then (bif Nat.blt m 41 then (bif Nat.beq m 40 then 2 else 0) else
        (bif Nat.beq m 41 then 2 else 0)) else
       (bif Nat.blt m 43 then (bif Nat.beq m 42 then 5 else 0) else
        (bif Nat.beq m 43 then 3 else 0))) else
      (bif Nat.blt m 46 then (bif Nat.blt m 45 then (bif Nat.beq m 44 then 3 else 0) else
        (bif Nat.beq m 45 then 3 else 0)) else
       (bif Nat.blt m 47 then (bif Nat.beq m 46 then 2 else 0) else
        (bif Nat.beq m 47 then 2 else 0))))) else
    (bif Nat.blt m 56 then (bif Nat.blt m 52 then (bif Nat.blt m 50 then (bif Nat.blt m 49 then (bif Nat.beq m 48 then 2 else 0) else
        (bif Nat.beq m 49 then 3 else 0)) else
       (bif Nat.blt m 51 then (bif Nat.beq m 50 then 2 else 0) else
        (bif Nat.beq m 51 then 2 else 0))) else
      (bif Nat.blt m 54 then (bif Nat.blt m 53 then (bif Nat.beq m 52 then 2 else 0) else
        (bif Nat.beq m 53 then 2 else 0)) else
       (bif Nat.blt m 55 then (bif Nat.beq m 54 then 4 else 0) else
        (bif Nat.beq m 55 then 5 else 0)))) else
     (bif Nat.blt m 60 then (bif Nat.blt m 58 then (bif Nat.blt m 57 then (bif Nat.beq m 56 then 5 else 0) else
        (bif Nat.beq m 57 then 2 else 0)) else
       (bif Nat.blt m 59 then (bif Nat.beq m 58 then 4 else 0) else
        (bif Nat.beq m 59 then 5 else 0))) else
      (bif Nat.blt m 62 then (bif Nat.blt m 61 then (bif Nat.beq m 60 then 6 else 0) else
        (bif Nat.beq m 61 then 5 else 0)) else
       (bif Nat.blt m 63 then (bif Nat.beq m 62 then 4 else 0) else
        (bif Nat.blt m 64 then (bif Nat.beq m 63 then 4 else 0) else
         (bif Nat.beq m 64 then 5 else 0)))))))) else
  (bif Nat.blt m 98 then (bif Nat.blt m 81 then (bif Nat.blt m 73 then (bif Nat.blt m 69 then (bif Nat.blt m 67 then (bif Nat.blt m 66 then (bif Nat.beq m 65 then 2 else 0) else
        (bif Nat.beq m 66 then 4 else 0)) else
       (bif Nat.blt m 68 then (bif Nat.beq m 67 then 2 else 0) else
        (bif Nat.beq m 68 then 7 else 0))) else
      (bif Nat.blt m 71 then (bif Nat.blt m 70 then (bif Nat.beq m 69 then 2 else 0) else
        (bif Nat.beq m 70 then 3 else 0)) else
       (bif Nat.blt m 72 then (bif Nat.beq m 71 then 3 else 0) else
        (bif Nat.beq m 72 then 3 else 0)))) else
     (bif Nat.blt m 77 then (bif Nat.blt m 75 then (bif Nat.blt m 74 then (bif Nat.beq m 73 then 5 else 0) else
        (bif Nat.beq m 74 then 8 else 0)) else
       (bif Nat.blt m 76 then (bif Nat.beq m 75 then 2 else 0) else
        (bif Nat.beq m 76 then 2 else 0))) else
      (bif Nat.blt m 79 then (bif Nat.blt m 78 then (bif Nat.beq m 77 then 4 else 0) else
        (bif Nat.beq m 78 then 7 else 0)) else
       (bif Nat.blt m 80 then (bif Nat.beq m 79 then 3 else 0) else
        (bif Nat.beq m 80 then 2 else 0))))) else
    (bif Nat.blt m 89 then (bif Nat.blt m 85 then (bif Nat.blt m 83 then (bif Nat.blt m 82 then (bif Nat.beq m 81 then 2 else 0) else
        (bif Nat.beq m 82 then 3 else 0)) else
       (bif Nat.blt m 84 then (bif Nat.beq m 83 then 2 else 0) else
        (bif Nat.beq m 84 then 4 else 0))) else
      (bif Nat.blt m 87 then (bif Nat.blt m 86 then (bif Nat.beq m 85 then 2 else 0) else
        (bif Nat.beq m 86 then 1 else 0)) else
       (bif Nat.blt m 88 then (bif Nat.beq m 87 then 4 else 0) else
        (bif Nat.beq m 88 then 1 else 0)))) else
     (bif Nat.blt m 93 then (bif Nat.blt m 91 then (bif Nat.blt m 90 then (bif Nat.beq m 89 then 4 else 0) else
        (bif Nat.beq m 90 then 3 else 0)) else
       (bif Nat.blt m 92 then (bif Nat.beq m 91 then 1 else 0) else
        (bif Nat.beq m 92 then 4 else 0))) else
      (bif Nat.blt m 95 then (bif Nat.blt m 94 then (bif Nat.beq m 93 then 3 else 0) else
        (bif Nat.beq m 94 then 4 else 0)) else
       (bif Nat.blt m 96 then (bif Nat.beq m 95 then 5 else 0) else
        (bif Nat.blt m 97 then (bif Nat.beq m 96 then 5 else 0) else
         (bif Nat.beq m 97 then 1 else 0))))))) else
   (bif Nat.blt m 114 then (bif Nat.blt m 106 then (bif Nat.blt m 102 then (bif Nat.blt m 100 then (bif Nat.blt m 99 then (bif Nat.beq m 98 then 18 else 0) else
        (bif Nat.beq m 99 then 1 else 0)) else
       (bif Nat.blt m 101 then (bif Nat.beq m 100 then 4 else 0) else
        (bif Nat.beq m 101 then 4 else 0))) else
      (bif Nat.blt m 104 then (bif Nat.blt m 103 then (bif Nat.beq m 102 then 3 else 0) else
        (bif Nat.beq m 103 then 2 else 0)) else
       (bif Nat.blt m 105 then (bif Nat.beq m 104 then 3 else 0) else
        (bif Nat.beq m 105 then 4 else 0)))) else
     (bif Nat.blt m 110 then (bif Nat.blt m 108 then (bif Nat.blt m 107 then (bif Nat.beq m 106 then 5 else 0) else
        (bif Nat.beq m 107 then 2 else 0)) else
       (bif Nat.blt m 109 then (bif Nat.beq m 108 then 3 else 0) else
        (bif Nat.beq m 109 then 2 else 0))) else
      (bif Nat.blt m 112 then (bif Nat.blt m 111 then (bif Nat.beq m 110 then 2 else 0) else
        (bif Nat.beq m 111 then 2 else 0)) else
       (bif Nat.blt m 113 then (bif Nat.beq m 112 then 4 else 0) else
        (bif Nat.beq m 113 then 2 else 0))))) else
    (bif Nat.blt m 122 then (bif Nat.blt m 118 then (bif Nat.blt m 116 then (bif Nat.blt m 115 then (bif Nat.beq m 114 then 4 else 0) else
        (bif Nat.beq m 115 then 4 else 0)) else
       (bif Nat.blt m 117 then (bif Nat.beq m 116 then 4 else 0) else
        (bif Nat.beq m 117 then 2 else 0))) else
      (bif Nat.blt m 120 then (bif Nat.blt m 119 then (bif Nat.beq m 118 then 2 else 0) else
        (bif Nat.beq m 119 then 3 else 0)) else
       (bif Nat.blt m 121 then (bif Nat.beq m 120 then 1 else 0) else
        (bif Nat.beq m 121 then 5 else 0)))) else
     (bif Nat.blt m 126 then (bif Nat.blt m 124 then (bif Nat.blt m 123 then (bif Nat.beq m 122 then 2 else 0) else
        (bif Nat.beq m 123 then 6 else 0)) else
       (bif Nat.blt m 125 then (bif Nat.beq m 124 then 3 else 0) else
        (bif Nat.beq m 125 then 3 else 0))) else
      (bif Nat.blt m 128 then (bif Nat.blt m 127 then (bif Nat.beq m 126 then 1 else 0) else
        (bif Nat.beq m 127 then 3 else 0)) else
       (bif Nat.blt m 129 then (bif Nat.beq m 128 then 2 else 0) else
        (bif Nat.blt m 130 then (bif Nat.beq m 129 then 2 else 0) else
         (bif Nat.beq m 130 then 2 else 0))))))))) else
 (bif Nat.blt m 196 then (bif Nat.blt m 163 then (bif Nat.blt m 147 then (bif Nat.blt m 139 then (bif Nat.blt m 135 then (bif Nat.blt m 133 then (bif Nat.blt m 132 then (bif Nat.beq m 131 then 2 else 0) else
        (bif Nat.beq m 132 then 4 else 0)) else
       (bif Nat.blt m 134 then (bif Nat.beq m 133 then 3 else 0) else
        (bif Nat.beq m 134 then 3 else 0))) else
      (bif Nat.blt m 137 then (bif Nat.blt m 136 then (bif Nat.beq m 135 then 3 else 0) else
        (bif Nat.beq m 136 then 5 else 0)) else
       (bif Nat.blt m 138 then (bif Nat.beq m 137 then 4 else 0) else
        (bif Nat.beq m 138 then 1 else 0)))) else
     (bif Nat.blt m 143 then (bif Nat.blt m 141 then (bif Nat.blt m 140 then (bif Nat.beq m 139 then 5 else 0) else
        (bif Nat.beq m 140 then 1 else 0)) else
       (bif Nat.blt m 142 then (bif Nat.beq m 141 then 1 else 0) else
        (bif Nat.beq m 142 then 1 else 0))) else
      (bif Nat.blt m 145 then (bif Nat.blt m 144 then (bif Nat.beq m 143 then 1 else 0) else
        (bif Nat.beq m 144 then 1 else 0)) else
       (bif Nat.blt m 146 then (bif Nat.beq m 145 then 1 else 0) else
        (bif Nat.beq m 146 then 1 else 0))))) else
    (bif Nat.blt m 155 then (bif Nat.blt m 151 then (bif Nat.blt m 149 then (bif Nat.blt m 148 then (bif Nat.beq m 147 then 1 else 0) else
        (bif Nat.beq m 148 then 2 else 0)) else
       (bif Nat.blt m 150 then (bif Nat.beq m 149 then 1 else 0) else
        (bif Nat.beq m 150 then 1 else 0))) else
      (bif Nat.blt m 153 then (bif Nat.blt m 152 then (bif Nat.beq m 151 then 1 else 0) else
        (bif Nat.beq m 152 then 2 else 0)) else
       (bif Nat.blt m 154 then (bif Nat.beq m 153 then 1 else 0) else
        (bif Nat.beq m 154 then 1 else 0)))) else
     (bif Nat.blt m 159 then (bif Nat.blt m 157 then (bif Nat.blt m 156 then (bif Nat.beq m 155 then 1 else 0) else
        (bif Nat.beq m 156 then 1 else 0)) else
       (bif Nat.blt m 158 then (bif Nat.beq m 157 then 1 else 0) else
        (bif Nat.beq m 158 then 6 else 0))) else
      (bif Nat.blt m 161 then (bif Nat.blt m 160 then (bif Nat.beq m 159 then 3 else 0) else
        (bif Nat.beq m 160 then 4 else 0)) else
       (bif Nat.blt m 162 then (bif Nat.beq m 161 then 2 else 0) else
        (bif Nat.beq m 162 then 1 else 0)))))) else
   (bif Nat.blt m 179 then (bif Nat.blt m 171 then (bif Nat.blt m 167 then (bif Nat.blt m 165 then (bif Nat.blt m 164 then (bif Nat.beq m 163 then 2 else 0) else
        (bif Nat.beq m 164 then 3 else 0)) else
       (bif Nat.blt m 166 then (bif Nat.beq m 165 then 2 else 0) else
        (bif Nat.beq m 166 then 4 else 0))) else
      (bif Nat.blt m 169 then (bif Nat.blt m 168 then (bif Nat.beq m 167 then 3 else 0) else
        (bif Nat.beq m 168 then 2 else 0)) else
       (bif Nat.blt m 170 then (bif Nat.beq m 169 then 3 else 0) else
        (bif Nat.beq m 170 then 2 else 0)))) else
     (bif Nat.blt m 175 then (bif Nat.blt m 173 then (bif Nat.blt m 172 then (bif Nat.beq m 171 then 2 else 0) else
        (bif Nat.beq m 172 then 3 else 0)) else
       (bif Nat.blt m 174 then (bif Nat.beq m 173 then 2 else 0) else
        (bif Nat.beq m 174 then 2 else 0))) else
      (bif Nat.blt m 177 then (bif Nat.blt m 176 then (bif Nat.beq m 175 then 2 else 0) else
        (bif Nat.beq m 176 then 2 else 0)) else
       (bif Nat.blt m 178 then (bif Nat.beq m 177 then 2 else 0) else
        (bif Nat.beq m 178 then 2 else 0))))) else
    (bif Nat.blt m 187 then (bif Nat.blt m 183 then (bif Nat.blt m 181 then (bif Nat.blt m 180 then (bif Nat.beq m 179 then 2 else 0) else
        (bif Nat.beq m 180 then 2 else 0)) else
       (bif Nat.blt m 182 then (bif Nat.beq m 181 then 2 else 0) else
        (bif Nat.beq m 182 then 2 else 0))) else
      (bif Nat.blt m 185 then (bif Nat.blt m 184 then (bif Nat.beq m 183 then 6 else 0) else
        (bif Nat.beq m 184 then 2 else 0)) else
       (bif Nat.blt m 186 then (bif Nat.beq m 185 then 2 else 0) else
        (bif Nat.beq m 186 then 2 else 0)))) else
     (bif Nat.blt m 191 then (bif Nat.blt m 189 then (bif Nat.blt m 188 then (bif Nat.beq m 187 then 3 else 0) else
        (bif Nat.beq m 188 then 4 else 0)) else
       (bif Nat.blt m 190 then (bif Nat.beq m 189 then 2 else 0) else
        (bif Nat.beq m 190 then 2 else 0))) else
      (bif Nat.blt m 193 then (bif Nat.blt m 192 then (bif Nat.beq m 191 then 3 else 0) else
        (bif Nat.beq m 192 then 3 else 0)) else
       (bif Nat.blt m 194 then (bif Nat.beq m 193 then 4 else 0) else
        (bif Nat.blt m 195 then (bif Nat.beq m 194 then 3 else 0) else
         (bif Nat.beq m 195 then 4 else 0)))))))) else
  (bif Nat.blt m 229 then (bif Nat.blt m 212 then (bif Nat.blt m 204 then (bif Nat.blt m 200 then (bif Nat.blt m 198 then (bif Nat.blt m 197 then (bif Nat.beq m 196 then 4 else 0) else
        (bif Nat.beq m 197 then 3 else 0)) else
       (bif Nat.blt m 199 then (bif Nat.beq m 198 then 4 else 0) else
        (bif Nat.beq m 199 then 2 else 0))) else
      (bif Nat.blt m 202 then (bif Nat.blt m 201 then (bif Nat.beq m 200 then 2 else 0) else
        (bif Nat.beq m 201 then 1 else 0)) else
       (bif Nat.blt m 203 then (bif Nat.beq m 202 then 2 else 0) else
        (bif Nat.beq m 203 then 2 else 0)))) else
     (bif Nat.blt m 208 then (bif Nat.blt m 206 then (bif Nat.blt m 205 then (bif Nat.beq m 204 then 1 else 0) else
        (bif Nat.beq m 205 then 1 else 0)) else
       (bif Nat.blt m 207 then (bif Nat.beq m 206 then 1 else 0) else
        (bif Nat.beq m 207 then 1 else 0))) else
      (bif Nat.blt m 210 then (bif Nat.blt m 209 then (bif Nat.beq m 208 then 4 else 0) else
        (bif Nat.beq m 209 then 6 else 0)) else
       (bif Nat.blt m 211 then (bif Nat.beq m 210 then 2 else 0) else
        (bif Nat.beq m 211 then 4 else 0))))) else
    (bif Nat.blt m 220 then (bif Nat.blt m 216 then (bif Nat.blt m 214 then (bif Nat.blt m 213 then (bif Nat.beq m 212 then 4 else 0) else
        (bif Nat.beq m 213 then 4 else 0)) else
       (bif Nat.blt m 215 then (bif Nat.beq m 214 then 4 else 0) else
        (bif Nat.beq m 215 then 7 else 0))) else
      (bif Nat.blt m 218 then (bif Nat.blt m 217 then (bif Nat.beq m 216 then 8 else 0) else
        (bif Nat.beq m 217 then 4 else 0)) else
       (bif Nat.blt m 219 then (bif Nat.beq m 218 then 13 else 0) else
        (bif Nat.beq m 219 then 3 else 0)))) else
     (bif Nat.blt m 224 then (bif Nat.blt m 222 then (bif Nat.blt m 221 then (bif Nat.beq m 220 then 17 else 0) else
        (bif Nat.beq m 221 then 5 else 0)) else
       (bif Nat.blt m 223 then (bif Nat.beq m 222 then 5 else 0) else
        (bif Nat.beq m 223 then 2 else 0))) else
      (bif Nat.blt m 226 then (bif Nat.blt m 225 then (bif Nat.beq m 224 then 2 else 0) else
        (bif Nat.beq m 225 then 3 else 0)) else
       (bif Nat.blt m 227 then (bif Nat.beq m 226 then 2 else 0) else
        (bif Nat.blt m 228 then (bif Nat.beq m 227 then 3 else 0) else
         (bif Nat.beq m 228 then 5 else 0))))))) else
   (bif Nat.blt m 245 then (bif Nat.blt m 237 then (bif Nat.blt m 233 then (bif Nat.blt m 231 then (bif Nat.blt m 230 then (bif Nat.beq m 229 then 3 else 0) else
        (bif Nat.beq m 230 then 5 else 0)) else
       (bif Nat.blt m 232 then (bif Nat.beq m 231 then 2 else 0) else
        (bif Nat.beq m 232 then 4 else 0))) else
      (bif Nat.blt m 235 then (bif Nat.blt m 234 then (bif Nat.beq m 233 then 1 else 0) else
        (bif Nat.beq m 234 then 1 else 0)) else
       (bif Nat.blt m 236 then (bif Nat.beq m 235 then 2 else 0) else
        (bif Nat.beq m 236 then 2 else 0)))) else
     (bif Nat.blt m 241 then (bif Nat.blt m 239 then (bif Nat.blt m 238 then (bif Nat.beq m 237 then 5 else 0) else
        (bif Nat.beq m 238 then 3 else 0)) else
       (bif Nat.blt m 240 then (bif Nat.beq m 239 then 3 else 0) else
        (bif Nat.beq m 240 then 6 else 0))) else
      (bif Nat.blt m 243 then (bif Nat.blt m 242 then (bif Nat.beq m 241 then 1 else 0) else
        (bif Nat.beq m 242 then 3 else 0)) else
       (bif Nat.blt m 244 then (bif Nat.beq m 243 then 2 else 0) else
        (bif Nat.beq m 244 then 2 else 0))))) else
    (bif Nat.blt m 253 then (bif Nat.blt m 249 then (bif Nat.blt m 247 then (bif Nat.blt m 246 then (bif Nat.beq m 245 then 4 else 0) else
        (bif Nat.beq m 246 then 1 else 0)) else
       (bif Nat.blt m 248 then (bif Nat.beq m 247 then 1 else 0) else
        (bif Nat.beq m 248 then 2 else 0))) else
      (bif Nat.blt m 251 then (bif Nat.blt m 250 then (bif Nat.beq m 249 then 1 else 0) else
        (bif Nat.beq m 250 then 1 else 0)) else
       (bif Nat.blt m 252 then (bif Nat.beq m 251 then 2 else 0) else
        (bif Nat.beq m 252 then 1 else 0)))) else
     (bif Nat.blt m 257 then (bif Nat.blt m 255 then (bif Nat.blt m 254 then (bif Nat.beq m 253 then 2 else 0) else
        (bif Nat.beq m 254 then 5 else 0)) else
       (bif Nat.blt m 256 then (bif Nat.beq m 255 then 4 else 0) else
        (bif Nat.beq m 256 then 7 else 0))) else
      (bif Nat.blt m 259 then (bif Nat.blt m 258 then (bif Nat.beq m 257 then 2 else 0) else
        (bif Nat.beq m 258 then 4 else 0)) else
       (bif Nat.blt m 260 then (bif Nat.beq m 259 then 2 else 0) else
        (bif Nat.blt m 261 then (bif Nat.beq m 260 then 1 else 0) else
         (bif Nat.beq m 261 then 12 else 0))))))))))
noncomputable def znarg (m : Nat) : Nat :=
 (bif Nat.blt m 131 then (bif Nat.blt m 65 then (bif Nat.blt m 32 then (bif Nat.blt m 16 then (bif Nat.blt m 8 then (bif Nat.blt m 4 then (bif Nat.blt m 2 then (bif Nat.blt m 1 then (bif Nat.beq m 0 then 3 else 0) else
        (bif Nat.beq m 1 then 3 else 0)) else
       (bif Nat.blt m 3 then (bif Nat.beq m 2 then 1 else 0) else
        (bif Nat.beq m 3 then 3 else 0))) else
      (bif Nat.blt m 6 then (bif Nat.blt m 5 then (bif Nat.beq m 4 then 2 else 0) else
        (bif Nat.beq m 5 then 2 else 0)) else
       (bif Nat.blt m 7 then (bif Nat.beq m 6 then 3 else 0) else
        (bif Nat.beq m 7 then 3 else 0)))) else
     (bif Nat.blt m 12 then (bif Nat.blt m 10 then (bif Nat.blt m 9 then (bif Nat.beq m 8 then 3 else 0) else
        (bif Nat.beq m 9 then 2 else 0)) else
       (bif Nat.blt m 11 then (bif Nat.beq m 10 then 1 else 0) else
        (bif Nat.beq m 11 then 1 else 0))) else
      (bif Nat.blt m 14 then (bif Nat.blt m 13 then (bif Nat.beq m 12 then 2 else 0) else
        (bif Nat.beq m 13 then 3 else 0)) else
       (bif Nat.blt m 15 then (bif Nat.beq m 14 then 1 else 0) else
        (bif Nat.beq m 15 then 2 else 0))))) else
    (bif Nat.blt m 24 then (bif Nat.blt m 20 then (bif Nat.blt m 18 then (bif Nat.blt m 17 then (bif Nat.beq m 16 then 1 else 0) else
        (bif Nat.beq m 17 then 2 else 0)) else
       (bif Nat.blt m 19 then (bif Nat.beq m 18 then 2 else 0) else
        (bif Nat.beq m 19 then 3 else 0))) else
      (bif Nat.blt m 22 then (bif Nat.blt m 21 then (bif Nat.beq m 20 then 2 else 0) else
        (bif Nat.beq m 21 then 3 else 0)) else
       (bif Nat.blt m 23 then (bif Nat.beq m 22 then 1 else 0) else
        (bif Nat.beq m 23 then 2 else 0)))) else
     (bif Nat.blt m 28 then (bif Nat.blt m 26 then (bif Nat.blt m 25 then (bif Nat.beq m 24 then 2 else 0) else
        (bif Nat.beq m 25 then 3 else 0)) else
       (bif Nat.blt m 27 then (bif Nat.beq m 26 then 2 else 0) else
        (bif Nat.beq m 27 then 2 else 0))) else
      (bif Nat.blt m 30 then (bif Nat.blt m 29 then (bif Nat.beq m 28 then 2 else 0) else
        (bif Nat.beq m 29 then 3 else 0)) else
       (bif Nat.blt m 31 then (bif Nat.beq m 30 then 1 else 0) else
        (bif Nat.beq m 31 then 2 else 0)))))) else
   (bif Nat.blt m 48 then (bif Nat.blt m 40 then (bif Nat.blt m 36 then (bif Nat.blt m 34 then (bif Nat.blt m 33 then (bif Nat.beq m 32 then 2 else 0) else
        (bif Nat.beq m 33 then 1 else 0)) else
       (bif Nat.blt m 35 then (bif Nat.beq m 34 then 2 else 0) else
        (bif Nat.beq m 35 then 2 else 0))) else
      (bif Nat.blt m 38 then (bif Nat.blt m 37 then (bif Nat.beq m 36 then 2 else 0) else
        (bif Nat.beq m 37 then 2 else 0)) else
       (bif Nat.blt m 39 then (bif Nat.beq m 38 then 4 else 0) else
        (bif Nat.beq m 39 then 1 else 0)))) else
     (bif Nat.blt m 44 then (bif Nat.blt m 42 then (bif Nat.blt m 41 then (bif Nat.beq m 40 then 2 else 0) else
        (bif Nat.beq m 41 then 2 else 0)) else
       (bif Nat.blt m 43 then (bif Nat.beq m 42 then 2 else 0) else
        (bif Nat.beq m 43 then 3 else 0))) else
      (bif Nat.blt m 46 then (bif Nat.blt m 45 then (bif Nat.beq m 44 then 3 else 0) else
        (bif Nat.beq m 45 then 3 else 0)) else
       (bif Nat.blt m 47 then (bif Nat.beq m 46 then 2 else 0) else
        (bif Nat.beq m 47 then 2 else 0))))) else
    (bif Nat.blt m 56 then (bif Nat.blt m 52 then (bif Nat.blt m 50 then (bif Nat.blt m 49 then (bif Nat.beq m 48 then 2 else 0) else
        (bif Nat.beq m 49 then 1 else 0)) else
       (bif Nat.blt m 51 then (bif Nat.beq m 50 then 2 else 0) else
        (bif Nat.beq m 51 then 2 else 0))) else
      (bif Nat.blt m 54 then (bif Nat.blt m 53 then (bif Nat.beq m 52 then 2 else 0) else
        (bif Nat.beq m 53 then 2 else 0)) else
       (bif Nat.blt m 55 then (bif Nat.beq m 54 then 3 else 0) else
        (bif Nat.beq m 55 then 2 else 0)))) else
     (bif Nat.blt m 60 then (bif Nat.blt m 58 then (bif Nat.blt m 57 then (bif Nat.beq m 56 then 2 else 0) else
        (bif Nat.beq m 57 then 2 else 0)) else
       (bif Nat.blt m 59 then (bif Nat.beq m 58 then 3 else 0) else
        (bif Nat.beq m 59 then 2 else 0))) else
      (bif Nat.blt m 62 then (bif Nat.blt m 61 then (bif Nat.beq m 60 then 3 else 0) else
        (bif Nat.beq m 61 then 4 else 0)) else
       (bif Nat.blt m 63 then (bif Nat.beq m 62 then 2 else 0) else
        (bif Nat.blt m 64 then (bif Nat.beq m 63 then 3 else 0) else
         (bif Nat.beq m 64 then 1 else 0)))))))) else
  (bif Nat.blt m 98 then (bif Nat.blt m 81 then (bif Nat.blt m 73 then (bif Nat.blt m 69 then (bif Nat.blt m 67 then (bif Nat.blt m 66 then (bif Nat.beq m 65 then 2 else 0) else
        (bif Nat.beq m 66 then 1 else 0)) else
       (bif Nat.blt m 68 then (bif Nat.beq m 67 then 2 else 0) else
        (bif Nat.beq m 68 then 3 else 0))) else
      (bif Nat.blt m 71 then (bif Nat.blt m 70 then (bif Nat.beq m 69 then 2 else 0) else
        (bif Nat.beq m 70 then 3 else 0)) else
       (bif Nat.blt m 72 then (bif Nat.beq m 71 then 2 else 0) else
        (bif Nat.beq m 72 then 3 else 0)))) else
     (bif Nat.blt m 77 then (bif Nat.blt m 75 then (bif Nat.blt m 74 then (bif Nat.beq m 73 then 1 else 0) else
        (bif Nat.beq m 74 then 1 else 0)) else
       (bif Nat.blt m 76 then (bif Nat.beq m 75 then 2 else 0) else
        (bif Nat.beq m 76 then 2 else 0))) else
      (bif Nat.blt m 79 then (bif Nat.blt m 78 then (bif Nat.beq m 77 then 1 else 0) else
        (bif Nat.beq m 78 then 2 else 0)) else
       (bif Nat.blt m 80 then (bif Nat.beq m 79 then 3 else 0) else
        (bif Nat.beq m 80 then 2 else 0))))) else
    (bif Nat.blt m 89 then (bif Nat.blt m 85 then (bif Nat.blt m 83 then (bif Nat.blt m 82 then (bif Nat.beq m 81 then 2 else 0) else
        (bif Nat.beq m 82 then 2 else 0)) else
       (bif Nat.blt m 84 then (bif Nat.beq m 83 then 1 else 0) else
        (bif Nat.beq m 84 then 2 else 0))) else
      (bif Nat.blt m 87 then (bif Nat.blt m 86 then (bif Nat.beq m 85 then 2 else 0) else
        (bif Nat.beq m 86 then 1 else 0)) else
       (bif Nat.blt m 88 then (bif Nat.beq m 87 then 2 else 0) else
        (bif Nat.beq m 88 then 1 else 0)))) else
     (bif Nat.blt m 93 then (bif Nat.blt m 91 then (bif Nat.blt m 90 then (bif Nat.beq m 89 then 2 else 0) else
        (bif Nat.beq m 90 then 1 else 0)) else
       (bif Nat.blt m 92 then (bif Nat.beq m 91 then 1 else 0) else
        (bif Nat.beq m 92 then 2 else 0))) else
      (bif Nat.blt m 95 then (bif Nat.blt m 94 then (bif Nat.beq m 93 then 2 else 0) else
        (bif Nat.beq m 94 then 3 else 0)) else
       (bif Nat.blt m 96 then (bif Nat.beq m 95 then 3 else 0) else
        (bif Nat.blt m 97 then (bif Nat.beq m 96 then 3 else 0) else
         (bif Nat.beq m 97 then 1 else 0))))))) else
   (bif Nat.blt m 114 then (bif Nat.blt m 106 then (bif Nat.blt m 102 then (bif Nat.blt m 100 then (bif Nat.blt m 99 then (bif Nat.beq m 98 then 2 else 0) else
        (bif Nat.beq m 99 then 1 else 0)) else
       (bif Nat.blt m 101 then (bif Nat.beq m 100 then 2 else 0) else
        (bif Nat.beq m 101 then 2 else 0))) else
      (bif Nat.blt m 104 then (bif Nat.blt m 103 then (bif Nat.beq m 102 then 3 else 0) else
        (bif Nat.beq m 103 then 2 else 0)) else
       (bif Nat.blt m 105 then (bif Nat.beq m 104 then 2 else 0) else
        (bif Nat.beq m 105 then 3 else 0)))) else
     (bif Nat.blt m 110 then (bif Nat.blt m 108 then (bif Nat.blt m 107 then (bif Nat.beq m 106 then 3 else 0) else
        (bif Nat.beq m 107 then 2 else 0)) else
       (bif Nat.blt m 109 then (bif Nat.beq m 108 then 3 else 0) else
        (bif Nat.beq m 109 then 2 else 0))) else
      (bif Nat.blt m 112 then (bif Nat.blt m 111 then (bif Nat.beq m 110 then 1 else 0) else
        (bif Nat.beq m 111 then 2 else 0)) else
       (bif Nat.blt m 113 then (bif Nat.beq m 112 then 2 else 0) else
        (bif Nat.beq m 113 then 2 else 0))))) else
    (bif Nat.blt m 122 then (bif Nat.blt m 118 then (bif Nat.blt m 116 then (bif Nat.blt m 115 then (bif Nat.beq m 114 then 3 else 0) else
        (bif Nat.beq m 115 then 3 else 0)) else
       (bif Nat.blt m 117 then (bif Nat.beq m 116 then 3 else 0) else
        (bif Nat.beq m 117 then 2 else 0))) else
      (bif Nat.blt m 120 then (bif Nat.blt m 119 then (bif Nat.beq m 118 then 2 else 0) else
        (bif Nat.beq m 119 then 2 else 0)) else
       (bif Nat.blt m 121 then (bif Nat.beq m 120 then 1 else 0) else
        (bif Nat.beq m 121 then 3 else 0)))) else
     (bif Nat.blt m 126 then (bif Nat.blt m 124 then (bif Nat.blt m 123 then (bif Nat.beq m 122 then 2 else 0) else
        (bif Nat.beq m 123 then 3 else 0)) else
       (bif Nat.blt m 125 then (bif Nat.beq m 124 then 2 else 0) else
        (bif Nat.beq m 125 then 3 else 0))) else
      (bif Nat.blt m 128 then (bif Nat.blt m 127 then (bif Nat.beq m 126 then 1 else 0) else
        (bif Nat.beq m 127 then 3 else 0)) else
       (bif Nat.blt m 129 then (bif Nat.beq m 128 then 2 else 0) else
        (bif Nat.blt m 130 then (bif Nat.beq m 129 then 2 else 0) else
         (bif Nat.beq m 130 then 2 else 0))))))))) else
 (bif Nat.blt m 196 then (bif Nat.blt m 163 then (bif Nat.blt m 147 then (bif Nat.blt m 139 then (bif Nat.blt m 135 then (bif Nat.blt m 133 then (bif Nat.blt m 132 then (bif Nat.beq m 131 then 2 else 0) else
        (bif Nat.beq m 132 then 2 else 0)) else
       (bif Nat.blt m 134 then (bif Nat.beq m 133 then 3 else 0) else
        (bif Nat.beq m 134 then 2 else 0))) else
      (bif Nat.blt m 137 then (bif Nat.blt m 136 then (bif Nat.beq m 135 then 3 else 0) else
        (bif Nat.beq m 136 then 3 else 0)) else
       (bif Nat.blt m 138 then (bif Nat.beq m 137 then 3 else 0) else
        (bif Nat.beq m 138 then 1 else 0)))) else
     (bif Nat.blt m 143 then (bif Nat.blt m 141 then (bif Nat.blt m 140 then (bif Nat.beq m 139 then 4 else 0) else
        (bif Nat.beq m 140 then 1 else 0)) else
       (bif Nat.blt m 142 then (bif Nat.beq m 141 then 1 else 0) else
        (bif Nat.beq m 142 then 1 else 0))) else
      (bif Nat.blt m 145 then (bif Nat.blt m 144 then (bif Nat.beq m 143 then 1 else 0) else
        (bif Nat.beq m 144 then 1 else 0)) else
       (bif Nat.blt m 146 then (bif Nat.beq m 145 then 1 else 0) else
        (bif Nat.beq m 146 then 1 else 0))))) else
    (bif Nat.blt m 155 then (bif Nat.blt m 151 then (bif Nat.blt m 149 then (bif Nat.blt m 148 then (bif Nat.beq m 147 then 1 else 0) else
        (bif Nat.beq m 148 then 2 else 0)) else
       (bif Nat.blt m 150 then (bif Nat.beq m 149 then 1 else 0) else
        (bif Nat.beq m 150 then 1 else 0))) else
      (bif Nat.blt m 153 then (bif Nat.blt m 152 then (bif Nat.beq m 151 then 1 else 0) else
        (bif Nat.beq m 152 then 1 else 0)) else
       (bif Nat.blt m 154 then (bif Nat.beq m 153 then 1 else 0) else
        (bif Nat.beq m 154 then 1 else 0)))) else
     (bif Nat.blt m 159 then (bif Nat.blt m 157 then (bif Nat.blt m 156 then (bif Nat.beq m 155 then 1 else 0) else
        (bif Nat.beq m 156 then 1 else 0)) else
       (bif Nat.blt m 158 then (bif Nat.beq m 157 then 1 else 0) else
        (bif Nat.beq m 158 then 6 else 0))) else
      (bif Nat.blt m 161 then (bif Nat.blt m 160 then (bif Nat.beq m 159 then 2 else 0) else
        (bif Nat.beq m 160 then 2 else 0)) else
       (bif Nat.blt m 162 then (bif Nat.beq m 161 then 2 else 0) else
        (bif Nat.beq m 162 then 1 else 0)))))) else
   (bif Nat.blt m 179 then (bif Nat.blt m 171 then (bif Nat.blt m 167 then (bif Nat.blt m 165 then (bif Nat.blt m 164 then (bif Nat.beq m 163 then 2 else 0) else
        (bif Nat.beq m 164 then 3 else 0)) else
       (bif Nat.blt m 166 then (bif Nat.beq m 165 then 2 else 0) else
        (bif Nat.beq m 166 then 2 else 0))) else
      (bif Nat.blt m 169 then (bif Nat.blt m 168 then (bif Nat.beq m 167 then 3 else 0) else
        (bif Nat.beq m 168 then 2 else 0)) else
       (bif Nat.blt m 170 then (bif Nat.beq m 169 then 3 else 0) else
        (bif Nat.beq m 170 then 2 else 0)))) else
     (bif Nat.blt m 175 then (bif Nat.blt m 173 then (bif Nat.blt m 172 then (bif Nat.beq m 171 then 2 else 0) else
        (bif Nat.beq m 172 then 3 else 0)) else
       (bif Nat.blt m 174 then (bif Nat.beq m 173 then 2 else 0) else
        (bif Nat.beq m 174 then 2 else 0))) else
      (bif Nat.blt m 177 then (bif Nat.blt m 176 then (bif Nat.beq m 175 then 2 else 0) else
        (bif Nat.beq m 176 then 2 else 0)) else
       (bif Nat.blt m 178 then (bif Nat.beq m 177 then 2 else 0) else
        (bif Nat.beq m 178 then 2 else 0))))) else
    (bif Nat.blt m 187 then (bif Nat.blt m 183 then (bif Nat.blt m 181 then (bif Nat.blt m 180 then (bif Nat.beq m 179 then 2 else 0) else
        (bif Nat.beq m 180 then 2 else 0)) else
       (bif Nat.blt m 182 then (bif Nat.beq m 181 then 2 else 0) else
        (bif Nat.beq m 182 then 2 else 0))) else
      (bif Nat.blt m 185 then (bif Nat.blt m 184 then (bif Nat.beq m 183 then 3 else 0) else
        (bif Nat.beq m 184 then 2 else 0)) else
       (bif Nat.blt m 186 then (bif Nat.beq m 185 then 2 else 0) else
        (bif Nat.beq m 186 then 2 else 0)))) else
     (bif Nat.blt m 191 then (bif Nat.blt m 189 then (bif Nat.blt m 188 then (bif Nat.beq m 187 then 2 else 0) else
        (bif Nat.beq m 188 then 3 else 0)) else
       (bif Nat.blt m 190 then (bif Nat.beq m 189 then 2 else 0) else
        (bif Nat.beq m 190 then 2 else 0))) else
      (bif Nat.blt m 193 then (bif Nat.blt m 192 then (bif Nat.beq m 191 then 2 else 0) else
        (bif Nat.beq m 192 then 2 else 0)) else
       (bif Nat.blt m 194 then (bif Nat.beq m 193 then 3 else 0) else
        (bif Nat.blt m 195 then (bif Nat.beq m 194 then 2 else 0) else
         (bif Nat.beq m 195 then 3 else 0)))))))) else
  (bif Nat.blt m 229 then (bif Nat.blt m 212 then (bif Nat.blt m 204 then (bif Nat.blt m 200 then (bif Nat.blt m 198 then (bif Nat.blt m 197 then (bif Nat.beq m 196 then 3 else 0) else
        (bif Nat.beq m 197 then 3 else 0)) else
       (bif Nat.blt m 199 then (bif Nat.beq m 198 then 3 else 0) else
        (bif Nat.beq m 199 then 2 else 0))) else
      (bif Nat.blt m 202 then (bif Nat.blt m 201 then (bif Nat.beq m 200 then 2 else 0) else
        (bif Nat.beq m 201 then 1 else 0)) else
       (bif Nat.blt m 203 then (bif Nat.beq m 202 then 2 else 0) else
        (bif Nat.beq m 203 then 2 else 0)))) else
     (bif Nat.blt m 208 then (bif Nat.blt m 206 then (bif Nat.blt m 205 then (bif Nat.beq m 204 then 1 else 0) else
        (bif Nat.beq m 205 then 1 else 0)) else
       (bif Nat.blt m 207 then (bif Nat.beq m 206 then 1 else 0) else
        (bif Nat.beq m 207 then 1 else 0))) else
      (bif Nat.blt m 210 then (bif Nat.blt m 209 then (bif Nat.beq m 208 then 2 else 0) else
        (bif Nat.beq m 209 then 2 else 0)) else
       (bif Nat.blt m 211 then (bif Nat.beq m 210 then 1 else 0) else
        (bif Nat.beq m 211 then 3 else 0))))) else
    (bif Nat.blt m 220 then (bif Nat.blt m 216 then (bif Nat.blt m 214 then (bif Nat.blt m 213 then (bif Nat.beq m 212 then 3 else 0) else
        (bif Nat.beq m 213 then 2 else 0)) else
       (bif Nat.blt m 215 then (bif Nat.beq m 214 then 2 else 0) else
        (bif Nat.beq m 215 then 1 else 0))) else
      (bif Nat.blt m 218 then (bif Nat.blt m 217 then (bif Nat.beq m 216 then 4 else 0) else
        (bif Nat.beq m 217 then 1 else 0)) else
       (bif Nat.blt m 219 then (bif Nat.beq m 218 then 1 else 0) else
        (bif Nat.beq m 219 then 2 else 0)))) else
     (bif Nat.blt m 224 then (bif Nat.blt m 222 then (bif Nat.blt m 221 then (bif Nat.beq m 220 then 2 else 0) else
        (bif Nat.beq m 221 then 3 else 0)) else
       (bif Nat.blt m 223 then (bif Nat.beq m 222 then 3 else 0) else
        (bif Nat.beq m 223 then 2 else 0))) else
      (bif Nat.blt m 226 then (bif Nat.blt m 225 then (bif Nat.beq m 224 then 2 else 0) else
        (bif Nat.beq m 225 then 2 else 0)) else
       (bif Nat.blt m 227 then (bif Nat.beq m 226 then 1 else 0) else
        (bif Nat.blt m 228 then (bif Nat.beq m 227 then 1 else 0) else
         (bif Nat.beq m 228 then 2 else 0))))))) else
   (bif Nat.blt m 245 then (bif Nat.blt m 237 then (bif Nat.blt m 233 then (bif Nat.blt m 231 then (bif Nat.blt m 230 then (bif Nat.beq m 229 then 3 else 0) else
        (bif Nat.beq m 230 then 3 else 0)) else
       (bif Nat.blt m 232 then (bif Nat.beq m 231 then 2 else 0) else
        (bif Nat.beq m 232 then 2 else 0))) else
      (bif Nat.blt m 235 then (bif Nat.blt m 234 then (bif Nat.beq m 233 then 1 else 0) else
        (bif Nat.beq m 234 then 1 else 0)) else
       (bif Nat.blt m 236 then (bif Nat.beq m 235 then 1 else 0) else
        (bif Nat.beq m 236 then 1 else 0)))) else
     (bif Nat.blt m 241 then (bif Nat.blt m 239 then (bif Nat.blt m 238 then (bif Nat.beq m 237 then 2 else 0) else
        (bif Nat.beq m 238 then 2 else 0)) else
       (bif Nat.blt m 240 then (bif Nat.beq m 239 then 2 else 0) else
        (bif Nat.beq m 240 then 2 else 0))) else
      (bif Nat.blt m 243 then (bif Nat.blt m 242 then (bif Nat.beq m 241 then 1 else 0) else
        (bif Nat.beq m 242 then 3 else 0)) else
       (bif Nat.blt m 244 then (bif Nat.beq m 243 then 2 else 0) else
        (bif Nat.beq m 244 then 2 else 0))))) else
    (bif Nat.blt m 253 then (bif Nat.blt m 249 then (bif Nat.blt m 247 then (bif Nat.blt m 246 then (bif Nat.beq m 245 then 2 else 0) else
        (bif Nat.beq m 246 then 1 else 0)) else
       (bif Nat.blt m 248 then (bif Nat.beq m 247 then 1 else 0) else
        (bif Nat.beq m 248 then 2 else 0))) else
      (bif Nat.blt m 251 then (bif Nat.blt m 250 then (bif Nat.beq m 249 then 1 else 0) else
        (bif Nat.beq m 250 then 1 else 0)) else
       (bif Nat.blt m 252 then (bif Nat.beq m 251 then 2 else 0) else
        (bif Nat.beq m 252 then 1 else 0)))) else
     (bif Nat.blt m 257 then (bif Nat.blt m 255 then (bif Nat.blt m 254 then (bif Nat.beq m 253 then 2 else 0) else
        (bif Nat.beq m 254 then 3 else 0)) else
       (bif Nat.blt m 256 then (bif Nat.beq m 255 then 1 else 0) else
        (bif Nat.beq m 256 then 3 else 0))) else
      (bif Nat.blt m 259 then (bif Nat.blt m 258 then (bif Nat.beq m 257 then 1 else 0) else
        (bif Nat.beq m 258 then 3 else 0)) else
       (bif Nat.blt m 260 then (bif Nat.beq m 259 then 2 else 0) else
        (bif Nat.blt m 261 then (bif Nat.beq m 260 then 1 else 0) else
         (bif Nat.beq m 261 then 1 else 0))))))))))
noncomputable def zrk (m : Nat) : Nat :=
 (bif Nat.blt m 131 then (bif Nat.blt m 65 then (bif Nat.blt m 32 then (bif Nat.blt m 16 then (bif Nat.blt m 8 then (bif Nat.blt m 4 then (bif Nat.blt m 2 then (bif Nat.blt m 1 then (bif Nat.beq m 0 then 0 else 9) else
        (bif Nat.beq m 1 then 0 else 9)) else
       (bif Nat.blt m 3 then (bif Nat.beq m 2 then 0 else 9) else
        (bif Nat.beq m 3 then 0 else 9))) else
      (bif Nat.blt m 6 then (bif Nat.blt m 5 then (bif Nat.beq m 4 then 2 else 9) else
        (bif Nat.beq m 5 then 2 else 9)) else
       (bif Nat.blt m 7 then (bif Nat.beq m 6 then 2 else 9) else
        (bif Nat.beq m 7 then 0 else 9)))) else
     (bif Nat.blt m 12 then (bif Nat.blt m 10 then (bif Nat.blt m 9 then (bif Nat.beq m 8 then 2 else 9) else
        (bif Nat.beq m 9 then 2 else 9)) else
       (bif Nat.blt m 11 then (bif Nat.beq m 10 then 1 else 9) else
        (bif Nat.beq m 11 then 1 else 9))) else
      (bif Nat.blt m 14 then (bif Nat.blt m 13 then (bif Nat.beq m 12 then 2 else 9) else
        (bif Nat.beq m 13 then 0 else 9)) else
       (bif Nat.blt m 15 then (bif Nat.beq m 14 then 1 else 9) else
        (bif Nat.beq m 15 then 0 else 9))))) else
    (bif Nat.blt m 24 then (bif Nat.blt m 20 then (bif Nat.blt m 18 then (bif Nat.blt m 17 then (bif Nat.beq m 16 then 0 else 9) else
        (bif Nat.beq m 17 then 0 else 9)) else
       (bif Nat.blt m 19 then (bif Nat.beq m 18 then 6 else 9) else
        (bif Nat.beq m 19 then 0 else 9))) else
      (bif Nat.blt m 22 then (bif Nat.blt m 21 then (bif Nat.beq m 20 then 0 else 9) else
        (bif Nat.beq m 21 then 0 else 9)) else
       (bif Nat.blt m 23 then (bif Nat.beq m 22 then 1 else 9) else
        (bif Nat.beq m 23 then 0 else 9)))) else
     (bif Nat.blt m 28 then (bif Nat.blt m 26 then (bif Nat.blt m 25 then (bif Nat.beq m 24 then 0 else 9) else
        (bif Nat.beq m 25 then 0 else 9)) else
       (bif Nat.blt m 27 then (bif Nat.beq m 26 then 0 else 9) else
        (bif Nat.beq m 27 then 0 else 9))) else
      (bif Nat.blt m 30 then (bif Nat.blt m 29 then (bif Nat.beq m 28 then 5 else 9) else
        (bif Nat.beq m 29 then 6 else 9)) else
       (bif Nat.blt m 31 then (bif Nat.beq m 30 then 0 else 9) else
        (bif Nat.beq m 31 then 0 else 9)))))) else
   (bif Nat.blt m 48 then (bif Nat.blt m 40 then (bif Nat.blt m 36 then (bif Nat.blt m 34 then (bif Nat.blt m 33 then (bif Nat.beq m 32 then 0 else 9) else
        (bif Nat.beq m 33 then 0 else 9)) else
       (bif Nat.blt m 35 then (bif Nat.beq m 34 then 5 else 9) else
        (bif Nat.beq m 35 then 0 else 9))) else
      (bif Nat.blt m 38 then (bif Nat.blt m 37 then (bif Nat.beq m 36 then 1 else 9) else
        (bif Nat.beq m 37 then 6 else 9)) else
       (bif Nat.blt m 39 then (bif Nat.beq m 38 then 1 else 9) else
        (bif Nat.beq m 39 then 1 else 9)))) else
     (bif Nat.blt m 44 then (bif Nat.blt m 42 then (bif Nat.blt m 41 then (bif Nat.beq m 40 then 1 else 9) else
        (bif Nat.beq m 41 then 1 else 9)) else
       (bif Nat.blt m 43 then (bif Nat.beq m 42 then 1 else 9) else
        (bif Nat.beq m 43 then 1 else 9))) else
      (bif Nat.blt m 46 then (bif Nat.blt m 45 then (bif Nat.beq m 44 then 0 else 9) else
        (bif Nat.beq m 45 then 0 else 9)) else
       (bif Nat.blt m 47 then (bif Nat.beq m 46 then 1 else 9) else
        (bif Nat.beq m 47 then 1 else 9))))) else
    (bif Nat.blt m 56 then (bif Nat.blt m 52 then (bif Nat.blt m 50 then (bif Nat.blt m 49 then (bif Nat.beq m 48 then 1 else 9) else
        (bif Nat.beq m 49 then 0 else 9)) else
       (bif Nat.blt m 51 then (bif Nat.beq m 50 then 1 else 9) else
        (bif Nat.beq m 51 then 1 else 9))) else
      (bif Nat.blt m 54 then (bif Nat.blt m 53 then (bif Nat.beq m 52 then 5 else 9) else
        (bif Nat.beq m 53 then 1 else 9)) else
       (bif Nat.blt m 55 then (bif Nat.beq m 54 then 1 else 9) else
        (bif Nat.beq m 55 then 1 else 9)))) else
     (bif Nat.blt m 60 then (bif Nat.blt m 58 then (bif Nat.blt m 57 then (bif Nat.beq m 56 then 1 else 9) else
        (bif Nat.beq m 57 then 0 else 9)) else
       (bif Nat.blt m 59 then (bif Nat.beq m 58 then 0 else 9) else
        (bif Nat.beq m 59 then 0 else 9))) else
      (bif Nat.blt m 62 then (bif Nat.blt m 61 then (bif Nat.beq m 60 then 1 else 9) else
        (bif Nat.beq m 61 then 0 else 9)) else
       (bif Nat.blt m 63 then (bif Nat.beq m 62 then 0 else 9) else
        (bif Nat.blt m 64 then (bif Nat.beq m 63 then 1 else 9) else
         (bif Nat.beq m 64 then 2 else 9)))))))) else
  (bif Nat.blt m 98 then (bif Nat.blt m 81 then (bif Nat.blt m 73 then (bif Nat.blt m 69 then (bif Nat.blt m 67 then (bif Nat.blt m 66 then (bif Nat.beq m 65 then 1 else 9) else
        (bif Nat.beq m 66 then 1 else 9)) else
       (bif Nat.blt m 68 then (bif Nat.beq m 67 then 6 else 9) else
        (bif Nat.beq m 68 then 0 else 9))) else
      (bif Nat.blt m 71 then (bif Nat.blt m 70 then (bif Nat.beq m 69 then 0 else 9) else
        (bif Nat.beq m 70 then 1 else 9)) else
       (bif Nat.blt m 72 then (bif Nat.beq m 71 then 6 else 9) else
        (bif Nat.beq m 72 then 1 else 9)))) else
     (bif Nat.blt m 77 then (bif Nat.blt m 75 then (bif Nat.blt m 74 then (bif Nat.beq m 73 then 4 else 9) else
        (bif Nat.beq m 74 then 2 else 9)) else
       (bif Nat.blt m 76 then (bif Nat.beq m 75 then 1 else 9) else
        (bif Nat.beq m 76 then 3 else 9))) else
      (bif Nat.blt m 79 then (bif Nat.blt m 78 then (bif Nat.beq m 77 then 1 else 9) else
        (bif Nat.beq m 78 then 2 else 9)) else
       (bif Nat.blt m 80 then (bif Nat.beq m 79 then 6 else 9) else
        (bif Nat.beq m 80 then 0 else 9))))) else
    (bif Nat.blt m 89 then (bif Nat.blt m 85 then (bif Nat.blt m 83 then (bif Nat.blt m 82 then (bif Nat.beq m 81 then 0 else 9) else
        (bif Nat.beq m 82 then 0 else 9)) else
       (bif Nat.blt m 84 then (bif Nat.beq m 83 then 0 else 9) else
        (bif Nat.beq m 84 then 1 else 9))) else
      (bif Nat.blt m 87 then (bif Nat.blt m 86 then (bif Nat.beq m 85 then 1 else 9) else
        (bif Nat.beq m 86 then 6 else 9)) else
       (bif Nat.blt m 88 then (bif Nat.beq m 87 then 1 else 9) else
        (bif Nat.beq m 88 then 6 else 9)))) else
     (bif Nat.blt m 93 then (bif Nat.blt m 91 then (bif Nat.blt m 90 then (bif Nat.beq m 89 then 1 else 9) else
        (bif Nat.beq m 90 then 1 else 9)) else
       (bif Nat.blt m 92 then (bif Nat.beq m 91 then 0 else 9) else
        (bif Nat.beq m 92 then 0 else 9))) else
      (bif Nat.blt m 95 then (bif Nat.blt m 94 then (bif Nat.beq m 93 then 1 else 9) else
        (bif Nat.beq m 94 then 0 else 9)) else
       (bif Nat.blt m 96 then (bif Nat.beq m 95 then 0 else 9) else
        (bif Nat.blt m 97 then (bif Nat.beq m 96 then 0 else 9) else
         (bif Nat.beq m 97 then 0 else 9))))))) else
   (bif Nat.blt m 114 then (bif Nat.blt m 106 then (bif Nat.blt m 102 then (bif Nat.blt m 100 then (bif Nat.blt m 99 then (bif Nat.beq m 98 then 0 else 9) else
        (bif Nat.beq m 99 then 2 else 9)) else
       (bif Nat.blt m 101 then (bif Nat.beq m 100 then 0 else 9) else
        (bif Nat.beq m 101 then 0 else 9))) else
      (bif Nat.blt m 104 then (bif Nat.blt m 103 then (bif Nat.beq m 102 then 6 else 9) else
        (bif Nat.beq m 103 then 2 else 9)) else
       (bif Nat.blt m 105 then (bif Nat.beq m 104 then 6 else 9) else
        (bif Nat.beq m 105 then 1 else 9)))) else
     (bif Nat.blt m 110 then (bif Nat.blt m 108 then (bif Nat.blt m 107 then (bif Nat.beq m 106 then 1 else 9) else
        (bif Nat.beq m 107 then 2 else 9)) else
       (bif Nat.blt m 109 then (bif Nat.beq m 108 then 1 else 9) else
        (bif Nat.beq m 109 then 1 else 9))) else
      (bif Nat.blt m 112 then (bif Nat.blt m 111 then (bif Nat.beq m 110 then 1 else 9) else
        (bif Nat.beq m 111 then 5 else 9)) else
       (bif Nat.blt m 113 then (bif Nat.beq m 112 then 1 else 9) else
        (bif Nat.beq m 113 then 0 else 9))))) else
    (bif Nat.blt m 122 then (bif Nat.blt m 118 then (bif Nat.blt m 116 then (bif Nat.blt m 115 then (bif Nat.beq m 114 then 0 else 9) else
        (bif Nat.beq m 115 then 0 else 9)) else
       (bif Nat.blt m 117 then (bif Nat.beq m 116 then 0 else 9) else
        (bif Nat.beq m 117 then 1 else 9))) else
      (bif Nat.blt m 120 then (bif Nat.blt m 119 then (bif Nat.beq m 118 then 0 else 9) else
        (bif Nat.beq m 119 then 0 else 9)) else
       (bif Nat.blt m 121 then (bif Nat.beq m 120 then 1 else 9) else
        (bif Nat.beq m 121 then 0 else 9)))) else
     (bif Nat.blt m 126 then (bif Nat.blt m 124 then (bif Nat.blt m 123 then (bif Nat.beq m 122 then 5 else 9) else
        (bif Nat.beq m 123 then 0 else 9)) else
       (bif Nat.blt m 125 then (bif Nat.beq m 124 then 0 else 9) else
        (bif Nat.beq m 125 then 0 else 9))) else
      (bif Nat.blt m 128 then (bif Nat.blt m 127 then (bif Nat.beq m 126 then 6 else 9) else
        (bif Nat.beq m 127 then 0 else 9)) else
       (bif Nat.blt m 129 then (bif Nat.beq m 128 then 1 else 9) else
        (bif Nat.blt m 130 then (bif Nat.beq m 129 then 5 else 9) else
         (bif Nat.beq m 130 then 5 else 9))))))))) else
 (bif Nat.blt m 196 then (bif Nat.blt m 163 then (bif Nat.blt m 147 then (bif Nat.blt m 139 then (bif Nat.blt m 135 then (bif Nat.blt m 133 then (bif Nat.blt m 132 then (bif Nat.beq m 131 then 1 else 9) else
        (bif Nat.beq m 132 then 1 else 9)) else
       (bif Nat.blt m 134 then (bif Nat.beq m 133 then 0 else 9) else
        (bif Nat.beq m 134 then 0 else 9))) else
      (bif Nat.blt m 137 then (bif Nat.blt m 136 then (bif Nat.beq m 135 then 0 else 9) else
        (bif Nat.beq m 136 then 1 else 9)) else
       (bif Nat.blt m 138 then (bif Nat.beq m 137 then 1 else 9) else
        (bif Nat.beq m 138 then 5 else 9)))) else
     (bif Nat.blt m 143 then (bif Nat.blt m 141 then (bif Nat.blt m 140 then (bif Nat.beq m 139 then 6 else 9) else
        (bif Nat.beq m 140 then 6 else 9)) else
       (bif Nat.blt m 142 then (bif Nat.beq m 141 then 6 else 9) else
        (bif Nat.beq m 142 then 1 else 9))) else
      (bif Nat.blt m 145 then (bif Nat.blt m 144 then (bif Nat.beq m 143 then 1 else 9) else
        (bif Nat.beq m 144 then 6 else 9)) else
       (bif Nat.blt m 146 then (bif Nat.beq m 145 then 6 else 9) else
        (bif Nat.beq m 146 then 0 else 9))))) else
    (bif Nat.blt m 155 then (bif Nat.blt m 151 then (bif Nat.blt m 149 then (bif Nat.blt m 148 then (bif Nat.beq m 147 then 1 else 9) else
        (bif Nat.beq m 148 then 5 else 9)) else
       (bif Nat.blt m 150 then (bif Nat.beq m 149 then 2 else 9) else
        (bif Nat.beq m 150 then 2 else 9))) else
      (bif Nat.blt m 153 then (bif Nat.blt m 152 then (bif Nat.beq m 151 then 2 else 9) else
        (bif Nat.beq m 152 then 1 else 9)) else
       (bif Nat.blt m 154 then (bif Nat.beq m 153 then 2 else 9) else
        (bif Nat.beq m 154 then 1 else 9)))) else
     (bif Nat.blt m 159 then (bif Nat.blt m 157 then (bif Nat.blt m 156 then (bif Nat.beq m 155 then 4 else 9) else
        (bif Nat.beq m 156 then 2 else 9)) else
       (bif Nat.blt m 158 then (bif Nat.beq m 157 then 3 else 9) else
        (bif Nat.beq m 158 then 1 else 9))) else
      (bif Nat.blt m 161 then (bif Nat.blt m 160 then (bif Nat.beq m 159 then 0 else 9) else
        (bif Nat.beq m 160 then 1 else 9)) else
       (bif Nat.blt m 162 then (bif Nat.beq m 161 then 0 else 9) else
        (bif Nat.beq m 162 then 0 else 9)))))) else
   (bif Nat.blt m 179 then (bif Nat.blt m 171 then (bif Nat.blt m 167 then (bif Nat.blt m 165 then (bif Nat.blt m 164 then (bif Nat.beq m 163 then 1 else 9) else
        (bif Nat.beq m 164 then 1 else 9)) else
       (bif Nat.blt m 166 then (bif Nat.beq m 165 then 0 else 9) else
        (bif Nat.beq m 166 then 1 else 9))) else
      (bif Nat.blt m 169 then (bif Nat.blt m 168 then (bif Nat.beq m 167 then 2 else 9) else
        (bif Nat.beq m 168 then 0 else 9)) else
       (bif Nat.blt m 170 then (bif Nat.beq m 169 then 1 else 9) else
        (bif Nat.beq m 170 then 0 else 9)))) else
     (bif Nat.blt m 175 then (bif Nat.blt m 173 then (bif Nat.blt m 172 then (bif Nat.beq m 171 then 2 else 9) else
        (bif Nat.beq m 172 then 1 else 9)) else
       (bif Nat.blt m 174 then (bif Nat.beq m 173 then 0 else 9) else
        (bif Nat.beq m 174 then 2 else 9))) else
      (bif Nat.blt m 177 then (bif Nat.blt m 176 then (bif Nat.beq m 175 then 1 else 9) else
        (bif Nat.beq m 176 then 1 else 9)) else
       (bif Nat.blt m 178 then (bif Nat.beq m 177 then 3 else 9) else
        (bif Nat.beq m 178 then 1 else 9))))) else
    (bif Nat.blt m 187 then (bif Nat.blt m 183 then (bif Nat.blt m 181 then (bif Nat.blt m 180 then (bif Nat.beq m 179 then 2 else 9) else
        (bif Nat.beq m 180 then 5 else 9)) else
       (bif Nat.blt m 182 then (bif Nat.beq m 181 then 1 else 9) else
        (bif Nat.beq m 182 then 0 else 9))) else
      (bif Nat.blt m 185 then (bif Nat.blt m 184 then (bif Nat.beq m 183 then 1 else 9) else
        (bif Nat.beq m 184 then 1 else 9)) else
       (bif Nat.blt m 186 then (bif Nat.beq m 185 then 2 else 9) else
        (bif Nat.beq m 186 then 2 else 9)))) else
     (bif Nat.blt m 191 then (bif Nat.blt m 189 then (bif Nat.blt m 188 then (bif Nat.beq m 187 then 1 else 9) else
        (bif Nat.beq m 188 then 0 else 9)) else
       (bif Nat.blt m 190 then (bif Nat.beq m 189 then 5 else 9) else
        (bif Nat.beq m 190 then 1 else 9))) else
      (bif Nat.blt m 193 then (bif Nat.blt m 192 then (bif Nat.beq m 191 then 1 else 9) else
        (bif Nat.beq m 192 then 1 else 9)) else
       (bif Nat.blt m 194 then (bif Nat.beq m 193 then 5 else 9) else
        (bif Nat.blt m 195 then (bif Nat.beq m 194 then 1 else 9) else
         (bif Nat.beq m 195 then 1 else 9)))))))) else
  (bif Nat.blt m 229 then (bif Nat.blt m 212 then (bif Nat.blt m 204 then (bif Nat.blt m 200 then (bif Nat.blt m 198 then (bif Nat.blt m 197 then (bif Nat.beq m 196 then 1 else 9) else
        (bif Nat.beq m 197 then 1 else 9)) else
       (bif Nat.blt m 199 then (bif Nat.beq m 198 then 1 else 9) else
        (bif Nat.beq m 199 then 1 else 9))) else
      (bif Nat.blt m 202 then (bif Nat.blt m 201 then (bif Nat.beq m 200 then 0 else 9) else
        (bif Nat.beq m 201 then 1 else 9)) else
       (bif Nat.blt m 203 then (bif Nat.beq m 202 then 1 else 9) else
        (bif Nat.beq m 203 then 5 else 9)))) else
     (bif Nat.blt m 208 then (bif Nat.blt m 206 then (bif Nat.blt m 205 then (bif Nat.beq m 204 then 5 else 9) else
        (bif Nat.beq m 205 then 1 else 9)) else
       (bif Nat.blt m 207 then (bif Nat.beq m 206 then 0 else 9) else
        (bif Nat.beq m 207 then 1 else 9))) else
      (bif Nat.blt m 210 then (bif Nat.blt m 209 then (bif Nat.beq m 208 then 1 else 9) else
        (bif Nat.beq m 209 then 1 else 9)) else
       (bif Nat.blt m 211 then (bif Nat.beq m 210 then 1 else 9) else
        (bif Nat.beq m 211 then 1 else 9))))) else
    (bif Nat.blt m 220 then (bif Nat.blt m 216 then (bif Nat.blt m 214 then (bif Nat.blt m 213 then (bif Nat.beq m 212 then 1 else 9) else
        (bif Nat.beq m 213 then 1 else 9)) else
       (bif Nat.blt m 215 then (bif Nat.beq m 214 then 1 else 9) else
        (bif Nat.beq m 215 then 5 else 9))) else
      (bif Nat.blt m 218 then (bif Nat.blt m 217 then (bif Nat.beq m 216 then 0 else 9) else
        (bif Nat.beq m 217 then 2 else 9)) else
       (bif Nat.blt m 219 then (bif Nat.beq m 218 then 6 else 9) else
        (bif Nat.beq m 219 then 6 else 9)))) else
     (bif Nat.blt m 224 then (bif Nat.blt m 222 then (bif Nat.blt m 221 then (bif Nat.beq m 220 then 6 else 9) else
        (bif Nat.beq m 221 then 1 else 9)) else
       (bif Nat.blt m 223 then (bif Nat.beq m 222 then 1 else 9) else
        (bif Nat.beq m 223 then 1 else 9))) else
      (bif Nat.blt m 226 then (bif Nat.blt m 225 then (bif Nat.beq m 224 then 1 else 9) else
        (bif Nat.beq m 225 then 1 else 9)) else
       (bif Nat.blt m 227 then (bif Nat.beq m 226 then 1 else 9) else
        (bif Nat.blt m 228 then (bif Nat.beq m 227 then 1 else 9) else
         (bif Nat.beq m 228 then 0 else 9))))))) else
   (bif Nat.blt m 245 then (bif Nat.blt m 237 then (bif Nat.blt m 233 then (bif Nat.blt m 231 then (bif Nat.blt m 230 then (bif Nat.beq m 229 then 5 else 9) else
        (bif Nat.beq m 230 then 5 else 9)) else
       (bif Nat.blt m 232 then (bif Nat.beq m 231 then 0 else 9) else
        (bif Nat.beq m 232 then 0 else 9))) else
      (bif Nat.blt m 235 then (bif Nat.blt m 234 then (bif Nat.beq m 233 then 1 else 9) else
        (bif Nat.beq m 234 then 6 else 9)) else
       (bif Nat.blt m 236 then (bif Nat.beq m 235 then 2 else 9) else
        (bif Nat.beq m 236 then 6 else 9)))) else
     (bif Nat.blt m 241 then (bif Nat.blt m 239 then (bif Nat.blt m 238 then (bif Nat.beq m 237 then 0 else 9) else
        (bif Nat.beq m 238 then 5 else 9)) else
       (bif Nat.blt m 240 then (bif Nat.beq m 239 then 0 else 9) else
        (bif Nat.beq m 240 then 1 else 9))) else
      (bif Nat.blt m 243 then (bif Nat.blt m 242 then (bif Nat.beq m 241 then 6 else 9) else
        (bif Nat.beq m 242 then 0 else 9)) else
       (bif Nat.blt m 244 then (bif Nat.beq m 243 then 0 else 9) else
        (bif Nat.beq m 244 then 5 else 9))))) else
    (bif Nat.blt m 253 then (bif Nat.blt m 249 then (bif Nat.blt m 247 then (bif Nat.blt m 246 then (bif Nat.beq m 245 then 5 else 9) else
        (bif Nat.beq m 246 then 5 else 9)) else
       (bif Nat.blt m 248 then (bif Nat.beq m 247 then 1 else 9) else
        (bif Nat.beq m 248 then 0 else 9))) else
      (bif Nat.blt m 251 then (bif Nat.blt m 250 then (bif Nat.beq m 249 then 1 else 9) else
        (bif Nat.beq m 250 then 8 else 9)) else
       (bif Nat.blt m 252 then (bif Nat.beq m 251 then 7 else 9) else
        (bif Nat.beq m 252 then 6 else 9)))) else
     (bif Nat.blt m 257 then (bif Nat.blt m 255 then (bif Nat.blt m 254 then (bif Nat.beq m 253 then 0 else 9) else
        (bif Nat.beq m 254 then 0 else 9)) else
       (bif Nat.blt m 256 then (bif Nat.beq m 255 then 1 else 9) else
        (bif Nat.beq m 256 then 1 else 9))) else
      (bif Nat.blt m 259 then (bif Nat.blt m 258 then (bif Nat.beq m 257 then 1 else 9) else
        (bif Nat.beq m 258 then 1 else 9)) else
       (bif Nat.blt m 260 then (bif Nat.beq m 259 then 7 else 9) else
        (bif Nat.blt m 261 then (bif Nat.beq m 260 then 6 else 9) else
         (bif Nat.beq m 261 then 6 else 9))))))))))
noncomputable def zrecv (m : Nat) : Nat :=
 (bif Nat.blt m 131 then (bif Nat.blt m 65 then (bif Nat.blt m 32 then (bif Nat.blt m 16 then (bif Nat.blt m 8 then (bif Nat.blt m 4 then (bif Nat.blt m 2 then (bif Nat.blt m 1 then (bif Nat.beq m 0 then 1 else 0) else
        (bif Nat.beq m 1 then 1 else 0)) else
       (bif Nat.blt m 3 then (bif Nat.beq m 2 then 1 else 0) else
        (bif Nat.beq m 3 then 1 else 0))) else
      (bif Nat.blt m 6 then (bif Nat.blt m 5 then (bif Nat.beq m 4 then 1 else 0) else
        (bif Nat.beq m 5 then 1 else 0)) else
       (bif Nat.blt m 7 then (bif Nat.beq m 6 then 1 else 0) else
        (bif Nat.beq m 7 then 1 else 0)))) else
     (bif Nat.blt m 12 then (bif Nat.blt m 10 then (bif Nat.blt m 9 then (bif Nat.beq m 8 then 1 else 0) else
        (bif Nat.beq m 9 then 1 else 0)) else
       (bif Nat.blt m 11 then (bif Nat.beq m 10 then 1 else 0) else
        (bif Nat.beq m 11 then 1 else 0))) else
      (bif Nat.blt m 14 then (bif Nat.blt m 13 then (bif Nat.beq m 12 then 1 else 0) else
        (bif Nat.beq m 13 then 2 else 0)) else
       (bif Nat.blt m 15 then (bif Nat.beq m 14 then 2 else 0) else
        (bif Nat.beq m 15 then 3 else 0))))) else
    (bif Nat.blt m 24 then (bif Nat.blt m 20 then (bif Nat.blt m 18 then (bif Nat.blt m 17 then (bif Nat.beq m 16 then 3 else 0) else
        (bif Nat.beq m 17 then 3 else 0)) else
       (bif Nat.blt m 19 then (bif Nat.beq m 18 then 3 else 0) else
        (bif Nat.beq m 19 then 3 else 0))) else
      (bif Nat.blt m 22 then (bif Nat.blt m 21 then (bif Nat.beq m 20 then 3 else 0) else
        (bif Nat.beq m 21 then 3 else 0)) else
       (bif Nat.blt m 23 then (bif Nat.beq m 22 then 3 else 0) else
        (bif Nat.beq m 23 then 4 else 0)))) else
     (bif Nat.blt m 28 then (bif Nat.blt m 26 then (bif Nat.blt m 25 then (bif Nat.beq m 24 then 4 else 0) else
        (bif Nat.beq m 25 then 4 else 0)) else
       (bif Nat.blt m 27 then (bif Nat.beq m 26 then 4 else 0) else
        (bif Nat.beq m 27 then 4 else 0))) else
      (bif Nat.blt m 30 then (bif Nat.blt m 29 then (bif Nat.beq m 28 then 4 else 0) else
        (bif Nat.beq m 29 then 4 else 0)) else
       (bif Nat.blt m 31 then (bif Nat.beq m 30 then 4 else 0) else
        (bif Nat.beq m 31 then 4 else 0)))))) else
   (bif Nat.blt m 48 then (bif Nat.blt m 40 then (bif Nat.blt m 36 then (bif Nat.blt m 34 then (bif Nat.blt m 33 then (bif Nat.beq m 32 then 4 else 0) else
        (bif Nat.beq m 33 then 4 else 0)) else
       (bif Nat.blt m 35 then (bif Nat.beq m 34 then 4 else 0) else
        (bif Nat.beq m 35 then 5 else 0))) else
      (bif Nat.blt m 38 then (bif Nat.blt m 37 then (bif Nat.beq m 36 then 5 else 0) else
        (bif Nat.beq m 37 then 5 else 0)) else
       (bif Nat.blt m 39 then (bif Nat.beq m 38 then 5 else 0) else
        (bif Nat.beq m 39 then 5 else 0)))) else
     (bif Nat.blt m 44 then (bif Nat.blt m 42 then (bif Nat.blt m 41 then (bif Nat.beq m 40 then 5 else 0) else
        (bif Nat.beq m 41 then 5 else 0)) else
       (bif Nat.blt m 43 then (bif Nat.beq m 42 then 5 else 0) else
        (bif Nat.beq m 43 then 5 else 0))) else
      (bif Nat.blt m 46 then (bif Nat.blt m 45 then (bif Nat.beq m 44 then 5 else 0) else
        (bif Nat.beq m 45 then 5 else 0)) else
       (bif Nat.blt m 47 then (bif Nat.beq m 46 then 5 else 0) else
        (bif Nat.beq m 47 then 5 else 0))))) else
    (bif Nat.blt m 56 then (bif Nat.blt m 52 then (bif Nat.blt m 50 then (bif Nat.blt m 49 then (bif Nat.beq m 48 then 5 else 0) else
        (bif Nat.beq m 49 then 5 else 0)) else
       (bif Nat.blt m 51 then (bif Nat.beq m 50 then 5 else 0) else
        (bif Nat.beq m 51 then 5 else 0))) else
      (bif Nat.blt m 54 then (bif Nat.blt m 53 then (bif Nat.beq m 52 then 5 else 0) else
        (bif Nat.beq m 53 then 5 else 0)) else
       (bif Nat.blt m 55 then (bif Nat.beq m 54 then 5 else 0) else
        (bif Nat.beq m 55 then 5 else 0)))) else
     (bif Nat.blt m 60 then (bif Nat.blt m 58 then (bif Nat.blt m 57 then (bif Nat.beq m 56 then 5 else 0) else
        (bif Nat.beq m 57 then 6 else 0)) else
       (bif Nat.blt m 59 then (bif Nat.beq m 58 then 6 else 0) else
        (bif Nat.beq m 59 then 6 else 0))) else
      (bif Nat.blt m 62 then (bif Nat.blt m 61 then (bif Nat.beq m 60 then 6 else 0) else
        (bif Nat.beq m 61 then 6 else 0)) else
       (bif Nat.blt m 63 then (bif Nat.beq m 62 then 6 else 0) else
        (bif Nat.blt m 64 then (bif Nat.beq m 63 then 6 else 0) else
         (bif Nat.beq m 64 then 6 else 0)))))))) else
  (bif Nat.blt m 98 then (bif Nat.blt m 81 then (bif Nat.blt m 73 then (bif Nat.blt m 69 then (bif Nat.blt m 67 then (bif Nat.blt m 66 then (bif Nat.beq m 65 then 6 else 0) else
        (bif Nat.beq m 66 then 6 else 0)) else
       (bif Nat.blt m 68 then (bif Nat.beq m 67 then 6 else 0) else
        (bif Nat.beq m 68 then 6 else 0))) else
      (bif Nat.blt m 71 then (bif Nat.blt m 70 then (bif Nat.beq m 69 then 6 else 0) else
        (bif Nat.beq m 70 then 6 else 0)) else
       (bif Nat.blt m 72 then (bif Nat.beq m 71 then 6 else 0) else
        (bif Nat.beq m 72 then 6 else 0)))) else
     (bif Nat.blt m 77 then (bif Nat.blt m 75 then (bif Nat.blt m 74 then (bif Nat.beq m 73 then 6 else 0) else
        (bif Nat.beq m 74 then 0 else 0)) else
       (bif Nat.blt m 76 then (bif Nat.beq m 75 then 6 else 0) else
        (bif Nat.beq m 76 then 6 else 0))) else
      (bif Nat.blt m 79 then (bif Nat.blt m 78 then (bif Nat.beq m 77 then 0 else 0) else
        (bif Nat.beq m 78 then 6 else 0)) else
       (bif Nat.blt m 80 then (bif Nat.beq m 79 then 6 else 0) else
        (bif Nat.beq m 80 then 12 else 0))))) else
    (bif Nat.blt m 89 then (bif Nat.blt m 85 then (bif Nat.blt m 83 then (bif Nat.blt m 82 then (bif Nat.beq m 81 then 7 else 0) else
        (bif Nat.beq m 82 then 7 else 0)) else
       (bif Nat.blt m 84 then (bif Nat.beq m 83 then 7 else 0) else
        (bif Nat.beq m 84 then 7 else 0))) else
      (bif Nat.blt m 87 then (bif Nat.blt m 86 then (bif Nat.beq m 85 then 7 else 0) else
        (bif Nat.beq m 86 then 0 else 0)) else
       (bif Nat.blt m 88 then (bif Nat.beq m 87 then 7 else 0) else
        (bif Nat.beq m 88 then 0 else 0)))) else
     (bif Nat.blt m 93 then (bif Nat.blt m 91 then (bif Nat.blt m 90 then (bif Nat.beq m 89 then 7 else 0) else
        (bif Nat.beq m 90 then 7 else 0)) else
       (bif Nat.blt m 92 then (bif Nat.beq m 91 then 7 else 0) else
        (bif Nat.beq m 92 then 8 else 0))) else
      (bif Nat.blt m 95 then (bif Nat.blt m 94 then (bif Nat.beq m 93 then 0 else 0) else
        (bif Nat.beq m 94 then 8 else 0)) else
       (bif Nat.blt m 96 then (bif Nat.beq m 95 then 8 else 0) else
        (bif Nat.blt m 97 then (bif Nat.beq m 96 then 8 else 0) else
         (bif Nat.beq m 97 then 8 else 0))))))) else
   (bif Nat.blt m 114 then (bif Nat.blt m 106 then (bif Nat.blt m 102 then (bif Nat.blt m 100 then (bif Nat.blt m 99 then (bif Nat.beq m 98 then 8 else 0) else
        (bif Nat.beq m 99 then 8 else 0)) else
       (bif Nat.blt m 101 then (bif Nat.beq m 100 then 8 else 0) else
        (bif Nat.beq m 101 then 8 else 0))) else
      (bif Nat.blt m 104 then (bif Nat.blt m 103 then (bif Nat.beq m 102 then 8 else 0) else
        (bif Nat.beq m 103 then 8 else 0)) else
       (bif Nat.blt m 105 then (bif Nat.beq m 104 then 0 else 0) else
        (bif Nat.beq m 105 then 8 else 0)))) else
     (bif Nat.blt m 110 then (bif Nat.blt m 108 then (bif Nat.blt m 107 then (bif Nat.beq m 106 then 0 else 0) else
        (bif Nat.beq m 107 then 8 else 0)) else
       (bif Nat.blt m 109 then (bif Nat.beq m 108 then 8 else 0) else
        (bif Nat.beq m 109 then 8 else 0))) else
      (bif Nat.blt m 112 then (bif Nat.blt m 111 then (bif Nat.beq m 110 then 0 else 0) else
        (bif Nat.beq m 111 then 8 else 0)) else
       (bif Nat.blt m 113 then (bif Nat.beq m 112 then 8 else 0) else
        (bif Nat.beq m 113 then 9 else 0))))) else
    (bif Nat.blt m 122 then (bif Nat.blt m 118 then (bif Nat.blt m 116 then (bif Nat.blt m 115 then (bif Nat.beq m 114 then 9 else 0) else
        (bif Nat.beq m 115 then 9 else 0)) else
       (bif Nat.blt m 117 then (bif Nat.beq m 116 then 9 else 0) else
        (bif Nat.beq m 117 then 9 else 0))) else
      (bif Nat.blt m 120 then (bif Nat.blt m 119 then (bif Nat.beq m 118 then 9 else 0) else
        (bif Nat.beq m 119 then 9 else 0)) else
       (bif Nat.blt m 121 then (bif Nat.beq m 120 then 0 else 0) else
        (bif Nat.beq m 121 then 9 else 0)))) else
     (bif Nat.blt m 126 then (bif Nat.blt m 124 then (bif Nat.blt m 123 then (bif Nat.beq m 122 then 9 else 0) else
        (bif Nat.beq m 123 then 9 else 0)) else
       (bif Nat.blt m 125 then (bif Nat.beq m 124 then 10 else 0) else
        (bif Nat.beq m 125 then 10 else 0))) else
      (bif Nat.blt m 128 then (bif Nat.blt m 127 then (bif Nat.beq m 126 then 0 else 0) else
        (bif Nat.beq m 127 then 10 else 0)) else
       (bif Nat.blt m 129 then (bif Nat.beq m 128 then 10 else 0) else
        (bif Nat.blt m 130 then (bif Nat.beq m 129 then 10 else 0) else
         (bif Nat.beq m 130 then 10 else 0))))))))) else
 (bif Nat.blt m 196 then (bif Nat.blt m 163 then (bif Nat.blt m 147 then (bif Nat.blt m 139 then (bif Nat.blt m 135 then (bif Nat.blt m 133 then (bif Nat.blt m 132 then (bif Nat.beq m 131 then 10 else 0) else
        (bif Nat.beq m 132 then 10 else 0)) else
       (bif Nat.blt m 134 then (bif Nat.beq m 133 then 10 else 0) else
        (bif Nat.beq m 134 then 10 else 0))) else
      (bif Nat.blt m 137 then (bif Nat.blt m 136 then (bif Nat.beq m 135 then 10 else 0) else
        (bif Nat.beq m 136 then 0 else 0)) else
       (bif Nat.blt m 138 then (bif Nat.beq m 137 then 0 else 0) else
        (bif Nat.beq m 138 then 0 else 0)))) else
     (bif Nat.blt m 143 then (bif Nat.blt m 141 then (bif Nat.blt m 140 then (bif Nat.beq m 139 then 0 else 0) else
        (bif Nat.beq m 140 then 0 else 0)) else
       (bif Nat.blt m 142 then (bif Nat.beq m 141 then 0 else 0) else
        (bif Nat.beq m 142 then 0 else 0))) else
      (bif Nat.blt m 145 then (bif Nat.blt m 144 then (bif Nat.beq m 143 then 0 else 0) else
        (bif Nat.beq m 144 then 0 else 0)) else
       (bif Nat.blt m 146 then (bif Nat.beq m 145 then 0 else 0) else
        (bif Nat.beq m 146 then 11 else 0))))) else
    (bif Nat.blt m 155 then (bif Nat.blt m 151 then (bif Nat.blt m 149 then (bif Nat.blt m 148 then (bif Nat.beq m 147 then 11 else 0) else
        (bif Nat.beq m 148 then 12 else 0)) else
       (bif Nat.blt m 150 then (bif Nat.beq m 149 then 11 else 0) else
        (bif Nat.beq m 150 then 11 else 0))) else
      (bif Nat.blt m 153 then (bif Nat.blt m 152 then (bif Nat.beq m 151 then 11 else 0) else
        (bif Nat.beq m 152 then 11 else 0)) else
       (bif Nat.blt m 154 then (bif Nat.beq m 153 then 11 else 0) else
        (bif Nat.beq m 154 then 11 else 0)))) else
     (bif Nat.blt m 159 then (bif Nat.blt m 157 then (bif Nat.blt m 156 then (bif Nat.beq m 155 then 11 else 0) else
        (bif Nat.beq m 156 then 11 else 0)) else
       (bif Nat.blt m 158 then (bif Nat.beq m 157 then 11 else 0) else
        (bif Nat.beq m 158 then 11 else 0))) else
      (bif Nat.blt m 161 then (bif Nat.blt m 160 then (bif Nat.beq m 159 then 11 else 0) else
        (bif Nat.beq m 160 then 11 else 0)) else
       (bif Nat.blt m 162 then (bif Nat.beq m 161 then 11 else 0) else
        (bif Nat.beq m 162 then 11 else 0)))))) else
   (bif Nat.blt m 179 then (bif Nat.blt m 171 then (bif Nat.blt m 167 then (bif Nat.blt m 165 then (bif Nat.blt m 164 then (bif Nat.beq m 163 then 11 else 0) else
        (bif Nat.beq m 164 then 11 else 0)) else
       (bif Nat.blt m 166 then (bif Nat.beq m 165 then 11 else 0) else
        (bif Nat.beq m 166 then 11 else 0))) else
      (bif Nat.blt m 169 then (bif Nat.blt m 168 then (bif Nat.beq m 167 then 11 else 0) else
        (bif Nat.beq m 168 then 11 else 0)) else
       (bif Nat.blt m 170 then (bif Nat.beq m 169 then 11 else 0) else
        (bif Nat.beq m 170 then 11 else 0)))) else
     (bif Nat.blt m 175 then (bif Nat.blt m 173 then (bif Nat.blt m 172 then (bif Nat.beq m 171 then 11 else 0) else
        (bif Nat.beq m 172 then 11 else 0)) else
       (bif Nat.blt m 174 then (bif Nat.beq m 173 then 11 else 0) else
        (bif Nat.beq m 174 then 11 else 0))) else
      (bif Nat.blt m 177 then (bif Nat.blt m 176 then (bif Nat.beq m 175 then 11 else 0) else
        (bif Nat.beq m 176 then 11 else 0)) else
       (bif Nat.blt m 178 then (bif Nat.beq m 177 then 11 else 0) else
        (bif Nat.beq m 178 then 11 else 0))))) else
    (bif Nat.blt m 187 then (bif Nat.blt m 183 then (bif Nat.blt m 181 then (bif Nat.blt m 180 then (bif Nat.beq m 179 then 11 else 0) else
        (bif Nat.beq m 180 then 12 else 0)) else
       (bif Nat.blt m 182 then (bif Nat.beq m 181 then 11 else 0) else
        (bif Nat.beq m 182 then 11 else 0))) else
      (bif Nat.blt m 185 then (bif Nat.blt m 184 then (bif Nat.beq m 183 then 11 else 0) else
        (bif Nat.beq m 184 then 11 else 0)) else
       (bif Nat.blt m 186 then (bif Nat.beq m 185 then 11 else 0) else
        (bif Nat.beq m 186 then 11 else 0)))) else
     (bif Nat.blt m 191 then (bif Nat.blt m 189 then (bif Nat.blt m 188 then (bif Nat.beq m 187 then 11 else 0) else
        (bif Nat.beq m 188 then 11 else 0)) else
       (bif Nat.blt m 190 then (bif Nat.beq m 189 then 12 else 0) else
        (bif Nat.beq m 190 then 11 else 0))) else
      (bif Nat.blt m 193 then (bif Nat.blt m 192 then (bif Nat.beq m 191 then 11 else 0) else
        (bif Nat.beq m 192 then 11 else 0)) else
       (bif Nat.blt m 194 then (bif Nat.beq m 193 then 11 else 0) else
        (bif Nat.blt m 195 then (bif Nat.beq m 194 then 11 else 0) else
         (bif Nat.beq m 195 then 11 else 0)))))))) else
  (bif Nat.blt m 229 then (bif Nat.blt m 212 then (bif Nat.blt m 204 then (bif Nat.blt m 200 then (bif Nat.blt m 198 then (bif Nat.blt m 197 then (bif Nat.beq m 196 then 11 else 0) else
        (bif Nat.beq m 197 then 11 else 0)) else
       (bif Nat.blt m 199 then (bif Nat.beq m 198 then 11 else 0) else
        (bif Nat.beq m 199 then 11 else 0))) else
      (bif Nat.blt m 202 then (bif Nat.blt m 201 then (bif Nat.beq m 200 then 11 else 0) else
        (bif Nat.beq m 201 then 11 else 0)) else
       (bif Nat.blt m 203 then (bif Nat.beq m 202 then 11 else 0) else
        (bif Nat.beq m 203 then 12 else 0)))) else
     (bif Nat.blt m 208 then (bif Nat.blt m 206 then (bif Nat.blt m 205 then (bif Nat.beq m 204 then 12 else 0) else
        (bif Nat.beq m 205 then 12 else 0)) else
       (bif Nat.blt m 207 then (bif Nat.beq m 206 then 12 else 0) else
        (bif Nat.beq m 207 then 0 else 0))) else
      (bif Nat.blt m 210 then (bif Nat.blt m 209 then (bif Nat.beq m 208 then 0 else 0) else
        (bif Nat.beq m 209 then 0 else 0)) else
       (bif Nat.blt m 211 then (bif Nat.beq m 210 then 0 else 0) else
        (bif Nat.beq m 211 then 0 else 0))))) else
    (bif Nat.blt m 220 then (bif Nat.blt m 216 then (bif Nat.blt m 214 then (bif Nat.blt m 213 then (bif Nat.beq m 212 then 0 else 0) else
        (bif Nat.beq m 213 then 0 else 0)) else
       (bif Nat.blt m 215 then (bif Nat.beq m 214 then 0 else 0) else
        (bif Nat.beq m 215 then 0 else 0))) else
      (bif Nat.blt m 218 then (bif Nat.blt m 217 then (bif Nat.beq m 216 then 0 else 0) else
        (bif Nat.beq m 217 then 0 else 0)) else
       (bif Nat.blt m 219 then (bif Nat.beq m 218 then 0 else 0) else
        (bif Nat.beq m 219 then 0 else 0)))) else
     (bif Nat.blt m 224 then (bif Nat.blt m 222 then (bif Nat.blt m 221 then (bif Nat.beq m 220 then 0 else 0) else
        (bif Nat.beq m 221 then 0 else 0)) else
       (bif Nat.blt m 223 then (bif Nat.beq m 222 then 0 else 0) else
        (bif Nat.beq m 223 then 0 else 0))) else
      (bif Nat.blt m 226 then (bif Nat.blt m 225 then (bif Nat.beq m 224 then 0 else 0) else
        (bif Nat.beq m 225 then 0 else 0)) else
       (bif Nat.blt m 227 then (bif Nat.beq m 226 then 0 else 0) else
        (bif Nat.blt m 228 then (bif Nat.beq m 227 then 0 else 0) else
         (bif Nat.beq m 228 then 0 else 0))))))) else
   (bif Nat.blt m 245 then (bif Nat.blt m 237 then (bif Nat.blt m 233 then (bif Nat.blt m 231 then (bif Nat.blt m 230 then (bif Nat.beq m 229 then 0 else 0) else
        (bif Nat.beq m 230 then 0 else 0)) else
       (bif Nat.blt m 232 then (bif Nat.beq m 231 then 0 else 0) else
        (bif Nat.beq m 232 then 0 else 0))) else
      (bif Nat.blt m 235 then (bif Nat.blt m 234 then (bif Nat.beq m 233 then 0 else 0) else
        (bif Nat.beq m 234 then 0 else 0)) else
       (bif Nat.blt m 236 then (bif Nat.beq m 235 then 0 else 0) else
        (bif Nat.beq m 236 then 0 else 0)))) else
     (bif Nat.blt m 241 then (bif Nat.blt m 239 then (bif Nat.blt m 238 then (bif Nat.beq m 237 then 12 else 0) else
        (bif Nat.beq m 238 then 12 else 0)) else
       (bif Nat.blt m 240 then (bif Nat.beq m 239 then 12 else 0) else
        (bif Nat.beq m 240 then 12 else 0))) else
      (bif Nat.blt m 243 then (bif Nat.blt m 242 then (bif Nat.beq m 241 then 12 else 0) else
        (bif Nat.beq m 242 then 12 else 0)) else
       (bif Nat.blt m 244 then (bif Nat.beq m 243 then 12 else 0) else
        (bif Nat.beq m 244 then 12 else 0))))) else
    (bif Nat.blt m 253 then (bif Nat.blt m 249 then (bif Nat.blt m 247 then (bif Nat.blt m 246 then (bif Nat.beq m 245 then 12 else 0) else
        (bif Nat.beq m 246 then 12 else 0)) else
       (bif Nat.blt m 248 then (bif Nat.beq m 247 then 12 else 0) else
        (bif Nat.beq m 248 then 12 else 0))) else
      (bif Nat.blt m 251 then (bif Nat.blt m 250 then (bif Nat.beq m 249 then 13 else 0) else
        (bif Nat.beq m 250 then 13 else 0)) else
       (bif Nat.blt m 252 then (bif Nat.beq m 251 then 13 else 0) else
        (bif Nat.beq m 252 then 13 else 0)))) else
     (bif Nat.blt m 257 then (bif Nat.blt m 255 then (bif Nat.blt m 254 then (bif Nat.beq m 253 then 13 else 0) else
        (bif Nat.beq m 254 then 13 else 0)) else
       (bif Nat.blt m 256 then (bif Nat.beq m 255 then 0 else 0) else
        (bif Nat.beq m 256 then 0 else 0))) else
      (bif Nat.blt m 259 then (bif Nat.blt m 258 then (bif Nat.beq m 257 then 0 else 0) else
        (bif Nat.beq m 258 then 0 else 0)) else
       (bif Nat.blt m 260 then (bif Nat.beq m 259 then 0 else 0) else
        (bif Nat.blt m 261 then (bif Nat.beq m 260 then 0 else 0) else
         (bif Nat.beq m 261 then 0 else 0))))))))))
noncomputable def zctor (m : Nat) : Bool :=
 (bif Nat.blt m 131 then (bif Nat.blt m 65 then (bif Nat.blt m 32 then (bif Nat.blt m 16 then (bif Nat.blt m 8 then (bif Nat.blt m 4 then (bif Nat.blt m 2 then (bif Nat.blt m 1 then (bif Nat.beq m 0 then true else false) else
        (bif Nat.beq m 1 then false else false)) else
       (bif Nat.blt m 3 then (bif Nat.beq m 2 then false else false) else
        (bif Nat.beq m 3 then false else false))) else
      (bif Nat.blt m 6 then (bif Nat.blt m 5 then (bif Nat.beq m 4 then false else false) else
        (bif Nat.beq m 5 then false else false)) else
       (bif Nat.blt m 7 then (bif Nat.beq m 6 then false else false) else
        (bif Nat.beq m 7 then false else false)))) else
     (bif Nat.blt m 12 then (bif Nat.blt m 10 then (bif Nat.blt m 9 then (bif Nat.beq m 8 then false else false) else
        (bif Nat.beq m 9 then false else false)) else
       (bif Nat.blt m 11 then (bif Nat.beq m 10 then false else false) else
        (bif Nat.beq m 11 then false else false))) else
      (bif Nat.blt m 14 then (bif Nat.blt m 13 then (bif Nat.beq m 12 then false else false) else
        (bif Nat.beq m 13 then true else false)) else
       (bif Nat.blt m 15 then (bif Nat.beq m 14 then false else false) else
        (bif Nat.beq m 15 then true else false))))) else
    (bif Nat.blt m 24 then (bif Nat.blt m 20 then (bif Nat.blt m 18 then (bif Nat.blt m 17 then (bif Nat.beq m 16 then false else false) else
        (bif Nat.beq m 17 then false else false)) else
       (bif Nat.blt m 19 then (bif Nat.beq m 18 then false else false) else
        (bif Nat.beq m 19 then false else false))) else
      (bif Nat.blt m 22 then (bif Nat.blt m 21 then (bif Nat.beq m 20 then false else false) else
        (bif Nat.beq m 21 then false else false)) else
       (bif Nat.blt m 23 then (bif Nat.beq m 22 then false else false) else
        (bif Nat.beq m 23 then true else false)))) else
     (bif Nat.blt m 28 then (bif Nat.blt m 26 then (bif Nat.blt m 25 then (bif Nat.beq m 24 then false else false) else
        (bif Nat.beq m 25 then false else false)) else
       (bif Nat.blt m 27 then (bif Nat.beq m 26 then false else false) else
        (bif Nat.beq m 27 then false else false))) else
      (bif Nat.blt m 30 then (bif Nat.blt m 29 then (bif Nat.beq m 28 then false else false) else
        (bif Nat.beq m 29 then false else false)) else
       (bif Nat.blt m 31 then (bif Nat.beq m 30 then false else false) else
        (bif Nat.beq m 31 then false else false)))))) else
   (bif Nat.blt m 48 then (bif Nat.blt m 40 then (bif Nat.blt m 36 then (bif Nat.blt m 34 then (bif Nat.blt m 33 then (bif Nat.beq m 32 then false else false) else
        (bif Nat.beq m 33 then false else false)) else
       (bif Nat.blt m 35 then (bif Nat.beq m 34 then false else false) else
        (bif Nat.beq m 35 then true else false))) else
      (bif Nat.blt m 38 then (bif Nat.blt m 37 then (bif Nat.beq m 36 then false else false) else
        (bif Nat.beq m 37 then false else false)) else
       (bif Nat.blt m 39 then (bif Nat.beq m 38 then false else false) else
        (bif Nat.beq m 39 then false else false)))) else
     (bif Nat.blt m 44 then (bif Nat.blt m 42 then (bif Nat.blt m 41 then (bif Nat.beq m 40 then false else false) else
        (bif Nat.beq m 41 then false else false)) else
       (bif Nat.blt m 43 then (bif Nat.beq m 42 then false else false) else
        (bif Nat.beq m 43 then false else false))) else
      (bif Nat.blt m 46 then (bif Nat.blt m 45 then (bif Nat.beq m 44 then false else false) else
        (bif Nat.beq m 45 then false else false)) else
       (bif Nat.blt m 47 then (bif Nat.beq m 46 then false else false) else
        (bif Nat.beq m 47 then false else false))))) else
    (bif Nat.blt m 56 then (bif Nat.blt m 52 then (bif Nat.blt m 50 then (bif Nat.blt m 49 then (bif Nat.beq m 48 then false else false) else
        (bif Nat.beq m 49 then false else false)) else
       (bif Nat.blt m 51 then (bif Nat.beq m 50 then false else false) else
        (bif Nat.beq m 51 then false else false))) else
      (bif Nat.blt m 54 then (bif Nat.blt m 53 then (bif Nat.beq m 52 then false else false) else
        (bif Nat.beq m 53 then false else false)) else
       (bif Nat.blt m 55 then (bif Nat.beq m 54 then false else false) else
        (bif Nat.beq m 55 then false else false)))) else
     (bif Nat.blt m 60 then (bif Nat.blt m 58 then (bif Nat.blt m 57 then (bif Nat.beq m 56 then false else false) else
        (bif Nat.beq m 57 then true else false)) else
       (bif Nat.blt m 59 then (bif Nat.beq m 58 then false else false) else
        (bif Nat.beq m 59 then false else false))) else
      (bif Nat.blt m 62 then (bif Nat.blt m 61 then (bif Nat.beq m 60 then false else false) else
        (bif Nat.beq m 61 then false else false)) else
       (bif Nat.blt m 63 then (bif Nat.beq m 62 then false else false) else
        (bif Nat.blt m 64 then (bif Nat.beq m 63 then false else false) else
         (bif Nat.beq m 64 then false else false)))))))) else
  (bif Nat.blt m 98 then (bif Nat.blt m 81 then (bif Nat.blt m 73 then (bif Nat.blt m 69 then (bif Nat.blt m 67 then (bif Nat.blt m 66 then (bif Nat.beq m 65 then false else false) else
        (bif Nat.beq m 66 then false else false)) else
       (bif Nat.blt m 68 then (bif Nat.beq m 67 then false else false) else
        (bif Nat.beq m 68 then false else false))) else
      (bif Nat.blt m 71 then (bif Nat.blt m 70 then (bif Nat.beq m 69 then false else false) else
        (bif Nat.beq m 70 then false else false)) else
       (bif Nat.blt m 72 then (bif Nat.beq m 71 then false else false) else
        (bif Nat.beq m 72 then false else false)))) else
     (bif Nat.blt m 77 then (bif Nat.blt m 75 then (bif Nat.blt m 74 then (bif Nat.beq m 73 then false else false) else
        (bif Nat.beq m 74 then false else false)) else
       (bif Nat.blt m 76 then (bif Nat.beq m 75 then false else false) else
        (bif Nat.beq m 76 then false else false))) else
      (bif Nat.blt m 79 then (bif Nat.blt m 78 then (bif Nat.beq m 77 then false else false) else
        (bif Nat.beq m 78 then false else false)) else
       (bif Nat.blt m 80 then (bif Nat.beq m 79 then false else false) else
        (bif Nat.beq m 80 then true else false))))) else
    (bif Nat.blt m 89 then (bif Nat.blt m 85 then (bif Nat.blt m 83 then (bif Nat.blt m 82 then (bif Nat.beq m 81 then true else false) else
        (bif Nat.beq m 82 then false else false)) else
       (bif Nat.blt m 84 then (bif Nat.beq m 83 then false else false) else
        (bif Nat.beq m 84 then false else false))) else
      (bif Nat.blt m 87 then (bif Nat.blt m 86 then (bif Nat.beq m 85 then false else false) else
        (bif Nat.beq m 86 then false else false)) else
       (bif Nat.blt m 88 then (bif Nat.beq m 87 then false else false) else
        (bif Nat.beq m 88 then false else false)))) else
     (bif Nat.blt m 93 then (bif Nat.blt m 91 then (bif Nat.blt m 90 then (bif Nat.beq m 89 then false else false) else
        (bif Nat.beq m 90 then false else false)) else
       (bif Nat.blt m 92 then (bif Nat.beq m 91 then false else false) else
        (bif Nat.beq m 92 then true else false))) else
      (bif Nat.blt m 95 then (bif Nat.blt m 94 then (bif Nat.beq m 93 then false else false) else
        (bif Nat.beq m 94 then false else false)) else
       (bif Nat.blt m 96 then (bif Nat.beq m 95 then false else false) else
        (bif Nat.blt m 97 then (bif Nat.beq m 96 then false else false) else
         (bif Nat.beq m 97 then false else false))))))) else
   (bif Nat.blt m 114 then (bif Nat.blt m 106 then (bif Nat.blt m 102 then (bif Nat.blt m 100 then (bif Nat.blt m 99 then (bif Nat.beq m 98 then false else false) else
        (bif Nat.beq m 99 then false else false)) else
       (bif Nat.blt m 101 then (bif Nat.beq m 100 then false else false) else
        (bif Nat.beq m 101 then false else false))) else
      (bif Nat.blt m 104 then (bif Nat.blt m 103 then (bif Nat.beq m 102 then false else false) else
        (bif Nat.beq m 103 then false else false)) else
       (bif Nat.blt m 105 then (bif Nat.beq m 104 then false else false) else
        (bif Nat.beq m 105 then false else false)))) else
     (bif Nat.blt m 110 then (bif Nat.blt m 108 then (bif Nat.blt m 107 then (bif Nat.beq m 106 then false else false) else
        (bif Nat.beq m 107 then false else false)) else
       (bif Nat.blt m 109 then (bif Nat.beq m 108 then false else false) else
        (bif Nat.beq m 109 then false else false))) else
      (bif Nat.blt m 112 then (bif Nat.blt m 111 then (bif Nat.beq m 110 then false else false) else
        (bif Nat.beq m 111 then false else false)) else
       (bif Nat.blt m 113 then (bif Nat.beq m 112 then false else false) else
        (bif Nat.beq m 113 then true else false))))) else
    (bif Nat.blt m 122 then (bif Nat.blt m 118 then (bif Nat.blt m 116 then (bif Nat.blt m 115 then (bif Nat.beq m 114 then false else false) else
        (bif Nat.beq m 115 then false else false)) else
       (bif Nat.blt m 117 then (bif Nat.beq m 116 then false else false) else
        (bif Nat.beq m 117 then false else false))) else
      (bif Nat.blt m 120 then (bif Nat.blt m 119 then (bif Nat.beq m 118 then false else false) else
        (bif Nat.beq m 119 then false else false)) else
       (bif Nat.blt m 121 then (bif Nat.beq m 120 then false else false) else
        (bif Nat.beq m 121 then false else false)))) else
     (bif Nat.blt m 126 then (bif Nat.blt m 124 then (bif Nat.blt m 123 then (bif Nat.beq m 122 then false else false) else
        (bif Nat.beq m 123 then false else false)) else
       (bif Nat.blt m 125 then (bif Nat.beq m 124 then true else false) else
        (bif Nat.beq m 125 then false else false))) else
      (bif Nat.blt m 128 then (bif Nat.blt m 127 then (bif Nat.beq m 126 then false else false) else
        (bif Nat.beq m 127 then false else false)) else
       (bif Nat.blt m 129 then (bif Nat.beq m 128 then false else false) else
        (bif Nat.blt m 130 then (bif Nat.beq m 129 then false else false) else
         (bif Nat.beq m 130 then false else false))))))))) else
 (bif Nat.blt m 196 then (bif Nat.blt m 163 then (bif Nat.blt m 147 then (bif Nat.blt m 139 then (bif Nat.blt m 135 then (bif Nat.blt m 133 then (bif Nat.blt m 132 then (bif Nat.beq m 131 then false else false) else
        (bif Nat.beq m 132 then false else false)) else
       (bif Nat.blt m 134 then (bif Nat.beq m 133 then false else false) else
        (bif Nat.beq m 134 then false else false))) else
      (bif Nat.blt m 137 then (bif Nat.blt m 136 then (bif Nat.beq m 135 then false else false) else
        (bif Nat.beq m 136 then false else false)) else
       (bif Nat.blt m 138 then (bif Nat.beq m 137 then false else false) else
        (bif Nat.beq m 138 then false else false)))) else
     (bif Nat.blt m 143 then (bif Nat.blt m 141 then (bif Nat.blt m 140 then (bif Nat.beq m 139 then false else false) else
        (bif Nat.beq m 140 then false else false)) else
       (bif Nat.blt m 142 then (bif Nat.beq m 141 then false else false) else
        (bif Nat.beq m 142 then false else false))) else
      (bif Nat.blt m 145 then (bif Nat.blt m 144 then (bif Nat.beq m 143 then false else false) else
        (bif Nat.beq m 144 then false else false)) else
       (bif Nat.blt m 146 then (bif Nat.beq m 145 then false else false) else
        (bif Nat.beq m 146 then true else false))))) else
    (bif Nat.blt m 155 then (bif Nat.blt m 151 then (bif Nat.blt m 149 then (bif Nat.blt m 148 then (bif Nat.beq m 147 then false else false) else
        (bif Nat.beq m 148 then false else false)) else
       (bif Nat.blt m 150 then (bif Nat.beq m 149 then false else false) else
        (bif Nat.beq m 150 then false else false))) else
      (bif Nat.blt m 153 then (bif Nat.blt m 152 then (bif Nat.beq m 151 then false else false) else
        (bif Nat.beq m 152 then false else false)) else
       (bif Nat.blt m 154 then (bif Nat.beq m 153 then false else false) else
        (bif Nat.beq m 154 then false else false)))) else
     (bif Nat.blt m 159 then (bif Nat.blt m 157 then (bif Nat.blt m 156 then (bif Nat.beq m 155 then false else false) else
        (bif Nat.beq m 156 then false else false)) else
       (bif Nat.blt m 158 then (bif Nat.beq m 157 then false else false) else
        (bif Nat.beq m 158 then false else false))) else
      (bif Nat.blt m 161 then (bif Nat.blt m 160 then (bif Nat.beq m 159 then false else false) else
        (bif Nat.beq m 160 then false else false)) else
       (bif Nat.blt m 162 then (bif Nat.beq m 161 then false else false) else
        (bif Nat.beq m 162 then false else false)))))) else
   (bif Nat.blt m 179 then (bif Nat.blt m 171 then (bif Nat.blt m 167 then (bif Nat.blt m 165 then (bif Nat.blt m 164 then (bif Nat.beq m 163 then false else false) else
        (bif Nat.beq m 164 then false else false)) else
       (bif Nat.blt m 166 then (bif Nat.beq m 165 then false else false) else
        (bif Nat.beq m 166 then false else false))) else
      (bif Nat.blt m 169 then (bif Nat.blt m 168 then (bif Nat.beq m 167 then false else false) else
        (bif Nat.beq m 168 then false else false)) else
       (bif Nat.blt m 170 then (bif Nat.beq m 169 then false else false) else
        (bif Nat.beq m 170 then false else false)))) else
     (bif Nat.blt m 175 then (bif Nat.blt m 173 then (bif Nat.blt m 172 then (bif Nat.beq m 171 then false else false) else
        (bif Nat.beq m 172 then false else false)) else
       (bif Nat.blt m 174 then (bif Nat.beq m 173 then false else false) else
        (bif Nat.beq m 174 then false else false))) else
      (bif Nat.blt m 177 then (bif Nat.blt m 176 then (bif Nat.beq m 175 then false else false) else
        (bif Nat.beq m 176 then false else false)) else
       (bif Nat.blt m 178 then (bif Nat.beq m 177 then false else false) else
        (bif Nat.beq m 178 then false else false))))) else
    (bif Nat.blt m 187 then (bif Nat.blt m 183 then (bif Nat.blt m 181 then (bif Nat.blt m 180 then (bif Nat.beq m 179 then false else false) else
        (bif Nat.beq m 180 then false else false)) else
       (bif Nat.blt m 182 then (bif Nat.beq m 181 then false else false) else
        (bif Nat.beq m 182 then false else false))) else
      (bif Nat.blt m 185 then (bif Nat.blt m 184 then (bif Nat.beq m 183 then false else false) else
        (bif Nat.beq m 184 then false else false)) else
       (bif Nat.blt m 186 then (bif Nat.beq m 185 then false else false) else
        (bif Nat.beq m 186 then false else false)))) else
     (bif Nat.blt m 191 then (bif Nat.blt m 189 then (bif Nat.blt m 188 then (bif Nat.beq m 187 then false else false) else
        (bif Nat.beq m 188 then false else false)) else
       (bif Nat.blt m 190 then (bif Nat.beq m 189 then false else false) else
        (bif Nat.beq m 190 then false else false))) else
      (bif Nat.blt m 193 then (bif Nat.blt m 192 then (bif Nat.beq m 191 then false else false) else
        (bif Nat.beq m 192 then false else false)) else
       (bif Nat.blt m 194 then (bif Nat.beq m 193 then false else false) else
        (bif Nat.blt m 195 then (bif Nat.beq m 194 then false else false) else
         (bif Nat.beq m 195 then false else false)))))))) else
  (bif Nat.blt m 229 then (bif Nat.blt m 212 then (bif Nat.blt m 204 then (bif Nat.blt m 200 then (bif Nat.blt m 198 then (bif Nat.blt m 197 then (bif Nat.beq m 196 then false else false) else
        (bif Nat.beq m 197 then false else false)) else
       (bif Nat.blt m 199 then (bif Nat.beq m 198 then false else false) else
        (bif Nat.beq m 199 then false else false))) else
      (bif Nat.blt m 202 then (bif Nat.blt m 201 then (bif Nat.beq m 200 then false else false) else
        (bif Nat.beq m 201 then false else false)) else
       (bif Nat.blt m 203 then (bif Nat.beq m 202 then false else false) else
        (bif Nat.beq m 203 then false else false)))) else
     (bif Nat.blt m 208 then (bif Nat.blt m 206 then (bif Nat.blt m 205 then (bif Nat.beq m 204 then false else false) else
        (bif Nat.beq m 205 then false else false)) else
       (bif Nat.blt m 207 then (bif Nat.beq m 206 then true else false) else
        (bif Nat.beq m 207 then false else false))) else
      (bif Nat.blt m 210 then (bif Nat.blt m 209 then (bif Nat.beq m 208 then false else false) else
        (bif Nat.beq m 209 then false else false)) else
       (bif Nat.blt m 211 then (bif Nat.beq m 210 then false else false) else
        (bif Nat.beq m 211 then false else false))))) else
    (bif Nat.blt m 220 then (bif Nat.blt m 216 then (bif Nat.blt m 214 then (bif Nat.blt m 213 then (bif Nat.beq m 212 then false else false) else
        (bif Nat.beq m 213 then false else false)) else
       (bif Nat.blt m 215 then (bif Nat.beq m 214 then false else false) else
        (bif Nat.beq m 215 then false else false))) else
      (bif Nat.blt m 218 then (bif Nat.blt m 217 then (bif Nat.beq m 216 then false else false) else
        (bif Nat.beq m 217 then false else false)) else
       (bif Nat.blt m 219 then (bif Nat.beq m 218 then false else false) else
        (bif Nat.beq m 219 then false else false)))) else
     (bif Nat.blt m 224 then (bif Nat.blt m 222 then (bif Nat.blt m 221 then (bif Nat.beq m 220 then false else false) else
        (bif Nat.beq m 221 then false else false)) else
       (bif Nat.blt m 223 then (bif Nat.beq m 222 then false else false) else
        (bif Nat.beq m 223 then false else false))) else
      (bif Nat.blt m 226 then (bif Nat.blt m 225 then (bif Nat.beq m 224 then false else false) else
        (bif Nat.beq m 225 then false else false)) else
       (bif Nat.blt m 227 then (bif Nat.beq m 226 then false else false) else
        (bif Nat.blt m 228 then (bif Nat.beq m 227 then false else false) else
         (bif Nat.beq m 228 then false else false))))))) else
   (bif Nat.blt m 245 then (bif Nat.blt m 237 then (bif Nat.blt m 233 then (bif Nat.blt m 231 then (bif Nat.blt m 230 then (bif Nat.beq m 229 then false else false) else
        (bif Nat.beq m 230 then false else false)) else
       (bif Nat.blt m 232 then (bif Nat.beq m 231 then false else false) else
        (bif Nat.beq m 232 then false else false))) else
      (bif Nat.blt m 235 then (bif Nat.blt m 234 then (bif Nat.beq m 233 then false else false) else
        (bif Nat.beq m 234 then false else false)) else
       (bif Nat.blt m 236 then (bif Nat.beq m 235 then false else false) else
        (bif Nat.beq m 236 then false else false)))) else
     (bif Nat.blt m 241 then (bif Nat.blt m 239 then (bif Nat.blt m 238 then (bif Nat.beq m 237 then true else false) else
        (bif Nat.beq m 238 then false else false)) else
       (bif Nat.blt m 240 then (bif Nat.beq m 239 then false else false) else
        (bif Nat.beq m 240 then false else false))) else
      (bif Nat.blt m 243 then (bif Nat.blt m 242 then (bif Nat.beq m 241 then false else false) else
        (bif Nat.beq m 242 then false else false)) else
       (bif Nat.blt m 244 then (bif Nat.beq m 243 then false else false) else
        (bif Nat.beq m 244 then false else false))))) else
    (bif Nat.blt m 253 then (bif Nat.blt m 249 then (bif Nat.blt m 247 then (bif Nat.blt m 246 then (bif Nat.beq m 245 then false else false) else
        (bif Nat.beq m 246 then false else false)) else
       (bif Nat.blt m 248 then (bif Nat.beq m 247 then false else false) else
        (bif Nat.beq m 248 then true else false))) else
      (bif Nat.blt m 251 then (bif Nat.blt m 250 then (bif Nat.beq m 249 then false else false) else
        (bif Nat.beq m 250 then false else false)) else
       (bif Nat.blt m 252 then (bif Nat.beq m 251 then false else false) else
        (bif Nat.beq m 252 then false else false)))) else
     (bif Nat.blt m 257 then (bif Nat.blt m 255 then (bif Nat.blt m 254 then (bif Nat.beq m 253 then true else false) else
        (bif Nat.beq m 254 then true else false)) else
       (bif Nat.blt m 256 then (bif Nat.beq m 255 then false else false) else
        (bif Nat.beq m 256 then false else false))) else
      (bif Nat.blt m 259 then (bif Nat.blt m 258 then (bif Nat.beq m 257 then false else false) else
        (bif Nat.beq m 258 then false else false)) else
       (bif Nat.blt m 260 then (bif Nat.beq m 259 then false else false) else
        (bif Nat.blt m 261 then (bif Nat.beq m 260 then false else false) else
         (bif Nat.beq m 261 then false else false))))))))))
/-- called by invokespecial alone: constructors, and what is called above an overriding method -/
noncomputable def zspc (m : Nat) : Bool :=
 (bif Nat.blt m 131 then (bif Nat.blt m 65 then (bif Nat.blt m 32 then (bif Nat.blt m 16 then (bif Nat.blt m 8 then (bif Nat.blt m 4 then (bif Nat.blt m 2 then (bif Nat.blt m 1 then (bif Nat.beq m 0 then true else false) else
        (bif Nat.beq m 1 then false else false)) else
       (bif Nat.blt m 3 then (bif Nat.beq m 2 then false else false) else
        (bif Nat.beq m 3 then false else false))) else
      (bif Nat.blt m 6 then (bif Nat.blt m 5 then (bif Nat.beq m 4 then false else false) else
        (bif Nat.beq m 5 then false else false)) else
       (bif Nat.blt m 7 then (bif Nat.beq m 6 then false else false) else
        (bif Nat.beq m 7 then false else false)))) else
     (bif Nat.blt m 12 then (bif Nat.blt m 10 then (bif Nat.blt m 9 then (bif Nat.beq m 8 then false else false) else
        (bif Nat.beq m 9 then false else false)) else
       (bif Nat.blt m 11 then (bif Nat.beq m 10 then false else false) else
        (bif Nat.beq m 11 then false else false))) else
      (bif Nat.blt m 14 then (bif Nat.blt m 13 then (bif Nat.beq m 12 then false else false) else
        (bif Nat.beq m 13 then true else false)) else
       (bif Nat.blt m 15 then (bif Nat.beq m 14 then false else false) else
        (bif Nat.beq m 15 then true else false))))) else
    (bif Nat.blt m 24 then (bif Nat.blt m 20 then (bif Nat.blt m 18 then (bif Nat.blt m 17 then (bif Nat.beq m 16 then false else false) else
        (bif Nat.beq m 17 then false else false)) else
       (bif Nat.blt m 19 then (bif Nat.beq m 18 then false else false) else
        (bif Nat.beq m 19 then false else false))) else
      (bif Nat.blt m 22 then (bif Nat.blt m 21 then (bif Nat.beq m 20 then false else false) else
        (bif Nat.beq m 21 then false else false)) else
       (bif Nat.blt m 23 then (bif Nat.beq m 22 then false else false) else
        (bif Nat.beq m 23 then true else false)))) else
     (bif Nat.blt m 28 then (bif Nat.blt m 26 then (bif Nat.blt m 25 then (bif Nat.beq m 24 then false else false) else
        (bif Nat.beq m 25 then false else false)) else
       (bif Nat.blt m 27 then (bif Nat.beq m 26 then false else false) else
        (bif Nat.beq m 27 then false else false))) else
      (bif Nat.blt m 30 then (bif Nat.blt m 29 then (bif Nat.beq m 28 then false else false) else
        (bif Nat.beq m 29 then false else false)) else
       (bif Nat.blt m 31 then (bif Nat.beq m 30 then false else false) else
        (bif Nat.beq m 31 then false else false)))))) else
   (bif Nat.blt m 48 then (bif Nat.blt m 40 then (bif Nat.blt m 36 then (bif Nat.blt m 34 then (bif Nat.blt m 33 then (bif Nat.beq m 32 then false else false) else
        (bif Nat.beq m 33 then false else false)) else
       (bif Nat.blt m 35 then (bif Nat.beq m 34 then false else false) else
        (bif Nat.beq m 35 then true else false))) else
      (bif Nat.blt m 38 then (bif Nat.blt m 37 then (bif Nat.beq m 36 then false else false) else
        (bif Nat.beq m 37 then false else false)) else
       (bif Nat.blt m 39 then (bif Nat.beq m 38 then false else false) else
        (bif Nat.beq m 39 then false else false)))) else
     (bif Nat.blt m 44 then (bif Nat.blt m 42 then (bif Nat.blt m 41 then (bif Nat.beq m 40 then false else false) else
        (bif Nat.beq m 41 then false else false)) else
       (bif Nat.blt m 43 then (bif Nat.beq m 42 then false else false) else
        (bif Nat.beq m 43 then false else false))) else
      (bif Nat.blt m 46 then (bif Nat.blt m 45 then (bif Nat.beq m 44 then false else false) else
        (bif Nat.beq m 45 then false else false)) else
       (bif Nat.blt m 47 then (bif Nat.beq m 46 then false else false) else
        (bif Nat.beq m 47 then false else false))))) else
    (bif Nat.blt m 56 then (bif Nat.blt m 52 then (bif Nat.blt m 50 then (bif Nat.blt m 49 then (bif Nat.beq m 48 then false else false) else
        (bif Nat.beq m 49 then false else false)) else
       (bif Nat.blt m 51 then (bif Nat.beq m 50 then false else false) else
        (bif Nat.beq m 51 then false else false))) else
      (bif Nat.blt m 54 then (bif Nat.blt m 53 then (bif Nat.beq m 52 then false else false) else
        (bif Nat.beq m 53 then false else false)) else
       (bif Nat.blt m 55 then (bif Nat.beq m 54 then false else false) else
        (bif Nat.beq m 55 then false else false)))) else
     (bif Nat.blt m 60 then (bif Nat.blt m 58 then (bif Nat.blt m 57 then (bif Nat.beq m 56 then false else false) else
        (bif Nat.beq m 57 then true else false)) else
       (bif Nat.blt m 59 then (bif Nat.beq m 58 then false else false) else
        (bif Nat.beq m 59 then false else false))) else
      (bif Nat.blt m 62 then (bif Nat.blt m 61 then (bif Nat.beq m 60 then false else false) else
        (bif Nat.beq m 61 then false else false)) else
       (bif Nat.blt m 63 then (bif Nat.beq m 62 then false else false) else
        (bif Nat.blt m 64 then (bif Nat.beq m 63 then false else false) else
         (bif Nat.beq m 64 then false else false)))))))) else
  (bif Nat.blt m 98 then (bif Nat.blt m 81 then (bif Nat.blt m 73 then (bif Nat.blt m 69 then (bif Nat.blt m 67 then (bif Nat.blt m 66 then (bif Nat.beq m 65 then false else false) else
        (bif Nat.beq m 66 then false else false)) else
       (bif Nat.blt m 68 then (bif Nat.beq m 67 then false else false) else
        (bif Nat.beq m 68 then false else false))) else
      (bif Nat.blt m 71 then (bif Nat.blt m 70 then (bif Nat.beq m 69 then false else false) else
        (bif Nat.beq m 70 then false else false)) else
       (bif Nat.blt m 72 then (bif Nat.beq m 71 then false else false) else
        (bif Nat.beq m 72 then false else false)))) else
     (bif Nat.blt m 77 then (bif Nat.blt m 75 then (bif Nat.blt m 74 then (bif Nat.beq m 73 then false else false) else
        (bif Nat.beq m 74 then false else false)) else
       (bif Nat.blt m 76 then (bif Nat.beq m 75 then false else false) else
        (bif Nat.beq m 76 then false else false))) else
      (bif Nat.blt m 79 then (bif Nat.blt m 78 then (bif Nat.beq m 77 then false else false) else
        (bif Nat.beq m 78 then false else false)) else
       (bif Nat.blt m 80 then (bif Nat.beq m 79 then false else false) else
        (bif Nat.beq m 80 then true else false))))) else
    (bif Nat.blt m 89 then (bif Nat.blt m 85 then (bif Nat.blt m 83 then (bif Nat.blt m 82 then (bif Nat.beq m 81 then true else false) else
        (bif Nat.beq m 82 then false else false)) else
       (bif Nat.blt m 84 then (bif Nat.beq m 83 then false else false) else
        (bif Nat.beq m 84 then false else false))) else
      (bif Nat.blt m 87 then (bif Nat.blt m 86 then (bif Nat.beq m 85 then false else false) else
        (bif Nat.beq m 86 then false else false)) else
       (bif Nat.blt m 88 then (bif Nat.beq m 87 then false else false) else
        (bif Nat.beq m 88 then false else false)))) else
     (bif Nat.blt m 93 then (bif Nat.blt m 91 then (bif Nat.blt m 90 then (bif Nat.beq m 89 then false else false) else
        (bif Nat.beq m 90 then false else false)) else
       (bif Nat.blt m 92 then (bif Nat.beq m 91 then false else false) else
        (bif Nat.beq m 92 then true else false))) else
      (bif Nat.blt m 95 then (bif Nat.blt m 94 then (bif Nat.beq m 93 then false else false) else
        (bif Nat.beq m 94 then false else false)) else
       (bif Nat.blt m 96 then (bif Nat.beq m 95 then false else false) else
        (bif Nat.blt m 97 then (bif Nat.beq m 96 then false else false) else
         (bif Nat.beq m 97 then false else false))))))) else
   (bif Nat.blt m 114 then (bif Nat.blt m 106 then (bif Nat.blt m 102 then (bif Nat.blt m 100 then (bif Nat.blt m 99 then (bif Nat.beq m 98 then false else false) else
        (bif Nat.beq m 99 then false else false)) else
       (bif Nat.blt m 101 then (bif Nat.beq m 100 then false else false) else
        (bif Nat.beq m 101 then false else false))) else
      (bif Nat.blt m 104 then (bif Nat.blt m 103 then (bif Nat.beq m 102 then false else false) else
        (bif Nat.beq m 103 then false else false)) else
       (bif Nat.blt m 105 then (bif Nat.beq m 104 then false else false) else
        (bif Nat.beq m 105 then false else false)))) else
     (bif Nat.blt m 110 then (bif Nat.blt m 108 then (bif Nat.blt m 107 then (bif Nat.beq m 106 then false else false) else
        (bif Nat.beq m 107 then false else false)) else
       (bif Nat.blt m 109 then (bif Nat.beq m 108 then false else false) else
        (bif Nat.beq m 109 then false else false))) else
      (bif Nat.blt m 112 then (bif Nat.blt m 111 then (bif Nat.beq m 110 then false else false) else
        (bif Nat.beq m 111 then false else false)) else
       (bif Nat.blt m 113 then (bif Nat.beq m 112 then false else false) else
        (bif Nat.beq m 113 then true else false))))) else
    (bif Nat.blt m 122 then (bif Nat.blt m 118 then (bif Nat.blt m 116 then (bif Nat.blt m 115 then (bif Nat.beq m 114 then false else false) else
        (bif Nat.beq m 115 then false else false)) else
       (bif Nat.blt m 117 then (bif Nat.beq m 116 then false else false) else
        (bif Nat.beq m 117 then false else false))) else
      (bif Nat.blt m 120 then (bif Nat.blt m 119 then (bif Nat.beq m 118 then false else false) else
        (bif Nat.beq m 119 then false else false)) else
       (bif Nat.blt m 121 then (bif Nat.beq m 120 then false else false) else
        (bif Nat.beq m 121 then false else false)))) else
     (bif Nat.blt m 126 then (bif Nat.blt m 124 then (bif Nat.blt m 123 then (bif Nat.beq m 122 then false else false) else
        (bif Nat.beq m 123 then false else false)) else
       (bif Nat.blt m 125 then (bif Nat.beq m 124 then true else false) else
        (bif Nat.beq m 125 then false else false))) else
      (bif Nat.blt m 128 then (bif Nat.blt m 127 then (bif Nat.beq m 126 then false else false) else
        (bif Nat.beq m 127 then false else false)) else
       (bif Nat.blt m 129 then (bif Nat.beq m 128 then false else false) else
        (bif Nat.blt m 130 then (bif Nat.beq m 129 then false else false) else
         (bif Nat.beq m 130 then false else false))))))))) else
 (bif Nat.blt m 196 then (bif Nat.blt m 163 then (bif Nat.blt m 147 then (bif Nat.blt m 139 then (bif Nat.blt m 135 then (bif Nat.blt m 133 then (bif Nat.blt m 132 then (bif Nat.beq m 131 then false else false) else
        (bif Nat.beq m 132 then false else false)) else
       (bif Nat.blt m 134 then (bif Nat.beq m 133 then false else false) else
        (bif Nat.beq m 134 then false else false))) else
      (bif Nat.blt m 137 then (bif Nat.blt m 136 then (bif Nat.beq m 135 then false else false) else
        (bif Nat.beq m 136 then false else false)) else
       (bif Nat.blt m 138 then (bif Nat.beq m 137 then false else false) else
        (bif Nat.beq m 138 then false else false)))) else
     (bif Nat.blt m 143 then (bif Nat.blt m 141 then (bif Nat.blt m 140 then (bif Nat.beq m 139 then false else false) else
        (bif Nat.beq m 140 then false else false)) else
       (bif Nat.blt m 142 then (bif Nat.beq m 141 then false else false) else
        (bif Nat.beq m 142 then false else false))) else
      (bif Nat.blt m 145 then (bif Nat.blt m 144 then (bif Nat.beq m 143 then false else false) else
        (bif Nat.beq m 144 then false else false)) else
       (bif Nat.blt m 146 then (bif Nat.beq m 145 then false else false) else
        (bif Nat.beq m 146 then true else false))))) else
    (bif Nat.blt m 155 then (bif Nat.blt m 151 then (bif Nat.blt m 149 then (bif Nat.blt m 148 then (bif Nat.beq m 147 then false else false) else
        (bif Nat.beq m 148 then false else false)) else
       (bif Nat.blt m 150 then (bif Nat.beq m 149 then false else false) else
        (bif Nat.beq m 150 then false else false))) else
      (bif Nat.blt m 153 then (bif Nat.blt m 152 then (bif Nat.beq m 151 then false else false) else
        (bif Nat.beq m 152 then false else false)) else
       (bif Nat.blt m 154 then (bif Nat.beq m 153 then false else false) else
        (bif Nat.beq m 154 then false else false)))) else
     (bif Nat.blt m 159 then (bif Nat.blt m 157 then (bif Nat.blt m 156 then (bif Nat.beq m 155 then false else false) else
        (bif Nat.beq m 156 then false else false)) else
       (bif Nat.blt m 158 then (bif Nat.beq m 157 then false else false) else
        (bif Nat.beq m 158 then false else false))) else
      (bif Nat.blt m 161 then (bif Nat.blt m 160 then (bif Nat.beq m 159 then false else false) else
        (bif Nat.beq m 160 then false else false)) else
       (bif Nat.blt m 162 then (bif Nat.beq m 161 then false else false) else
        (bif Nat.beq m 162 then false else false)))))) else
   (bif Nat.blt m 179 then (bif Nat.blt m 171 then (bif Nat.blt m 167 then (bif Nat.blt m 165 then (bif Nat.blt m 164 then (bif Nat.beq m 163 then false else false) else
        (bif Nat.beq m 164 then false else false)) else
       (bif Nat.blt m 166 then (bif Nat.beq m 165 then false else false) else
        (bif Nat.beq m 166 then false else false))) else
      (bif Nat.blt m 169 then (bif Nat.blt m 168 then (bif Nat.beq m 167 then false else false) else
        (bif Nat.beq m 168 then false else false)) else
       (bif Nat.blt m 170 then (bif Nat.beq m 169 then false else false) else
        (bif Nat.beq m 170 then false else false)))) else
     (bif Nat.blt m 175 then (bif Nat.blt m 173 then (bif Nat.blt m 172 then (bif Nat.beq m 171 then false else false) else
        (bif Nat.beq m 172 then false else false)) else
       (bif Nat.blt m 174 then (bif Nat.beq m 173 then false else false) else
        (bif Nat.beq m 174 then false else false))) else
      (bif Nat.blt m 177 then (bif Nat.blt m 176 then (bif Nat.beq m 175 then false else false) else
        (bif Nat.beq m 176 then false else false)) else
       (bif Nat.blt m 178 then (bif Nat.beq m 177 then false else false) else
        (bif Nat.beq m 178 then false else false))))) else
    (bif Nat.blt m 187 then (bif Nat.blt m 183 then (bif Nat.blt m 181 then (bif Nat.blt m 180 then (bif Nat.beq m 179 then false else false) else
        (bif Nat.beq m 180 then false else false)) else
       (bif Nat.blt m 182 then (bif Nat.beq m 181 then false else false) else
        (bif Nat.beq m 182 then false else false))) else
      (bif Nat.blt m 185 then (bif Nat.blt m 184 then (bif Nat.beq m 183 then false else false) else
        (bif Nat.beq m 184 then false else false)) else
       (bif Nat.blt m 186 then (bif Nat.beq m 185 then false else false) else
        (bif Nat.beq m 186 then false else false)))) else
     (bif Nat.blt m 191 then (bif Nat.blt m 189 then (bif Nat.blt m 188 then (bif Nat.beq m 187 then false else false) else
        (bif Nat.beq m 188 then false else false)) else
       (bif Nat.blt m 190 then (bif Nat.beq m 189 then false else false) else
        (bif Nat.beq m 190 then false else false))) else
      (bif Nat.blt m 193 then (bif Nat.blt m 192 then (bif Nat.beq m 191 then false else false) else
        (bif Nat.beq m 192 then false else false)) else
       (bif Nat.blt m 194 then (bif Nat.beq m 193 then false else false) else
        (bif Nat.blt m 195 then (bif Nat.beq m 194 then false else false) else
         (bif Nat.beq m 195 then false else false)))))))) else
  (bif Nat.blt m 229 then (bif Nat.blt m 212 then (bif Nat.blt m 204 then (bif Nat.blt m 200 then (bif Nat.blt m 198 then (bif Nat.blt m 197 then (bif Nat.beq m 196 then false else false) else
        (bif Nat.beq m 197 then false else false)) else
       (bif Nat.blt m 199 then (bif Nat.beq m 198 then false else false) else
        (bif Nat.beq m 199 then false else false))) else
      (bif Nat.blt m 202 then (bif Nat.blt m 201 then (bif Nat.beq m 200 then false else false) else
        (bif Nat.beq m 201 then false else false)) else
       (bif Nat.blt m 203 then (bif Nat.beq m 202 then false else false) else
        (bif Nat.beq m 203 then false else false)))) else
     (bif Nat.blt m 208 then (bif Nat.blt m 206 then (bif Nat.blt m 205 then (bif Nat.beq m 204 then false else false) else
        (bif Nat.beq m 205 then false else false)) else
       (bif Nat.blt m 207 then (bif Nat.beq m 206 then true else false) else
        (bif Nat.beq m 207 then false else false))) else
      (bif Nat.blt m 210 then (bif Nat.blt m 209 then (bif Nat.beq m 208 then false else false) else
        (bif Nat.beq m 209 then false else false)) else
       (bif Nat.blt m 211 then (bif Nat.beq m 210 then false else false) else
        (bif Nat.beq m 211 then false else false))))) else
    (bif Nat.blt m 220 then (bif Nat.blt m 216 then (bif Nat.blt m 214 then (bif Nat.blt m 213 then (bif Nat.beq m 212 then false else false) else
        (bif Nat.beq m 213 then false else false)) else
       (bif Nat.blt m 215 then (bif Nat.beq m 214 then false else false) else
        (bif Nat.beq m 215 then false else false))) else
      (bif Nat.blt m 218 then (bif Nat.blt m 217 then (bif Nat.beq m 216 then false else false) else
        (bif Nat.beq m 217 then false else false)) else
       (bif Nat.blt m 219 then (bif Nat.beq m 218 then false else false) else
        (bif Nat.beq m 219 then false else false)))) else
     (bif Nat.blt m 224 then (bif Nat.blt m 222 then (bif Nat.blt m 221 then (bif Nat.beq m 220 then false else false) else
        (bif Nat.beq m 221 then false else false)) else
       (bif Nat.blt m 223 then (bif Nat.beq m 222 then false else false) else
        (bif Nat.beq m 223 then false else false))) else
      (bif Nat.blt m 226 then (bif Nat.blt m 225 then (bif Nat.beq m 224 then false else false) else
        (bif Nat.beq m 225 then false else false)) else
       (bif Nat.blt m 227 then (bif Nat.beq m 226 then false else false) else
        (bif Nat.blt m 228 then (bif Nat.beq m 227 then false else false) else
         (bif Nat.beq m 228 then false else false))))))) else
   (bif Nat.blt m 245 then (bif Nat.blt m 237 then (bif Nat.blt m 233 then (bif Nat.blt m 231 then (bif Nat.blt m 230 then (bif Nat.beq m 229 then false else false) else
        (bif Nat.beq m 230 then false else false)) else
       (bif Nat.blt m 232 then (bif Nat.beq m 231 then false else false) else
        (bif Nat.beq m 232 then false else false))) else
      (bif Nat.blt m 235 then (bif Nat.blt m 234 then (bif Nat.beq m 233 then false else false) else
        (bif Nat.beq m 234 then false else false)) else
       (bif Nat.blt m 236 then (bif Nat.beq m 235 then false else false) else
        (bif Nat.beq m 236 then false else false)))) else
     (bif Nat.blt m 241 then (bif Nat.blt m 239 then (bif Nat.blt m 238 then (bif Nat.beq m 237 then true else false) else
        (bif Nat.beq m 238 then true else false)) else
       (bif Nat.blt m 240 then (bif Nat.beq m 239 then false else false) else
        (bif Nat.beq m 240 then false else false))) else
      (bif Nat.blt m 243 then (bif Nat.blt m 242 then (bif Nat.beq m 241 then false else false) else
        (bif Nat.beq m 242 then false else false)) else
       (bif Nat.blt m 244 then (bif Nat.beq m 243 then false else false) else
        (bif Nat.beq m 244 then true else false))))) else
    (bif Nat.blt m 253 then (bif Nat.blt m 249 then (bif Nat.blt m 247 then (bif Nat.blt m 246 then (bif Nat.beq m 245 then true else false) else
        (bif Nat.beq m 246 then false else false)) else
       (bif Nat.blt m 248 then (bif Nat.beq m 247 then true else false) else
        (bif Nat.beq m 248 then true else false))) else
      (bif Nat.blt m 251 then (bif Nat.blt m 250 then (bif Nat.beq m 249 then false else false) else
        (bif Nat.beq m 250 then false else false)) else
       (bif Nat.blt m 252 then (bif Nat.beq m 251 then false else false) else
        (bif Nat.beq m 252 then false else false)))) else
     (bif Nat.blt m 257 then (bif Nat.blt m 255 then (bif Nat.blt m 254 then (bif Nat.beq m 253 then true else false) else
        (bif Nat.beq m 254 then true else false)) else
       (bif Nat.blt m 256 then (bif Nat.beq m 255 then false else false) else
        (bif Nat.beq m 256 then false else false))) else
      (bif Nat.blt m 259 then (bif Nat.blt m 258 then (bif Nat.beq m 257 then false else false) else
        (bif Nat.beq m 258 then false else false)) else
       (bif Nat.blt m 260 then (bif Nat.beq m 259 then false else false) else
        (bif Nat.blt m 261 then (bif Nat.beq m 260 then false else false) else
         (bif Nat.beq m 261 then false else false))))))))))
noncomputable def zcpF_0 (i : Nat) : Option Nat :=
 (bif Nat.blt i 26 then (bif Nat.blt i 18 then (bif Nat.blt i 15 then (bif Nat.beq i 9 then some 3 else none) else
   (bif Nat.beq i 15 then some 4 else none)) else
  (bif Nat.blt i 22 then (bif Nat.beq i 18 then some 0 else none) else
   (bif Nat.beq i 22 then some 1 else none))) else
 (bif Nat.blt i 64 then (bif Nat.blt i 48 then (bif Nat.beq i 26 then some 2 else none) else
   (bif Nat.beq i 48 then some 448 else none)) else
  (bif Nat.blt i 83 then (bif Nat.beq i 64 then some 257 else none) else
   (bif Nat.blt i 117 then (bif Nat.beq i 83 then some 256 else none) else
    (bif Nat.beq i 117 then some 449 else none)))))
noncomputable def zcpF_1 (i : Nat) : Option Nat :=
 (bif Nat.beq i 19 then some 64 else none)
noncomputable def zcpF_2 (i : Nat) : Option Nat :=
 (bif Nat.blt i 20 then (bif Nat.blt i 17 then (bif Nat.beq i 11 then some 130 else none) else
  (bif Nat.beq i 17 then some 131 else none)) else
 (bif Nat.blt i 27 then (bif Nat.beq i 20 then some 132 else none) else
  (bif Nat.blt i 31 then (bif Nat.beq i 27 then some 128 else none) else
   (bif Nat.beq i 31 then some 129 else none))))
noncomputable def zcpF_3 (i : Nat) : Option Nat :=
 (bif Nat.blt i 49 then (bif Nat.blt i 28 then (bif Nat.blt i 20 then (bif Nat.beq i 9 then some 195 else none) else
   (bif Nat.blt i 24 then (bif Nat.beq i 20 then some 194 else none) else
    (bif Nat.beq i 24 then some 192 else none))) else
  (bif Nat.blt i 39 then (bif Nat.beq i 28 then some 193 else none) else
   (bif Nat.blt i 45 then (bif Nat.beq i 39 then some 384 else none) else
    (bif Nat.beq i 45 then some 196 else none)))) else
 (bif Nat.blt i 65 then (bif Nat.blt i 53 then (bif Nat.beq i 49 then some 197 else none) else
   (bif Nat.blt i 56 then (bif Nat.beq i 53 then some 198 else none) else
    (bif Nat.beq i 56 then some 199 else none))) else
  (bif Nat.blt i 82 then (bif Nat.blt i 71 then (bif Nat.beq i 65 then some 576 else none) else
    (bif Nat.beq i 71 then some 577 else none)) else
   (bif Nat.blt i 111 then (bif Nat.beq i 82 then some 385 else none) else
    (bif Nat.beq i 111 then some 256 else none)))))
noncomputable def zcpF_4 (i : Nat) : Option Nat :=
 (bif Nat.blt i 33 then (bif Nat.blt i 21 then (bif Nat.blt i 15 then (bif Nat.beq i 9 then some 259 else none) else
   (bif Nat.blt i 18 then (bif Nat.beq i 15 then some 260 else none) else
    (bif Nat.beq i 18 then some 261 else none))) else
  (bif Nat.blt i 27 then (bif Nat.blt i 24 then (bif Nat.beq i 21 then some 262 else none) else
    (bif Nat.beq i 24 then some 263 else none)) else
   (bif Nat.blt i 30 then (bif Nat.beq i 27 then some 264 else none) else
    (bif Nat.beq i 30 then some 265 else none)))) else
 (bif Nat.blt i 45 then (bif Nat.blt i 36 then (bif Nat.beq i 33 then some 266 else none) else
   (bif Nat.blt i 41 then (bif Nat.beq i 36 then some 267 else none) else
    (bif Nat.beq i 41 then some 268 else none))) else
  (bif Nat.blt i 57 then (bif Nat.blt i 49 then (bif Nat.beq i 45 then some 269 else none) else
    (bif Nat.beq i 49 then some 256 else none)) else
   (bif Nat.blt i 90 then (bif Nat.beq i 57 then some 257 else none) else
    (bif Nat.beq i 90 then some 258 else none)))))
noncomputable def zcpF_5 (i : Nat) : Option Nat :=
 (bif Nat.blt i 83 then (bif Nat.blt i 22 then (bif Nat.blt i 15 then (bif Nat.beq i 9 then some 323 else none) else
   (bif Nat.blt i 18 then (bif Nat.beq i 15 then some 324 else none) else
    (bif Nat.beq i 18 then some 325 else none))) else
  (bif Nat.blt i 30 then (bif Nat.blt i 26 then (bif Nat.beq i 22 then some 320 else none) else
    (bif Nat.beq i 26 then some 321 else none)) else
   (bif Nat.blt i 34 then (bif Nat.beq i 30 then some 322 else none) else
    (bif Nat.beq i 34 then some 256 else none)))) else
 (bif Nat.blt i 116 then (bif Nat.blt i 90 then (bif Nat.beq i 83 then some 263 else none) else
   (bif Nat.blt i 113 then (bif Nat.beq i 90 then some 448 else none) else
    (bif Nat.beq i 113 then some 326 else none))) else
  (bif Nat.blt i 123 then (bif Nat.blt i 120 then (bif Nat.beq i 116 then some 327 else none) else
    (bif Nat.beq i 120 then some 328 else none)) else
   (bif Nat.blt i 162 then (bif Nat.beq i 123 then some 329 else none) else
    (bif Nat.beq i 162 then some 449 else none)))))
noncomputable def zcpF_6 (i : Nat) : Option Nat :=
 (bif Nat.blt i 32 then (bif Nat.blt i 18 then (bif Nat.blt i 15 then (bif Nat.beq i 11 then some 389 else none) else
   (bif Nat.beq i 15 then some 390 else none)) else
  (bif Nat.blt i 28 then (bif Nat.beq i 18 then some 386 else none) else
   (bif Nat.beq i 28 then some 387 else none))) else
 (bif Nat.blt i 38 then (bif Nat.blt i 35 then (bif Nat.beq i 32 then some 384 else none) else
   (bif Nat.beq i 35 then some 388 else none)) else
  (bif Nat.blt i 44 then (bif Nat.beq i 38 then some 391 else none) else
   (bif Nat.blt i 47 then (bif Nat.beq i 44 then some 385 else none) else
    (bif Nat.beq i 47 then some 392 else none)))))
noncomputable def zcpF_7 (i : Nat) : Option Nat :=
 (bif Nat.blt i 46 then (bif Nat.blt i 27 then (bif Nat.blt i 18 then (bif Nat.blt i 15 then (bif Nat.beq i 9 then some 450 else none) else
    (bif Nat.beq i 15 then some 451 else none)) else
   (bif Nat.blt i 21 then (bif Nat.beq i 18 then some 452 else none) else
    (bif Nat.blt i 24 then (bif Nat.beq i 21 then some 453 else none) else
     (bif Nat.beq i 24 then some 454 else none)))) else
  (bif Nat.blt i 37 then (bif Nat.blt i 33 then (bif Nat.beq i 27 then some 455 else none) else
    (bif Nat.beq i 33 then some 456 else none)) else
   (bif Nat.blt i 40 then (bif Nat.beq i 37 then some 458 else none) else
    (bif Nat.blt i 43 then (bif Nat.beq i 40 then some 459 else none) else
     (bif Nat.beq i 43 then some 460 else none))))) else
 (bif Nat.blt i 87 then (bif Nat.blt i 63 then (bif Nat.blt i 59 then (bif Nat.beq i 46 then some 457 else none) else
    (bif Nat.beq i 59 then some 462 else none)) else
   (bif Nat.blt i 67 then (bif Nat.beq i 63 then some 463 else none) else
    (bif Nat.blt i 72 then (bif Nat.beq i 67 then some 576 else none) else
     (bif Nat.beq i 72 then some 64 else none)))) else
  (bif Nat.blt i 95 then (bif Nat.blt i 90 then (bif Nat.beq i 87 then some 448 else none) else
    (bif Nat.blt i 93 then (bif Nat.beq i 90 then some 577 else none) else
     (bif Nat.beq i 93 then some 449 else none))) else
   (bif Nat.blt i 105 then (bif Nat.beq i 95 then some 256 else none) else
    (bif Nat.blt i 162 then (bif Nat.beq i 105 then some 257 else none) else
     (bif Nat.beq i 162 then some 461 else none))))))
noncomputable def zcpF_8 (i : Nat) : Option Nat :=
 (bif Nat.blt i 34 then (bif Nat.blt i 20 then (bif Nat.blt i 16 then (bif Nat.beq i 13 then some 514 else none) else
   (bif Nat.beq i 16 then some 515 else none)) else
  (bif Nat.blt i 24 then (bif Nat.beq i 20 then some 512 else none) else
   (bif Nat.beq i 24 then some 513 else none))) else
 (bif Nat.blt i 58 then (bif Nat.blt i 44 then (bif Nat.beq i 34 then some 577 else none) else
   (bif Nat.beq i 44 then some 257 else none)) else
  (bif Nat.blt i 111 then (bif Nat.beq i 58 then some 256 else none) else
   (bif Nat.beq i 111 then some 64 else none))))
noncomputable def zcpF_9 (i : Nat) : Option Nat :=
 (bif Nat.blt i 24 then (bif Nat.blt i 17 then (bif Nat.beq i 11 then some 579 else none) else
  (bif Nat.blt i 20 then (bif Nat.beq i 17 then some 580 else none) else
   (bif Nat.beq i 20 then some 581 else none))) else
 (bif Nat.blt i 31 then (bif Nat.blt i 27 then (bif Nat.beq i 24 then some 582 else none) else
   (bif Nat.beq i 27 then some 578 else none)) else
  (bif Nat.blt i 34 then (bif Nat.beq i 31 then some 576 else none) else
   (bif Nat.beq i 34 then some 577 else none))))
noncomputable def zcpF_11 (i : Nat) : Option Nat :=
 (bif Nat.blt i 109 then (bif Nat.blt i 53 then (bif Nat.blt i 30 then (bif Nat.blt i 13 then (bif Nat.beq i 9 then some 640 else none) else
    (bif Nat.blt i 21 then (bif Nat.beq i 13 then some 642 else none) else
     (bif Nat.beq i 21 then some 646 else none))) else
   (bif Nat.blt i 39 then (bif Nat.beq i 30 then some 647 else none) else
    (bif Nat.blt i 46 then (bif Nat.beq i 39 then some 648 else none) else
     (bif Nat.beq i 46 then some 653 else none)))) else
  (bif Nat.blt i 78 then (bif Nat.blt i 60 then (bif Nat.beq i 53 then some 654 else none) else
    (bif Nat.blt i 69 then (bif Nat.beq i 60 then some 649 else none) else
     (bif Nat.beq i 69 then some 650 else none))) else
   (bif Nat.blt i 85 then (bif Nat.beq i 78 then some 651 else none) else
    (bif Nat.blt i 97 then (bif Nat.beq i 85 then some 652 else none) else
     (bif Nat.beq i 97 then some 641 else none))))) else
 (bif Nat.blt i 186 then (bif Nat.blt i 136 then (bif Nat.blt i 130 then (bif Nat.beq i 109 then some 645 else none) else
    (bif Nat.blt i 133 then (bif Nat.beq i 130 then some 256 else none) else
     (bif Nat.beq i 133 then some 644 else none))) else
   (bif Nat.blt i 139 then (bif Nat.beq i 136 then some 257 else none) else
    (bif Nat.blt i 152 then (bif Nat.beq i 139 then some 258 else none) else
     (bif Nat.beq i 152 then some 128 else none)))) else
  (bif Nat.blt i 314 then (bif Nat.blt i 190 then (bif Nat.beq i 186 then some 448 else none) else
    (bif Nat.blt i 294 then (bif Nat.beq i 190 then some 449 else none) else
     (bif Nat.beq i 294 then some 643 else none))) else
   (bif Nat.blt i 358 then (bif Nat.blt i 316 then (bif Nat.beq i 314 then some 576 else none) else
     (bif Nat.beq i 316 then some 577 else none)) else
    (bif Nat.blt i 359 then (bif Nat.beq i 358 then some 192 else none) else
     (bif Nat.beq i 359 then some 193 else none))))))
noncomputable def zcpF_19 (i : Nat) : Option Nat :=
 (bif Nat.blt i 22 then (bif Nat.beq i 15 then some 704 else none) else
 (bif Nat.blt i 79 then (bif Nat.beq i 22 then some 705 else none) else
  (bif Nat.beq i 79 then some 707 else none)))
noncomputable def zcpF_20 (i : Nat) : Option Nat :=
 (bif Nat.blt i 15 then (bif Nat.beq i 9 then some 768 else none) else
 (bif Nat.blt i 1048 then (bif Nat.beq i 15 then some 769 else none) else
  (bif Nat.beq i 1048 then some 706 else none)))
noncomputable def zcpF (o i : Nat) : Option Nat :=
 (bif Nat.blt o 6 then (bif Nat.blt o 3 then (bif Nat.blt o 1 then (bif Nat.beq o 0 then zcpF_0 i else none) else
   (bif Nat.blt o 2 then (bif Nat.beq o 1 then zcpF_1 i else none) else
    (bif Nat.beq o 2 then zcpF_2 i else none))) else
  (bif Nat.blt o 4 then (bif Nat.beq o 3 then zcpF_3 i else none) else
   (bif Nat.blt o 5 then (bif Nat.beq o 4 then zcpF_4 i else none) else
    (bif Nat.beq o 5 then zcpF_5 i else none)))) else
 (bif Nat.blt o 9 then (bif Nat.blt o 7 then (bif Nat.beq o 6 then zcpF_6 i else none) else
   (bif Nat.blt o 8 then (bif Nat.beq o 7 then zcpF_7 i else none) else
    (bif Nat.beq o 8 then zcpF_8 i else none))) else
  (bif Nat.blt o 19 then (bif Nat.blt o 11 then (bif Nat.beq o 9 then zcpF_9 i else none) else
    (bif Nat.beq o 11 then zcpF_11 i else none)) else
   (bif Nat.blt o 20 then (bif Nat.beq o 19 then zcpF_19 i else none) else
    (bif Nat.beq o 20 then zcpF_20 i else none)))))
noncomputable def zcpG_7 (i : Nat) : Option Nat :=
 (bif Nat.blt i 175 then (bif Nat.beq i 172 then some (zVB + 1) else none) else
 (bif Nat.beq i 175 then some (zVB + 2) else none))
noncomputable def zcpG_19 (i : Nat) : Option Nat :=
 (bif Nat.beq i 18 then some 0 else none)
noncomputable def zcpG_20 (i : Nat) : Option Nat :=
 (bif Nat.beq i 38 then some 0 else none)
noncomputable def zcpG_21 (i : Nat) : Option Nat :=
 (bif Nat.blt i 87 then (bif Nat.beq i 83 then some (zVB + 56) else none) else
 (bif Nat.beq i 87 then some (zVB + 57) else none))
noncomputable def zcpG (o i : Nat) : Option Nat :=
 (bif Nat.blt o 20 then (bif Nat.blt o 19 then (bif Nat.beq o 7 then zcpG_7 i else none) else
  (bif Nat.beq o 19 then zcpG_19 i else none)) else
 (bif Nat.blt o 21 then (bif Nat.beq o 20 then zcpG_20 i else none) else
  (bif Nat.beq o 21 then zcpG_21 i else none)))
noncomputable def zcpM_0 (i : Nat) : Option Nat :=
 (bif Nat.blt i 86 then (bif Nat.blt i 52 then (bif Nat.blt i 36 then (bif Nat.blt i 30 then (bif Nat.beq i 3 then some 901 else none) else
    (bif Nat.beq i 30 then some 94 else none)) else
   (bif Nat.blt i 39 then (bif Nat.beq i 36 then some 58 else none) else
    (bif Nat.blt i 42 then (bif Nat.beq i 39 then some 2 else none) else
     (bif Nat.beq i 42 then some 228 else none)))) else
  (bif Nat.blt i 72 then (bif Nat.blt i 58 then (bif Nat.beq i 52 then some 39 else none) else
    (bif Nat.blt i 68 then (bif Nat.beq i 58 then some 4 else none) else
     (bif Nat.beq i 68 then some 53 else none))) else
   (bif Nat.blt i 76 then (bif Nat.beq i 72 then some 7 else none) else
    (bif Nat.blt i 79 then (bif Nat.beq i 76 then some 107 else none) else
     (bif Nat.beq i 79 then some 3 else none))))) else
 (bif Nat.blt i 106 then (bif Nat.blt i 96 then (bif Nat.blt i 89 then (bif Nat.beq i 86 then some 36 else none) else
    (bif Nat.blt i 92 then (bif Nat.beq i 89 then some 103 else none) else
     (bif Nat.beq i 92 then some 54 else none))) else
   (bif Nat.blt i 99 then (bif Nat.beq i 96 then some 5 else none) else
    (bif Nat.blt i 103 then (bif Nat.beq i 99 then some 6 else none) else
     (bif Nat.beq i 103 then some 41 else none)))) else
  (bif Nat.blt i 120 then (bif Nat.blt i 110 then (bif Nat.beq i 106 then some 8 else none) else
    (bif Nat.blt i 114 then (bif Nat.beq i 110 then some 60 else none) else
     (bif Nat.beq i 114 then some 108 else none))) else
   (bif Nat.blt i 123 then (bif Nat.beq i 120 then some 50 else none) else
    (bif Nat.blt i 126 then (bif Nat.beq i 123 then some 63 else none) else
     (bif Nat.beq i 126 then some 104 else none))))))
noncomputable def zcpM_1 (i : Nat) : Option Nat :=
 (bif Nat.blt i 7 then (bif Nat.beq i 1 then some 901 else none) else
 (bif Nat.blt i 13 then (bif Nat.beq i 7 then some 223 else none) else
  (bif Nat.beq i 13 then some 906 else none)))
noncomputable def zcpM_2 (i : Nat) : Option Nat :=
 (bif Nat.blt i 40 then (bif Nat.blt i 24 then (bif Nat.beq i 3 then some 901 else none) else
  (bif Nat.blt i 34 then (bif Nat.beq i 24 then some 124 else none) else
   (bif Nat.beq i 34 then some 225 else none))) else
 (bif Nat.blt i 44 then (bif Nat.beq i 40 then some 134 else none) else
  (bif Nat.blt i 47 then (bif Nat.beq i 44 then some 224 else none) else
   (bif Nat.beq i 47 then some 18 else none))))
noncomputable def zcpM_3 (i : Nat) : Option Nat :=
 (bif Nat.blt i 108 then (bif Nat.blt i 77 then (bif Nat.blt i 35 then (bif Nat.blt i 17 then (bif Nat.beq i 3 then some 901 else none) else
    (bif Nat.blt i 31 then (bif Nat.beq i 17 then some 81 else none) else
     (bif Nat.beq i 31 then some 82 else none))) else
   (bif Nat.blt i 62 then (bif Nat.blt i 42 then (bif Nat.beq i 35 then some 28 else none) else
     (bif Nat.beq i 42 then some 27 else none)) else
    (bif Nat.blt i 74 then (bif Nat.beq i 62 then some 26 else none) else
     (bif Nat.beq i 74 then some 30 else none)))) else
  (bif Nat.blt i 96 then (bif Nat.blt i 88 then (bif Nat.blt i 85 then (bif Nat.beq i 77 then some 49 else none) else
     (bif Nat.beq i 85 then some 91 else none)) else
    (bif Nat.blt i 92 then (bif Nat.beq i 88 then some 36 else none) else
     (bif Nat.beq i 92 then some 144 else none))) else
   (bif Nat.blt i 102 then (bif Nat.blt i 99 then (bif Nat.beq i 96 then some 31 else none) else
     (bif Nat.beq i 99 then some 33 else none)) else
    (bif Nat.blt i 105 then (bif Nat.beq i 102 then some 47 else none) else
     (bif Nat.beq i 105 then some 40 else none))))) else
 (bif Nat.blt i 134 then (bif Nat.blt i 121 then (bif Nat.blt i 114 then (bif Nat.beq i 108 then some 48 else none) else
    (bif Nat.blt i 118 then (bif Nat.beq i 114 then some 38 else none) else
     (bif Nat.beq i 118 then some 32 else none))) else
   (bif Nat.blt i 128 then (bif Nat.blt i 125 then (bif Nat.beq i 121 then some 45 else none) else
     (bif Nat.beq i 125 then some 46 else none)) else
    (bif Nat.blt i 131 then (bif Nat.beq i 128 then some 125 else none) else
     (bif Nat.beq i 131 then some 127 else none)))) else
  (bif Nat.blt i 148 then (bif Nat.blt i 141 then (bif Nat.blt i 137 then (bif Nat.beq i 134 then some 145 else none) else
     (bif Nat.beq i 137 then some 44 else none)) else
    (bif Nat.blt i 145 then (bif Nat.beq i 141 then some 29 else none) else
     (bif Nat.beq i 145 then some 142 else none))) else
   (bif Nat.blt i 156 then (bif Nat.blt i 153 then (bif Nat.beq i 148 then some 143 else none) else
     (bif Nat.beq i 153 then some 13 else none)) else
    (bif Nat.blt i 159 then (bif Nat.beq i 156 then some 140 else none) else
     (bif Nat.beq i 159 then some 141 else none))))))
noncomputable def zcpM_4 (i : Nat) : Option Nat :=
 (bif Nat.blt i 70 then (bif Nat.blt i 60 then (bif Nat.blt i 53 then (bif Nat.beq i 3 then some 901 else none) else
   (bif Nat.beq i 53 then some 37 else none)) else
  (bif Nat.blt i 64 then (bif Nat.beq i 60 then some 47 else none) else
   (bif Nat.blt i 67 then (bif Nat.beq i 64 then some 48 else none) else
    (bif Nat.beq i 67 then some 36 else none)))) else
 (bif Nat.blt i 79 then (bif Nat.blt i 73 then (bif Nat.beq i 70 then some 50 else none) else
   (bif Nat.blt i 76 then (bif Nat.beq i 73 then some 41 else none) else
    (bif Nat.beq i 76 then some 40 else none))) else
  (bif Nat.blt i 83 then (bif Nat.beq i 79 then some 39 else none) else
   (bif Nat.blt i 86 then (bif Nat.beq i 83 then some 42 else none) else
    (bif Nat.beq i 86 then some 43 else none)))))
noncomputable def zcpM_5 (i : Nat) : Option Nat :=
 (bif Nat.blt i 97 then (bif Nat.blt i 66 then (bif Nat.blt i 50 then (bif Nat.blt i 40 then (bif Nat.beq i 3 then some 901 else none) else
    (bif Nat.blt i 46 then (bif Nat.beq i 40 then some 224 else none) else
     (bif Nat.beq i 46 then some 36 else none))) else
   (bif Nat.blt i 57 then (bif Nat.blt i 54 then (bif Nat.beq i 50 then some 59 else none) else
     (bif Nat.beq i 54 then some 62 else none)) else
    (bif Nat.blt i 62 then (bif Nat.beq i 57 then some 105 else none) else
     (bif Nat.beq i 62 then some 61 else none)))) else
  (bif Nat.blt i 76 then (bif Nat.blt i 70 then (bif Nat.beq i 66 then some 102 else none) else
    (bif Nat.blt i 73 then (bif Nat.beq i 70 then some 41 else none) else
     (bif Nat.beq i 73 then some 60 else none))) else
   (bif Nat.blt i 86 then (bif Nat.blt i 79 then (bif Nat.beq i 76 then some 40 else none) else
     (bif Nat.beq i 79 then some 37 else none)) else
    (bif Nat.blt i 94 then (bif Nat.beq i 86 then some 39 else none) else
     (bif Nat.beq i 94 then some 104 else none))))) else
 (bif Nat.blt i 136 then (bif Nat.blt i 107 then (bif Nat.blt i 100 then (bif Nat.beq i 97 then some 65 else none) else
    (bif Nat.blt i 103 then (bif Nat.beq i 100 then some 71 else none) else
     (bif Nat.beq i 103 then some 54 else none))) else
   (bif Nat.blt i 126 then (bif Nat.blt i 110 then (bif Nat.beq i 107 then some 50 else none) else
     (bif Nat.beq i 110 then some 63 else none)) else
    (bif Nat.blt i 132 then (bif Nat.beq i 126 then some 131 else none) else
     (bif Nat.beq i 132 then some 69 else none)))) else
  (bif Nat.blt i 145 then (bif Nat.blt i 139 then (bif Nat.beq i 136 then some 70 else none) else
    (bif Nat.blt i 142 then (bif Nat.beq i 139 then some 72 else none) else
     (bif Nat.beq i 142 then some 223 else none))) else
   (bif Nat.blt i 153 then (bif Nat.blt i 150 then (bif Nat.beq i 145 then some 68 else none) else
     (bif Nat.beq i 150 then some 67 else none)) else
    (bif Nat.blt i 159 then (bif Nat.beq i 153 then some 228 else none) else
     (bif Nat.beq i 159 then some 79 else none))))))
noncomputable def zcpM_6 (i : Nat) : Option Nat :=
 (bif Nat.blt i 60 then (bif Nat.blt i 50 then (bif Nat.blt i 22 then (bif Nat.beq i 3 then some 901 else none) else
   (bif Nat.blt i 41 then (bif Nat.beq i 22 then some 224 else none) else
    (bif Nat.beq i 41 then some 83 else none))) else
  (bif Nat.blt i 53 then (bif Nat.beq i 50 then some 91 else none) else
   (bif Nat.blt i 57 then (bif Nat.beq i 53 then some 84 else none) else
    (bif Nat.beq i 57 then some 85 else none)))) else
 (bif Nat.blt i 73 then (bif Nat.blt i 64 then (bif Nat.beq i 60 then some 86 else none) else
   (bif Nat.blt i 67 then (bif Nat.beq i 64 then some 87 else none) else
    (bif Nat.beq i 67 then some 137 else none))) else
  (bif Nat.blt i 76 then (bif Nat.beq i 73 then some 88 else none) else
   (bif Nat.blt i 79 then (bif Nat.beq i 76 then some 89 else none) else
    (bif Nat.beq i 79 then some 90 else none)))))
noncomputable def zcpM_7 (i : Nat) : Option Nat :=
 (bif Nat.blt i 128 then (bif Nat.blt i 101 then (bif Nat.blt i 76 then (bif Nat.blt i 50 then (bif Nat.beq i 3 then some 901 else none) else
    (bif Nat.blt i 54 then (bif Nat.beq i 50 then some 93 else none) else
     (bif Nat.beq i 54 then some 13 else none))) else
   (bif Nat.blt i 80 then (bif Nat.beq i 76 then some 14 else none) else
    (bif Nat.blt i 83 then (bif Nat.beq i 80 then some 95 else none) else
     (bif Nat.beq i 83 then some 99 else none)))) else
  (bif Nat.blt i 115 then (bif Nat.blt i 108 then (bif Nat.beq i 101 then some 100 else none) else
    (bif Nat.blt i 111 then (bif Nat.beq i 108 then some 101 else none) else
     (bif Nat.beq i 111 then some 36 else none))) else
   (bif Nat.blt i 121 then (bif Nat.blt i 118 then (bif Nat.beq i 115 then some 46 else none) else
     (bif Nat.beq i 118 then some 128 else none)) else
    (bif Nat.blt i 124 then (bif Nat.beq i 121 then some 51 else none) else
     (bif Nat.beq i 124 then some 52 else none))))) else
 (bif Nat.blt i 148 then (bif Nat.blt i 138 then (bif Nat.blt i 131 then (bif Nat.beq i 128 then some 129 else none) else
    (bif Nat.blt i 134 then (bif Nat.beq i 131 then some 130 else none) else
     (bif Nat.beq i 134 then some 106 else none))) else
   (bif Nat.blt i 142 then (bif Nat.beq i 138 then some 103 else none) else
    (bif Nat.blt i 146 then (bif Nat.beq i 142 then some 104 else none) else
     (bif Nat.beq i 146 then some 107 else none)))) else
  (bif Nat.blt i 165 then (bif Nat.blt i 151 then (bif Nat.beq i 148 then some 108 else none) else
    (bif Nat.blt i 156 then (bif Nat.beq i 151 then some 223 else none) else
     (bif Nat.beq i 156 then some 226 else none))) else
   (bif Nat.blt i 180 then (bif Nat.blt i 168 then (bif Nat.beq i 165 then some 224 else none) else
     (bif Nat.beq i 168 then some 96 else none)) else
    (bif Nat.blt i 183 then (bif Nat.beq i 180 then some 97 else none) else
     (bif Nat.beq i 183 then some 98 else none))))))
noncomputable def zcpM_8 (i : Nat) : Option Nat :=
 (bif Nat.blt i 74 then (bif Nat.blt i 54 then (bif Nat.blt i 40 then (bif Nat.blt i 28 then (bif Nat.beq i 3 then some 901 else none) else
    (bif Nat.beq i 28 then some 232 else none)) else
   (bif Nat.blt i 50 then (bif Nat.beq i 40 then some 115 else none) else
    (bif Nat.beq i 50 then some 53 else none))) else
  (bif Nat.blt i 64 then (bif Nat.blt i 61 then (bif Nat.beq i 54 then some 129 else none) else
    (bif Nat.beq i 61 then some 36 else none)) else
   (bif Nat.blt i 68 then (bif Nat.beq i 64 then some 119 else none) else
    (bif Nat.blt i 71 then (bif Nat.beq i 68 then some 50 else none) else
     (bif Nat.beq i 71 then some 120 else none))))) else
 (bif Nat.blt i 93 then (bif Nat.blt i 83 then (bif Nat.blt i 78 then (bif Nat.beq i 74 then some 123 else none) else
    (bif Nat.beq i 78 then some 52 else none)) else
   (bif Nat.blt i 86 then (bif Nat.beq i 83 then some 116 else none) else
    (bif Nat.blt i 90 then (bif Nat.beq i 86 then some 54 else none) else
     (bif Nat.beq i 90 then some 121 else none)))) else
  (bif Nat.blt i 101 then (bif Nat.blt i 98 then (bif Nat.beq i 93 then some 109 else none) else
    (bif Nat.beq i 98 then some 117 else none)) else
   (bif Nat.blt i 105 then (bif Nat.beq i 101 then some 122 else none) else
    (bif Nat.blt i 108 then (bif Nat.beq i 105 then some 111 else none) else
     (bif Nat.beq i 108 then some 118 else none))))))
noncomputable def zcpM_9 (i : Nat) : Option Nat :=
 (bif Nat.blt i 37 then (bif Nat.beq i 3 then some 901 else none) else
 (bif Nat.beq i 37 then some 126 else none))
noncomputable def zcpM_10 (i : Nat) : Option Nat :=
 (bif Nat.blt i 71 then (bif Nat.blt i 67 then (bif Nat.beq i 63 then some 138 else none) else
  (bif Nat.beq i 67 then some 139 else none)) else
 (bif Nat.blt i 77 then (bif Nat.beq i 71 then some 904 else none) else
  (bif Nat.blt i 81 then (bif Nat.beq i 77 then some 905 else none) else
   (bif Nat.beq i 81 then some 223 else none))))
noncomputable def zcpM_11 (i : Nat) : Option Nat :=
 (bif Nat.blt i 222 then (bif Nat.blt i 149 then (bif Nat.blt i 91 then (bif Nat.blt i 52 then (bif Nat.blt i 27 then (bif Nat.blt i 18 then (bif Nat.beq i 3 then some 901 else none) else
      (bif Nat.beq i 18 then some 13 else none)) else
     (bif Nat.blt i 36 then (bif Nat.beq i 27 then some 23 else none) else
      (bif Nat.blt i 45 then (bif Nat.beq i 36 then some 15 else none) else
       (bif Nat.beq i 45 then some 35 else none)))) else
    (bif Nat.blt i 66 then (bif Nat.blt i 59 then (bif Nat.beq i 52 then some 124 else none) else
      (bif Nat.beq i 59 then some 92 else none)) else
     (bif Nat.blt i 75 then (bif Nat.beq i 66 then some 57 else none) else
      (bif Nat.blt i 84 then (bif Nat.beq i 75 then some 0 else none) else
       (bif Nat.beq i 84 then some 113 else none))))) else
   (bif Nat.blt i 118 then (bif Nat.blt i 105 then (bif Nat.blt i 101 then (bif Nat.beq i 91 then some 136 else none) else
      (bif Nat.beq i 101 then some 24 else none)) else
     (bif Nat.blt i 112 then (bif Nat.beq i 105 then some 25 else none) else
      (bif Nat.blt i 117 then (bif Nat.beq i 112 then some 1 else none) else
       (bif Nat.beq i 117 then some 911 else none)))) else
    (bif Nat.blt i 127 then (bif Nat.blt i 121 then (bif Nat.beq i 118 then some 159 else none) else
      (bif Nat.blt i 124 then (bif Nat.beq i 121 then some 161 else none) else
       (bif Nat.beq i 124 then some 162 else none))) else
     (bif Nat.blt i 142 then (bif Nat.beq i 127 then some 16 else none) else
      (bif Nat.blt i 146 then (bif Nat.beq i 142 then some 132 else none) else
       (bif Nat.beq i 146 then some 10 else none)))))) else
  (bif Nat.blt i 180 then (bif Nat.blt i 165 then (bif Nat.blt i 156 then (bif Nat.blt i 155 then (bif Nat.beq i 149 then some 11 else none) else
      (bif Nat.beq i 155 then some 910 else none)) else
     (bif Nat.blt i 159 then (bif Nat.beq i 156 then some 165 else none) else
      (bif Nat.blt i 162 then (bif Nat.beq i 159 then some 36 else none) else
       (bif Nat.beq i 162 then some 109 else none)))) else
    (bif Nat.blt i 171 then (bif Nat.blt i 168 then (bif Nat.beq i 165 then some 55 else none) else
      (bif Nat.beq i 168 then some 41 else none)) else
     (bif Nat.blt i 174 then (bif Nat.beq i 171 then some 56 else none) else
      (bif Nat.blt i 177 then (bif Nat.beq i 174 then some 40 else none) else
       (bif Nat.beq i 177 then some 131 else none))))) else
   (bif Nat.blt i 203 then (bif Nat.blt i 193 then (bif Nat.blt i 183 then (bif Nat.beq i 180 then some 166 else none) else
      (bif Nat.beq i 183 then some 46 else none)) else
     (bif Nat.blt i 196 then (bif Nat.beq i 193 then some 168 else none) else
      (bif Nat.blt i 199 then (bif Nat.beq i 196 then some 53 else none) else
       (bif Nat.beq i 199 then some 103 else none)))) else
    (bif Nat.blt i 213 then (bif Nat.blt i 206 then (bif Nat.beq i 203 then some 107 else none) else
      (bif Nat.blt i 209 then (bif Nat.beq i 206 then some 170 else none) else
       (bif Nat.beq i 209 then some 108 else none))) else
     (bif Nat.blt i 216 then (bif Nat.beq i 213 then some 4 else none) else
      (bif Nat.blt i 219 then (bif Nat.beq i 216 then some 39 else none) else
       (bif Nat.beq i 219 then some 173 else none))))))) else
 (bif Nat.blt i 306 then (bif Nat.blt i 261 then (bif Nat.blt i 240 then (bif Nat.blt i 231 then (bif Nat.blt i 225 then (bif Nat.beq i 222 then some 9 else none) else
      (bif Nat.beq i 225 then some 226 else none)) else
     (bif Nat.blt i 234 then (bif Nat.beq i 231 then some 110 else none) else
      (bif Nat.blt i 237 then (bif Nat.beq i 234 then some 60 else none) else
       (bif Nat.beq i 237 then some 75 else none)))) else
    (bif Nat.blt i 248 then (bif Nat.blt i 244 then (bif Nat.beq i 240 then some 76 else none) else
      (bif Nat.beq i 244 then some 77 else none)) else
     (bif Nat.blt i 254 then (bif Nat.beq i 248 then some 78 else none) else
      (bif Nat.blt i 258 then (bif Nat.beq i 254 then some 64 else none) else
       (bif Nat.beq i 258 then some 66 else none))))) else
   (bif Nat.blt i 281 then (bif Nat.blt i 269 then (bif Nat.blt i 265 then (bif Nat.beq i 261 then some 73 else none) else
      (bif Nat.beq i 265 then some 74 else none)) else
     (bif Nat.blt i 272 then (bif Nat.beq i 269 then some 182 else none) else
      (bif Nat.blt i 276 then (bif Nat.beq i 272 then some 183 else none) else
       (bif Nat.beq i 276 then some 12 else none)))) else
    (bif Nat.blt i 291 then (bif Nat.blt i 284 then (bif Nat.beq i 281 then some 114 else none) else
      (bif Nat.blt i 287 then (bif Nat.beq i 284 then some 117 else none) else
       (bif Nat.beq i 287 then some 122 else none))) else
     (bif Nat.blt i 300 then (bif Nat.beq i 291 then some 188 else none) else
      (bif Nat.blt i 303 then (bif Nat.beq i 300 then some 95 else none) else
       (bif Nat.beq i 303 then some 99 else none)))))) else
  (bif Nat.blt i 346 then (bif Nat.blt i 328 then (bif Nat.blt i 318 then (bif Nat.blt i 310 then (bif Nat.beq i 306 then some 193 else none) else
      (bif Nat.beq i 310 then some 17 else none)) else
     (bif Nat.blt i 322 then (bif Nat.beq i 318 then some 125 else none) else
      (bif Nat.blt i 325 then (bif Nat.beq i 322 then some 127 else none) else
       (bif Nat.beq i 325 then some 112 else none)))) else
    (bif Nat.blt i 335 then (bif Nat.blt i 332 then (bif Nat.beq i 328 then some 133 else none) else
      (bif Nat.beq i 332 then some 135 else none)) else
     (bif Nat.blt i 338 then (bif Nat.beq i 335 then some 200 else none) else
      (bif Nat.blt i 342 then (bif Nat.beq i 338 then some 18 else none) else
       (bif Nat.beq i 342 then some 19 else none))))) else
   (bif Nat.blt i 364 then (bif Nat.blt i 352 then (bif Nat.blt i 349 then (bif Nat.beq i 346 then some 20 else none) else
      (bif Nat.beq i 349 then some 21 else none)) else
     (bif Nat.blt i 355 then (bif Nat.beq i 352 then some 22 else none) else
      (bif Nat.blt i 360 then (bif Nat.beq i 355 then some 34 else none) else
       (bif Nat.beq i 360 then some 52 else none)))) else
    (bif Nat.blt i 371 then (bif Nat.blt i 367 then (bif Nat.beq i 364 then some 14 else none) else
      (bif Nat.blt i 369 then (bif Nat.beq i 367 then some 129 else none) else
       (bif Nat.beq i 369 then some 130 else none))) else
     (bif Nat.blt i 376 then (bif Nat.beq i 371 then some 128 else none) else
      (bif Nat.blt i 382 then (bif Nat.beq i 376 then some 138 else none) else
       (bif Nat.beq i 382 then some 913 else none))))))))
noncomputable def zcpM_12 (i : Nat) : Option Nat :=
 (bif Nat.blt i 50 then (bif Nat.blt i 23 then (bif Nat.blt i 7 then (bif Nat.beq i 1 then some 248 else none) else
   (bif Nat.beq i 7 then some 237 else none)) else
  (bif Nat.blt i 29 then (bif Nat.beq i 23 then some 180 else none) else
   (bif Nat.beq i 29 then some 238 else none))) else
 (bif Nat.blt i 137 then (bif Nat.blt i 53 then (bif Nat.beq i 50 then some 244 else none) else
   (bif Nat.beq i 53 then some 245 else none)) else
  (bif Nat.blt i 343 then (bif Nat.beq i 137 then some 253 else none) else
   (bif Nat.beq i 343 then some 247 else none))))
noncomputable def zcpM_13 (i : Nat) : Option Nat :=
 (bif Nat.blt i 193 then (bif Nat.blt i 103 then (bif Nat.blt i 50 then (bif Nat.blt i 30 then (bif Nat.blt i 18 then (bif Nat.blt i 14 then (bif Nat.beq i 8 then some 920 else none) else
      (bif Nat.beq i 14 then some 921 else none)) else
     (bif Nat.blt i 24 then (bif Nat.beq i 18 then some 158 else none) else
      (bif Nat.beq i 24 then some 209 else none))) else
    (bif Nat.blt i 41 then (bif Nat.blt i 38 then (bif Nat.beq i 30 then some 160 else none) else
      (bif Nat.beq i 38 then some 201 else none)) else
     (bif Nat.blt i 47 then (bif Nat.beq i 41 then some 197 else none) else
      (bif Nat.beq i 47 then some 198 else none)))) else
   (bif Nat.blt i 62 then (bif Nat.blt i 56 then (bif Nat.blt i 53 then (bif Nat.beq i 50 then some 192 else none) else
      (bif Nat.beq i 53 then some 194 else none)) else
     (bif Nat.blt i 59 then (bif Nat.beq i 56 then some 195 else none) else
      (bif Nat.beq i 59 then some 196 else none))) else
    (bif Nat.blt i 78 then (bif Nat.blt i 72 then (bif Nat.beq i 62 then some 207 else none) else
      (bif Nat.beq i 72 then some 180 else none)) else
     (bif Nat.blt i 81 then (bif Nat.beq i 78 then some 189 else none) else
      (bif Nat.blt i 100 then (bif Nat.beq i 81 then some 203 else none) else
       (bif Nat.beq i 100 then some 80 else none)))))) else
  (bif Nat.blt i 159 then (bif Nat.blt i 142 then (bif Nat.blt i 135 then (bif Nat.blt i 129 then (bif Nat.beq i 103 then some 216 else none) else
      (bif Nat.beq i 129 then some 204 else none)) else
     (bif Nat.blt i 139 then (bif Nat.beq i 135 then some 149 else none) else
      (bif Nat.beq i 139 then some 150 else none))) else
    (bif Nat.blt i 148 then (bif Nat.blt i 145 then (bif Nat.beq i 142 then some 163 else none) else
      (bif Nat.beq i 145 then some 164 else none)) else
     (bif Nat.blt i 152 then (bif Nat.beq i 148 then some 171 else none) else
      (bif Nat.blt i 156 then (bif Nat.beq i 152 then some 167 else none) else
       (bif Nat.beq i 156 then some 169 else none))))) else
   (bif Nat.blt i 176 then (bif Nat.blt i 165 then (bif Nat.blt i 162 then (bif Nat.beq i 159 then some 174 else none) else
      (bif Nat.beq i 162 then some 172 else none)) else
     (bif Nat.blt i 171 then (bif Nat.beq i 165 then some 226 else none) else
      (bif Nat.beq i 171 then some 227 else none))) else
    (bif Nat.blt i 182 then (bif Nat.blt i 179 then (bif Nat.beq i 176 then some 152 else none) else
      (bif Nat.beq i 179 then some 153 else none)) else
     (bif Nat.blt i 186 then (bif Nat.beq i 182 then some 157 else none) else
      (bif Nat.blt i 190 then (bif Nat.beq i 186 then some 151 else none) else
       (bif Nat.beq i 190 then some 191 else none))))))) else
 (bif Nat.blt i 252 then (bif Nat.blt i 219 then (bif Nat.blt i 205 then (bif Nat.blt i 199 then (bif Nat.blt i 196 then (bif Nat.beq i 193 then some 190 else none) else
      (bif Nat.beq i 196 then some 187 else none)) else
     (bif Nat.blt i 202 then (bif Nat.beq i 199 then some 179 else none) else
      (bif Nat.beq i 202 then some 186 else none))) else
    (bif Nat.blt i 211 then (bif Nat.blt i 208 then (bif Nat.beq i 205 then some 185 else none) else
      (bif Nat.beq i 208 then some 175 else none)) else
     (bif Nat.blt i 215 then (bif Nat.beq i 211 then some 177 else none) else
      (bif Nat.beq i 215 then some 219 else none)))) else
   (bif Nat.blt i 234 then (bif Nat.blt i 225 then (bif Nat.blt i 222 then (bif Nat.beq i 219 then some 176 else none) else
      (bif Nat.beq i 222 then some 178 else none)) else
     (bif Nat.blt i 231 then (bif Nat.beq i 225 then some 233 else none) else
      (bif Nat.beq i 231 then some 154 else none))) else
    (bif Nat.blt i 241 then (bif Nat.blt i 238 then (bif Nat.beq i 234 then some 155 else none) else
      (bif Nat.beq i 238 then some 156 else none)) else
     (bif Nat.blt i 247 then (bif Nat.beq i 241 then some 235 else none) else
      (bif Nat.blt i 248 then (bif Nat.beq i 247 then some 206 else none) else
       (bif Nat.beq i 248 then some 211 else none)))))) else
  (bif Nat.blt i 279 then (bif Nat.blt i 263 then (bif Nat.blt i 258 then (bif Nat.blt i 255 then (bif Nat.beq i 252 then some 181 else none) else
      (bif Nat.beq i 255 then some 184 else none)) else
     (bif Nat.blt i 260 then (bif Nat.beq i 258 then some 213 else none) else
      (bif Nat.beq i 260 then some 147 else none))) else
    (bif Nat.blt i 269 then (bif Nat.blt i 265 then (bif Nat.beq i 263 then some 214 else none) else
      (bif Nat.beq i 265 then some 221 else none)) else
     (bif Nat.blt i 271 then (bif Nat.beq i 269 then some 222 else none) else
      (bif Nat.blt i 276 then (bif Nat.beq i 271 then some 223 else none) else
       (bif Nat.beq i 276 then some 212 else none))))) else
   (bif Nat.blt i 288 then (bif Nat.blt i 283 then (bif Nat.blt i 280 then (bif Nat.beq i 279 then some 146 else none) else
      (bif Nat.beq i 280 then some 215 else none)) else
     (bif Nat.blt i 285 then (bif Nat.beq i 283 then some 208 else none) else
      (bif Nat.beq i 285 then some 202 else none))) else
    (bif Nat.blt i 300 then (bif Nat.blt i 296 then (bif Nat.beq i 288 then some 217 else none) else
      (bif Nat.beq i 296 then some 220 else none)) else
     (bif Nat.blt i 304 then (bif Nat.beq i 300 then some 218 else none) else
      (bif Nat.blt i 308 then (bif Nat.beq i 304 then some 210 else none) else
       (bif Nat.beq i 308 then some 199 else none))))))))
noncomputable def zcpM_15 (i : Nat) : Option Nat :=
 (bif Nat.beq i 311 then some 257 else none)
noncomputable def zcpM_16 (i : Nat) : Option Nat :=
 (bif Nat.blt i 310 then (bif Nat.blt i 304 then (bif Nat.beq i 150 then some 930 else none) else
  (bif Nat.beq i 304 then some 224 else none)) else
 (bif Nat.blt i 339 then (bif Nat.beq i 310 then some 931 else none) else
  (bif Nat.blt i 343 then (bif Nat.beq i 339 then some 230 else none) else
   (bif Nat.beq i 343 then some 231 else none))))
noncomputable def zcpM_17 (i : Nat) : Option Nat :=
 (bif Nat.blt i 74 then (bif Nat.beq i 59 then some 234 else none) else
 (bif Nat.beq i 74 then some 902 else none))
noncomputable def zcpM_18 (i : Nat) : Option Nat :=
 (bif Nat.blt i 134 then (bif Nat.beq i 122 then some 236 else none) else
 (bif Nat.beq i 134 then some 903 else none))
noncomputable def zcpM_19 (i : Nat) : Option Nat :=
 (bif Nat.blt i 108 then (bif Nat.blt i 43 then (bif Nat.blt i 32 then (bif Nat.beq i 3 then some 901 else none) else
   (bif Nat.blt i 40 then (bif Nat.beq i 32 then some 904 else none) else
    (bif Nat.beq i 40 then some 909 else none))) else
  (bif Nat.blt i 100 then (bif Nat.blt i 83 then (bif Nat.beq i 43 then some 148 else none) else
    (bif Nat.beq i 83 then some 241 else none)) else
   (bif Nat.blt i 104 then (bif Nat.beq i 100 then some 239 else none) else
    (bif Nat.beq i 104 then some 240 else none)))) else
 (bif Nat.blt i 245 then (bif Nat.blt i 191 then (bif Nat.blt i 114 then (bif Nat.beq i 108 then some 906 else none) else
    (bif Nat.beq i 114 then some 258 else none)) else
   (bif Nat.blt i 208 then (bif Nat.beq i 191 then some 260 else none) else
    (bif Nat.beq i 208 then some 242 else none))) else
  (bif Nat.blt i 397 then (bif Nat.blt i 248 then (bif Nat.beq i 245 then some 255 else none) else
    (bif Nat.beq i 248 then some 256 else none)) else
   (bif Nat.blt i 399 then (bif Nat.beq i 397 then some 243 else none) else
    (bif Nat.beq i 399 then some 908 else none)))))
noncomputable def zcpM_20 (i : Nat) : Option Nat :=
 (bif Nat.blt i 492 then (bif Nat.blt i 212 then (bif Nat.blt i 54 then (bif Nat.beq i 1 then some 901 else none) else
   (bif Nat.beq i 54 then some 229 else none)) else
  (bif Nat.blt i 335 then (bif Nat.beq i 212 then some 930 else none) else
   (bif Nat.blt i 489 then (bif Nat.beq i 335 then some 250 else none) else
    (bif Nat.beq i 489 then some 254 else none)))) else
 (bif Nat.blt i 549 then (bif Nat.blt i 495 then (bif Nat.beq i 492 then some 252 else none) else
   (bif Nat.beq i 495 then some 259 else none)) else
  (bif Nat.blt i 552 then (bif Nat.beq i 549 then some 205 else none) else
   (bif Nat.blt i 1047 then (bif Nat.beq i 552 then some 246 else none) else
    (bif Nat.beq i 1047 then some 241 else none)))))
noncomputable def zcpM_22 (i : Nat) : Option Nat :=
 (bif Nat.beq i 194 then some 223 else none)
noncomputable def zcpM_23 (i : Nat) : Option Nat :=
 (bif Nat.beq i 9 then some 932 else none)
noncomputable def zcpM (o i : Nat) : Option Nat :=
 (bif Nat.blt o 11 then (bif Nat.blt o 5 then (bif Nat.blt o 2 then (bif Nat.blt o 1 then (bif Nat.beq o 0 then zcpM_0 i else none) else
    (bif Nat.beq o 1 then zcpM_1 i else none)) else
   (bif Nat.blt o 3 then (bif Nat.beq o 2 then zcpM_2 i else none) else
    (bif Nat.blt o 4 then (bif Nat.beq o 3 then zcpM_3 i else none) else
     (bif Nat.beq o 4 then zcpM_4 i else none)))) else
  (bif Nat.blt o 8 then (bif Nat.blt o 6 then (bif Nat.beq o 5 then zcpM_5 i else none) else
    (bif Nat.blt o 7 then (bif Nat.beq o 6 then zcpM_6 i else none) else
     (bif Nat.beq o 7 then zcpM_7 i else none))) else
   (bif Nat.blt o 9 then (bif Nat.beq o 8 then zcpM_8 i else none) else
    (bif Nat.blt o 10 then (bif Nat.beq o 9 then zcpM_9 i else none) else
     (bif Nat.beq o 10 then zcpM_10 i else none))))) else
 (bif Nat.blt o 17 then (bif Nat.blt o 13 then (bif Nat.blt o 12 then (bif Nat.beq o 11 then zcpM_11 i else none) else
    (bif Nat.beq o 12 then zcpM_12 i else none)) else
   (bif Nat.blt o 15 then (bif Nat.beq o 13 then zcpM_13 i else none) else
    (bif Nat.blt o 16 then (bif Nat.beq o 15 then zcpM_15 i else none) else
     (bif Nat.beq o 16 then zcpM_16 i else none)))) else
  (bif Nat.blt o 20 then (bif Nat.blt o 18 then (bif Nat.beq o 17 then zcpM_17 i else none) else
    (bif Nat.blt o 19 then (bif Nat.beq o 18 then zcpM_18 i else none) else
     (bif Nat.beq o 19 then zcpM_19 i else none))) else
   (bif Nat.blt o 22 then (bif Nat.beq o 20 then zcpM_20 i else none) else
    (bif Nat.blt o 23 then (bif Nat.beq o 22 then zcpM_22 i else none) else
     (bif Nat.beq o 23 then zcpM_23 i else none))))))
noncomputable def zcpC_2 (i : Nat) : Option Nat :=
 (bif Nat.beq i 9 then some 9 else none)
noncomputable def zcpC_3 (i : Nat) : Option Nat :=
 (bif Nat.blt i 151 then (bif Nat.beq i 15 then some 6 else none) else
 (bif Nat.beq i 151 then some 1 else none))
noncomputable def zcpC_4 (i : Nat) : Option Nat :=
 (bif Nat.beq i 39 then some 1 else none)
noncomputable def zcpC_7 (i : Nat) : Option Nat :=
 (bif Nat.beq i 31 then some 1 else none)
noncomputable def zcpC_9 (i : Nat) : Option Nat :=
 (bif Nat.beq i 9 then some 1 else none)
noncomputable def zcpC_11 (i : Nat) : Option Nat :=
 (bif Nat.blt i 64 then (bif Nat.blt i 43 then (bif Nat.blt i 25 then (bif Nat.beq i 16 then some 1 else none) else
   (bif Nat.blt i 34 then (bif Nat.beq i 25 then some 3 else none) else
    (bif Nat.beq i 34 then some 2 else none))) else
  (bif Nat.blt i 50 then (bif Nat.beq i 43 then some 4 else none) else
   (bif Nat.blt i 57 then (bif Nat.beq i 50 then some 9 else none) else
    (bif Nat.beq i 57 then some 7 else none)))) else
 (bif Nat.blt i 115 then (bif Nat.blt i 73 then (bif Nat.beq i 64 then some 5 else none) else
   (bif Nat.blt i 82 then (bif Nat.beq i 73 then some 0 else none) else
    (bif Nat.beq i 82 then some 8 else none))) else
  (bif Nat.blt i 153 then (bif Nat.beq i 115 then some 101 else none) else
   (bif Nat.blt i 380 then (bif Nat.beq i 153 then some 100 else none) else
    (bif Nat.beq i 380 then some 103 else none)))))
noncomputable def zcpC_12 (i : Nat) : Option Nat :=
 (bif Nat.beq i 18 then some 12 else none)
noncomputable def zcpC_13 (i : Nat) : Option Nat :=
 (bif Nat.blt i 36 then (bif Nat.blt i 34 then (bif Nat.beq i 19 then some 10 else none) else
  (bif Nat.beq i 34 then some 100 else none)) else
 (bif Nat.blt i 45 then (bif Nat.beq i 36 then some 101 else none) else
  (bif Nat.blt i 73 then (bif Nat.beq i 45 then some 103 else none) else
   (bif Nat.beq i 73 then some 11 else none))))
noncomputable def zcpC_16 (i : Nat) : Option Nat :=
 (bif Nat.blt i 45 then (bif Nat.beq i 43 then some 100 else none) else
 (bif Nat.beq i 45 then some 11 else none))
noncomputable def zcpC (o i : Nat) : Option Nat :=
 (bif Nat.blt o 9 then (bif Nat.blt o 4 then (bif Nat.blt o 3 then (bif Nat.beq o 2 then zcpC_2 i else none) else
   (bif Nat.beq o 3 then zcpC_3 i else none)) else
  (bif Nat.blt o 7 then (bif Nat.beq o 4 then zcpC_4 i else none) else
   (bif Nat.beq o 7 then zcpC_7 i else none))) else
 (bif Nat.blt o 12 then (bif Nat.blt o 11 then (bif Nat.beq o 9 then zcpC_9 i else none) else
   (bif Nat.beq o 11 then zcpC_11 i else none)) else
  (bif Nat.blt o 13 then (bif Nat.beq o 12 then zcpC_12 i else none) else
   (bif Nat.blt o 16 then (bif Nat.beq o 13 then zcpC_13 i else none) else
    (bif Nat.beq o 16 then zcpC_16 i else none)))))
noncomputable def zcpA_2 (i : Nat) : Option Nat :=
 (bif Nat.beq i 9 then some 26 else none)
noncomputable def zcpA_3 (i : Nat) : Option Nat :=
 (bif Nat.beq i 151 then some 25 else none)
noncomputable def zcpA_4 (i : Nat) : Option Nat :=
 (bif Nat.beq i 39 then some 25 else none)
noncomputable def zcpA_7 (i : Nat) : Option Nat :=
 (bif Nat.beq i 31 then some 25 else none)
noncomputable def zcpA_8 (i : Nat) : Option Nat :=
 (bif Nat.beq i 11 then some 27 else none)
noncomputable def zcpA_9 (i : Nat) : Option Nat :=
 (bif Nat.beq i 9 then some 25 else none)
noncomputable def zcpA_11 (i : Nat) : Option Nat :=
 (bif Nat.blt i 50 then (bif Nat.beq i 16 then some 25 else none) else
 (bif Nat.beq i 50 then some 26 else none))
noncomputable def zcpA_16 (i : Nat) : Option Nat :=
 (bif Nat.beq i 311 then some 21 else none)
noncomputable def zcpA (o i : Nat) : Option Nat :=
 (bif Nat.blt o 8 then (bif Nat.blt o 4 then (bif Nat.blt o 3 then (bif Nat.beq o 2 then zcpA_2 i else none) else
   (bif Nat.beq o 3 then zcpA_3 i else none)) else
  (bif Nat.blt o 7 then (bif Nat.beq o 4 then zcpA_4 i else none) else
   (bif Nat.beq o 7 then zcpA_7 i else none))) else
 (bif Nat.blt o 11 then (bif Nat.blt o 9 then (bif Nat.beq o 8 then zcpA_8 i else none) else
   (bif Nat.beq o 9 then zcpA_9 i else none)) else
  (bif Nat.blt o 16 then (bif Nat.beq o 11 then zcpA_11 i else none) else
   (bif Nat.beq o 16 then zcpA_16 i else none))))
noncomputable def zcpK_0 (i : Nat) : Option zV :=
 (bif Nat.beq i 62 then some (zJ (18446744073709551615#64)) else none)
noncomputable def zcpK_5 (i : Nat) : Option zV :=
 (bif Nat.blt i 166 then (bif Nat.blt i 149 then (bif Nat.beq i 131 then some (zF 1092616192) else none) else
  (bif Nat.blt i 165 then (bif Nat.beq i 149 then some (zF 3212836864) else none) else
   (bif Nat.beq i 165 then some (zF 1258291200) else none))) else
 (bif Nat.blt i 169 then (bif Nat.blt i 167 then (bif Nat.beq i 166 then some (zI (-2147483648)) else none) else
   (bif Nat.beq i 167 then some (zJ (1023#64)) else none)) else
  (bif Nat.blt i 171 then (bif Nat.beq i 169 then some (zD 4611686018427387904) else none) else
   (bif Nat.beq i 171 then some (zD 4841369599423283200) else none))))
noncomputable def zcpK_7 (i : Nat) : Option zV :=
 (bif Nat.beq i 178 then some (zJ (18446744073709551615#64)) else none)
noncomputable def zcpK_10 (i : Nat) : Option zV :=
 (bif Nat.blt i 33 then (bif Nat.blt i 19 then (bif Nat.blt i 13 then (bif Nat.blt i 9 then (bif Nat.beq i 7 then some (zR (some (zVB + 4))) else none) else
    (bif Nat.blt i 11 then (bif Nat.beq i 9 then some (zR (some (zVB + 5))) else none) else
     (bif Nat.beq i 11 then some (zR (some (zVB + 6))) else none))) else
   (bif Nat.blt i 15 then (bif Nat.beq i 13 then some (zR (some (zVB + 7))) else none) else
    (bif Nat.blt i 17 then (bif Nat.beq i 15 then some (zR (some (zVB + 8))) else none) else
     (bif Nat.beq i 17 then some (zR (some (zVB + 9))) else none)))) else
  (bif Nat.blt i 25 then (bif Nat.blt i 21 then (bif Nat.beq i 19 then some (zR (some (zVB + 10))) else none) else
    (bif Nat.blt i 23 then (bif Nat.beq i 21 then some (zR (some (zVB + 11))) else none) else
     (bif Nat.beq i 23 then some (zR (some (zVB + 12))) else none))) else
   (bif Nat.blt i 29 then (bif Nat.blt i 27 then (bif Nat.beq i 25 then some (zR (some (zVB + 13))) else none) else
     (bif Nat.beq i 27 then some (zR (some (zVB + 14))) else none)) else
    (bif Nat.blt i 31 then (bif Nat.beq i 29 then some (zR (some (zVB + 15))) else none) else
     (bif Nat.beq i 31 then some (zR (some (zVB + 16))) else none))))) else
 (bif Nat.blt i 47 then (bif Nat.blt i 39 then (bif Nat.blt i 35 then (bif Nat.beq i 33 then some (zR (some (zVB + 17))) else none) else
    (bif Nat.blt i 37 then (bif Nat.beq i 35 then some (zR (some (zVB + 18))) else none) else
     (bif Nat.beq i 37 then some (zR (some (zVB + 19))) else none))) else
   (bif Nat.blt i 43 then (bif Nat.blt i 41 then (bif Nat.beq i 39 then some (zR (some (zVB + 20))) else none) else
     (bif Nat.beq i 41 then some (zR (some (zVB + 21))) else none)) else
    (bif Nat.blt i 45 then (bif Nat.beq i 43 then some (zR (some (zVB + 22))) else none) else
     (bif Nat.beq i 45 then some (zR (some (zVB + 23))) else none)))) else
  (bif Nat.blt i 53 then (bif Nat.blt i 49 then (bif Nat.beq i 47 then some (zR (some (zVB + 24))) else none) else
    (bif Nat.blt i 51 then (bif Nat.beq i 49 then some (zR (some (zVB + 25))) else none) else
     (bif Nat.beq i 51 then some (zR (some (zVB + 26))) else none))) else
   (bif Nat.blt i 57 then (bif Nat.blt i 55 then (bif Nat.beq i 53 then some (zR (some (zVB + 27))) else none) else
     (bif Nat.beq i 55 then some (zR (some (zVB + 28))) else none)) else
    (bif Nat.blt i 59 then (bif Nat.beq i 57 then some (zR (some (zVB + 29))) else none) else
     (bif Nat.beq i 59 then some (zR (some (zVB + 30))) else none))))))
noncomputable def zcpK_11 (i : Nat) : Option zV :=
 (bif Nat.blt i 279 then (bif Nat.blt i 268 then (bif Nat.beq i 89 then some (zR (some (zVB + 3))) else none) else
  (bif Nat.beq i 268 then some (zF 1115684864) else none)) else
 (bif Nat.blt i 374 then (bif Nat.beq i 279 then some (zJ (18446744073709551615#64)) else none) else
  (bif Nat.beq i 374 then some (zR (some (zVB + 31))) else none)))
noncomputable def zcpK_13 (i : Nat) : Option zV :=
 (bif Nat.blt i 111 then (bif Nat.blt i 90 then (bif Nat.blt i 70 then (bif Nat.blt i 66 then (bif Nat.beq i 7 then some (zI (1103515245)) else none) else
    (bif Nat.blt i 68 then (bif Nat.beq i 66 then some (zR (some (zVB + 33))) else none) else
     (bif Nat.beq i 68 then some (zR (some (zVB + 34))) else none))) else
   (bif Nat.blt i 86 then (bif Nat.blt i 84 then (bif Nat.beq i 70 then some (zR (some (zVB + 35))) else none) else
     (bif Nat.beq i 84 then some (zR (some (zVB + 36))) else none)) else
    (bif Nat.blt i 88 then (bif Nat.beq i 86 then some (zR (some (zVB + 37))) else none) else
     (bif Nat.beq i 88 then some (zR (some (zVB + 38))) else none)))) else
  (bif Nat.blt i 96 then (bif Nat.blt i 92 then (bif Nat.beq i 90 then some (zR (some (zVB + 39))) else none) else
    (bif Nat.blt i 94 then (bif Nat.beq i 92 then some (zR (some (zVB + 40))) else none) else
     (bif Nat.beq i 94 then some (zR (some (zVB + 41))) else none))) else
   (bif Nat.blt i 107 then (bif Nat.blt i 98 then (bif Nat.beq i 96 then some (zR (some (zVB + 42))) else none) else
     (bif Nat.beq i 98 then some (zR (some (zVB + 32))) else none)) else
    (bif Nat.blt i 109 then (bif Nat.beq i 107 then some (zR (some (zVB + 43))) else none) else
     (bif Nat.beq i 109 then some (zR (some (zVB + 44))) else none))))) else
 (bif Nat.blt i 125 then (bif Nat.blt i 117 then (bif Nat.blt i 113 then (bif Nat.beq i 111 then some (zR (some (zVB + 45))) else none) else
    (bif Nat.blt i 115 then (bif Nat.beq i 113 then some (zR (some (zVB + 46))) else none) else
     (bif Nat.beq i 115 then some (zR (some (zVB + 47))) else none))) else
   (bif Nat.blt i 121 then (bif Nat.blt i 119 then (bif Nat.beq i 117 then some (zR (some (zVB + 48))) else none) else
     (bif Nat.beq i 119 then some (zR (some (zVB + 49))) else none)) else
    (bif Nat.blt i 123 then (bif Nat.beq i 121 then some (zR (some (zVB + 50))) else none) else
     (bif Nat.beq i 123 then some (zR (some (zVB + 51))) else none)))) else
  (bif Nat.blt i 174 then (bif Nat.blt i 127 then (bif Nat.beq i 125 then some (zR (some (zVB + 52))) else none) else
    (bif Nat.blt i 133 then (bif Nat.beq i 127 then some (zR (some (zVB + 53))) else none) else
     (bif Nat.beq i 133 then some (zJ (31#64)) else none))) else
   (bif Nat.blt i 292 then (bif Nat.blt i 189 then (bif Nat.beq i 174 then some (zJ (18446744073709551615#64)) else none) else
     (bif Nat.beq i 189 then some (zF 1115684864) else none)) else
    (bif Nat.blt i 294 then (bif Nat.beq i 292 then some (zR (some (zVB + 54))) else none) else
     (bif Nat.beq i 294 then some (zR (some (zVB + 55))) else none))))))
noncomputable def zcpK_15 (i : Nat) : Option zV :=
 (bif Nat.blt i 316 then (bif Nat.beq i 314 then some (zJ (6148914691236517205#64)) else none) else
 (bif Nat.blt i 318 then (bif Nat.beq i 316 then some (zJ (3689348814741910323#64)) else none) else
  (bif Nat.beq i 318 then some (zJ (1085102592571150095#64)) else none)))
noncomputable def zcpK_17 (i : Nat) : Option zV :=
 (bif Nat.beq i 77 then some (zI (2143289344)) else none)
noncomputable def zcpK_18 (i : Nat) : Option zV :=
 (bif Nat.beq i 137 then some (zJ (9221120237041090560#64)) else none)
noncomputable def zcpK_19 (i : Nat) : Option zV :=
 (bif Nat.blt i 39 then (bif Nat.beq i 38 then some (zI (2147483631)) else none) else
 (bif Nat.beq i 39 then some (zI (2147483647)) else none))
noncomputable def zcpK_21 (i : Nat) : Option zV :=
 (bif Nat.beq i 264 then some (zI (65536)) else none)
noncomputable def zcpK_22 (i : Nat) : Option zV :=
 (bif Nat.beq i 200 then some (zI (2147483639)) else none)
noncomputable def zcpK (o i : Nat) : Option zV :=
 (bif Nat.blt o 15 then (bif Nat.blt o 10 then (bif Nat.blt o 5 then (bif Nat.beq o 0 then zcpK_0 i else none) else
   (bif Nat.blt o 7 then (bif Nat.beq o 5 then zcpK_5 i else none) else
    (bif Nat.beq o 7 then zcpK_7 i else none))) else
  (bif Nat.blt o 11 then (bif Nat.beq o 10 then zcpK_10 i else none) else
   (bif Nat.blt o 13 then (bif Nat.beq o 11 then zcpK_11 i else none) else
    (bif Nat.beq o 13 then zcpK_13 i else none)))) else
 (bif Nat.blt o 19 then (bif Nat.blt o 17 then (bif Nat.beq o 15 then zcpK_15 i else none) else
   (bif Nat.blt o 18 then (bif Nat.beq o 17 then zcpK_17 i else none) else
    (bif Nat.beq o 18 then zcpK_18 i else none))) else
  (bif Nat.blt o 21 then (bif Nat.beq o 19 then zcpK_19 i else none) else
   (bif Nat.blt o 22 then (bif Nat.beq o 21 then zcpK_21 i else none) else
    (bif Nat.beq o 22 then zcpK_22 i else none)))))
noncomputable def zfty (c k : Nat) : Nat :=
 (bif Nat.blt c 6 then (bif Nat.blt c 3 then (bif Nat.blt c 1 then (bif Nat.beq c 0 then (bif Nat.blt k 2 then (bif Nat.blt k 1 then (bif Nat.beq k 0 then 5 else 9) else
  (bif Nat.beq k 1 then 5 else 9)) else
 (bif Nat.blt k 3 then (bif Nat.beq k 2 then 5 else 9) else
  (bif Nat.blt k 4 then (bif Nat.beq k 3 then 5 else 9) else
   (bif Nat.beq k 4 then 5 else 9)))) else 9) else
   (bif Nat.blt c 2 then (bif Nat.beq c 1 then (bif Nat.beq k 0 then 5 else 9) else 9) else
    (bif Nat.beq c 2 then (bif Nat.blt k 2 then (bif Nat.blt k 1 then (bif Nat.beq k 0 then 0 else 9) else
  (bif Nat.beq k 1 then 0 else 9)) else
 (bif Nat.blt k 3 then (bif Nat.beq k 2 then 5 else 9) else
  (bif Nat.blt k 4 then (bif Nat.beq k 3 then 5 else 9) else
   (bif Nat.beq k 4 then 5 else 9)))) else 9))) else
  (bif Nat.blt c 4 then (bif Nat.beq c 3 then (bif Nat.blt k 4 then (bif Nat.blt k 2 then (bif Nat.blt k 1 then (bif Nat.beq k 0 then 0 else 9) else
   (bif Nat.beq k 1 then 0 else 9)) else
  (bif Nat.blt k 3 then (bif Nat.beq k 2 then 5 else 9) else
   (bif Nat.beq k 3 then 5 else 9))) else
 (bif Nat.blt k 6 then (bif Nat.blt k 5 then (bif Nat.beq k 4 then 5 else 9) else
   (bif Nat.beq k 5 then 5 else 9)) else
  (bif Nat.blt k 7 then (bif Nat.beq k 6 then 0 else 9) else
   (bif Nat.beq k 7 then 1 else 9)))) else 9) else
   (bif Nat.blt c 5 then (bif Nat.beq c 4 then (bif Nat.blt k 7 then (bif Nat.blt k 3 then (bif Nat.blt k 1 then (bif Nat.beq k 0 then 0 else 9) else
   (bif Nat.blt k 2 then (bif Nat.beq k 1 then 0 else 9) else
    (bif Nat.beq k 2 then 0 else 9))) else
  (bif Nat.blt k 5 then (bif Nat.blt k 4 then (bif Nat.beq k 3 then 5 else 9) else
    (bif Nat.beq k 4 then 5 else 9)) else
   (bif Nat.blt k 6 then (bif Nat.beq k 5 then 5 else 9) else
    (bif Nat.beq k 6 then 5 else 9)))) else
 (bif Nat.blt k 10 then (bif Nat.blt k 8 then (bif Nat.beq k 7 then 5 else 9) else
   (bif Nat.blt k 9 then (bif Nat.beq k 8 then 5 else 9) else
    (bif Nat.beq k 9 then 5 else 9))) else
  (bif Nat.blt k 12 then (bif Nat.blt k 11 then (bif Nat.beq k 10 then 5 else 9) else
    (bif Nat.beq k 11 then 5 else 9)) else
   (bif Nat.blt k 13 then (bif Nat.beq k 12 then 5 else 9) else
    (bif Nat.beq k 13 then 5 else 9))))) else 9) else
    (bif Nat.beq c 5 then (bif Nat.blt k 5 then (bif Nat.blt k 2 then (bif Nat.blt k 1 then (bif Nat.beq k 0 then 5 else 9) else
   (bif Nat.beq k 1 then 5 else 9)) else
  (bif Nat.blt k 3 then (bif Nat.beq k 2 then 5 else 9) else
   (bif Nat.blt k 4 then (bif Nat.beq k 3 then 5 else 9) else
    (bif Nat.beq k 4 then 5 else 9)))) else
 (bif Nat.blt k 7 then (bif Nat.blt k 6 then (bif Nat.beq k 5 then 5 else 9) else
   (bif Nat.beq k 6 then 0 else 9)) else
  (bif Nat.blt k 8 then (bif Nat.beq k 7 then 3 else 9) else
   (bif Nat.blt k 9 then (bif Nat.beq k 8 then 0 else 9) else
    (bif Nat.beq k 9 then 0 else 9))))) else 9)))) else
 (bif Nat.blt c 9 then (bif Nat.blt c 7 then (bif Nat.beq c 6 then (bif Nat.blt k 4 then (bif Nat.blt k 2 then (bif Nat.blt k 1 then (bif Nat.beq k 0 then 0 else 9) else
   (bif Nat.beq k 1 then 0 else 9)) else
  (bif Nat.blt k 3 then (bif Nat.beq k 2 then 5 else 9) else
   (bif Nat.beq k 3 then 0 else 9))) else
 (bif Nat.blt k 6 then (bif Nat.blt k 5 then (bif Nat.beq k 4 then 0 else 9) else
   (bif Nat.beq k 5 then 5 else 9)) else
  (bif Nat.blt k 7 then (bif Nat.beq k 6 then 5 else 9) else
   (bif Nat.blt k 8 then (bif Nat.beq k 7 then 0 else 9) else
    (bif Nat.beq k 8 then 0 else 9))))) else 9) else
   (bif Nat.blt c 8 then (bif Nat.beq c 7 then (bif Nat.blt k 8 then (bif Nat.blt k 4 then (bif Nat.blt k 2 then (bif Nat.blt k 1 then (bif Nat.beq k 0 then 2 else 9) else
    (bif Nat.beq k 1 then 2 else 9)) else
   (bif Nat.blt k 3 then (bif Nat.beq k 2 then 5 else 9) else
    (bif Nat.beq k 3 then 5 else 9))) else
  (bif Nat.blt k 6 then (bif Nat.blt k 5 then (bif Nat.beq k 4 then 5 else 9) else
    (bif Nat.beq k 5 then 5 else 9)) else
   (bif Nat.blt k 7 then (bif Nat.beq k 6 then 5 else 9) else
    (bif Nat.beq k 7 then 5 else 9)))) else
 (bif Nat.blt k 12 then (bif Nat.blt k 10 then (bif Nat.blt k 9 then (bif Nat.beq k 8 then 5 else 9) else
    (bif Nat.beq k 9 then 5 else 9)) else
   (bif Nat.blt k 11 then (bif Nat.beq k 10 then 5 else 9) else
    (bif Nat.beq k 11 then 5 else 9))) else
  (bif Nat.blt k 14 then (bif Nat.blt k 13 then (bif Nat.beq k 12 then 5 else 9) else
    (bif Nat.beq k 13 then 0 else 9)) else
   (bif Nat.blt k 15 then (bif Nat.beq k 14 then 5 else 9) else
    (bif Nat.beq k 15 then 5 else 9))))) else 9) else
    (bif Nat.beq c 8 then (bif Nat.blt k 2 then (bif Nat.blt k 1 then (bif Nat.beq k 0 then 5 else 9) else
  (bif Nat.beq k 1 then 5 else 9)) else
 (bif Nat.blt k 3 then (bif Nat.beq k 2 then 5 else 9) else
  (bif Nat.beq k 3 then 5 else 9))) else 9))) else
  (bif Nat.blt c 11 then (bif Nat.blt c 10 then (bif Nat.beq c 9 then (bif Nat.blt k 3 then (bif Nat.blt k 1 then (bif Nat.beq k 0 then 5 else 9) else
  (bif Nat.blt k 2 then (bif Nat.beq k 1 then 5 else 9) else
   (bif Nat.beq k 2 then 5 else 9))) else
 (bif Nat.blt k 5 then (bif Nat.blt k 4 then (bif Nat.beq k 3 then 5 else 9) else
   (bif Nat.beq k 4 then 5 else 9)) else
  (bif Nat.blt k 6 then (bif Nat.beq k 5 then 5 else 9) else
   (bif Nat.beq k 6 then 5 else 9)))) else 9) else
    (bif Nat.beq c 10 then (bif Nat.blt k 7 then (bif Nat.blt k 3 then (bif Nat.blt k 1 then (bif Nat.beq k 0 then 5 else 9) else
   (bif Nat.blt k 2 then (bif Nat.beq k 1 then 0 else 9) else
    (bif Nat.beq k 2 then 5 else 9))) else
  (bif Nat.blt k 5 then (bif Nat.blt k 4 then (bif Nat.beq k 3 then 0 else 9) else
    (bif Nat.beq k 4 then 0 else 9)) else
   (bif Nat.blt k 6 then (bif Nat.beq k 5 then 0 else 9) else
    (bif Nat.beq k 6 then 5 else 9)))) else
 (bif Nat.blt k 11 then (bif Nat.blt k 9 then (bif Nat.blt k 8 then (bif Nat.beq k 7 then 5 else 9) else
    (bif Nat.beq k 8 then 5 else 9)) else
   (bif Nat.blt k 10 then (bif Nat.beq k 9 then 5 else 9) else
    (bif Nat.beq k 10 then 5 else 9))) else
  (bif Nat.blt k 13 then (bif Nat.blt k 12 then (bif Nat.beq k 11 then 5 else 9) else
    (bif Nat.beq k 12 then 5 else 9)) else
   (bif Nat.blt k 14 then (bif Nat.beq k 13 then 5 else 9) else
    (bif Nat.beq k 14 then 5 else 9))))) else 9)) else
   (bif Nat.blt c 12 then (bif Nat.beq c 11 then (bif Nat.blt k 2 then (bif Nat.blt k 1 then (bif Nat.beq k 0 then 5 else 9) else
  (bif Nat.beq k 1 then 6 else 9)) else
 (bif Nat.blt k 3 then (bif Nat.beq k 2 then 1 else 9) else
  (bif Nat.beq k 3 then 0 else 9))) else 9) else
    (bif Nat.beq c 12 then (bif Nat.blt k 2 then (bif Nat.blt k 1 then (bif Nat.beq k 0 then 5 else 9) else
  (bif Nat.beq k 1 then 6 else 9)) else
 (bif Nat.blt k 3 then (bif Nat.beq k 2 then 0 else 9) else
  (bif Nat.beq k 3 then 1 else 9))) else 9)))))
noncomputable def znf (c : Nat) : Nat :=
 (bif Nat.blt c 6 then (bif Nat.blt c 3 then (bif Nat.blt c 1 then (bif Nat.beq c 0 then 5 else 0) else
   (bif Nat.blt c 2 then (bif Nat.beq c 1 then 1 else 0) else
    (bif Nat.beq c 2 then 5 else 0))) else
  (bif Nat.blt c 4 then (bif Nat.beq c 3 then 8 else 0) else
   (bif Nat.blt c 5 then (bif Nat.beq c 4 then 14 else 0) else
    (bif Nat.beq c 5 then 10 else 0)))) else
 (bif Nat.blt c 9 then (bif Nat.blt c 7 then (bif Nat.beq c 6 then 9 else 0) else
   (bif Nat.blt c 8 then (bif Nat.beq c 7 then 16 else 0) else
    (bif Nat.beq c 8 then 4 else 0))) else
  (bif Nat.blt c 11 then (bif Nat.blt c 10 then (bif Nat.beq c 9 then 7 else 0) else
    (bif Nat.beq c 10 then 15 else 0)) else
   (bif Nat.blt c 12 then (bif Nat.beq c 11 then 4 else 0) else
    (bif Nat.beq c 12 then 4 else 0)))))
noncomputable def zrf (m : Nat) : Nat :=
 (bif Nat.blt m 131 then (bif Nat.blt m 65 then (bif Nat.blt m 32 then (bif Nat.blt m 16 then (bif Nat.blt m 8 then (bif Nat.blt m 4 then (bif Nat.blt m 2 then (bif Nat.blt m 1 then (bif Nat.beq m 0 then 1 else 0) else
        (bif Nat.beq m 1 then 4 else 0)) else
       (bif Nat.blt m 3 then (bif Nat.beq m 2 then 3 else 0) else
        (bif Nat.beq m 3 then 0 else 0))) else
      (bif Nat.blt m 6 then (bif Nat.blt m 5 then (bif Nat.beq m 4 then 0 else 0) else
        (bif Nat.beq m 5 then 2 else 0)) else
       (bif Nat.blt m 7 then (bif Nat.beq m 6 then 1 else 0) else
        (bif Nat.beq m 7 then 3 else 0)))) else
     (bif Nat.blt m 12 then (bif Nat.blt m 10 then (bif Nat.blt m 9 then (bif Nat.beq m 8 then 2 else 0) else
        (bif Nat.beq m 9 then 0 else 0)) else
       (bif Nat.blt m 11 then (bif Nat.beq m 10 then 0 else 0) else
        (bif Nat.beq m 11 then 0 else 0))) else
      (bif Nat.blt m 14 then (bif Nat.blt m 13 then (bif Nat.beq m 12 then 3 else 0) else
        (bif Nat.beq m 13 then 3 else 0)) else
       (bif Nat.blt m 15 then (bif Nat.beq m 14 then 0 else 0) else
        (bif Nat.beq m 15 then 2 else 0))))) else
    (bif Nat.blt m 24 then (bif Nat.blt m 20 then (bif Nat.blt m 18 then (bif Nat.blt m 17 then (bif Nat.beq m 16 then 0 else 0) else
        (bif Nat.beq m 17 then 1 else 0)) else
       (bif Nat.blt m 19 then (bif Nat.beq m 18 then 0 else 0) else
        (bif Nat.beq m 19 then 1 else 0))) else
      (bif Nat.blt m 22 then (bif Nat.blt m 21 then (bif Nat.beq m 20 then 1 else 0) else
        (bif Nat.beq m 21 then 1 else 0)) else
       (bif Nat.blt m 23 then (bif Nat.beq m 22 then 0 else 0) else
        (bif Nat.beq m 23 then 2 else 0)))) else
     (bif Nat.blt m 28 then (bif Nat.blt m 26 then (bif Nat.blt m 25 then (bif Nat.beq m 24 then 9 else 0) else
        (bif Nat.beq m 25 then 7 else 0)) else
       (bif Nat.blt m 27 then (bif Nat.beq m 26 then 1 else 0) else
        (bif Nat.beq m 27 then 0 else 0))) else
      (bif Nat.blt m 30 then (bif Nat.blt m 29 then (bif Nat.beq m 28 then 4 else 0) else
        (bif Nat.beq m 29 then 1 else 0)) else
       (bif Nat.blt m 31 then (bif Nat.beq m 30 then 6 else 0) else
        (bif Nat.beq m 31 then 5 else 0)))))) else
   (bif Nat.blt m 48 then (bif Nat.blt m 40 then (bif Nat.blt m 36 then (bif Nat.blt m 34 then (bif Nat.blt m 33 then (bif Nat.beq m 32 then 2 else 0) else
        (bif Nat.beq m 33 then 2 else 0)) else
       (bif Nat.blt m 35 then (bif Nat.beq m 34 then 5 else 0) else
        (bif Nat.beq m 35 then 1 else 0))) else
      (bif Nat.blt m 38 then (bif Nat.blt m 37 then (bif Nat.beq m 36 then 1 else 0) else
        (bif Nat.beq m 37 then 0 else 0)) else
       (bif Nat.blt m 39 then (bif Nat.beq m 38 then 2 else 0) else
        (bif Nat.beq m 39 then 0 else 0)))) else
     (bif Nat.blt m 44 then (bif Nat.blt m 42 then (bif Nat.blt m 41 then (bif Nat.beq m 40 then 1 else 0) else
        (bif Nat.beq m 41 then 1 else 0)) else
       (bif Nat.blt m 43 then (bif Nat.beq m 42 then 0 else 0) else
        (bif Nat.beq m 43 then 0 else 0))) else
      (bif Nat.blt m 46 then (bif Nat.blt m 45 then (bif Nat.beq m 44 then 1 else 0) else
        (bif Nat.beq m 45 then 1 else 0)) else
       (bif Nat.blt m 47 then (bif Nat.beq m 46 then 1 else 0) else
        (bif Nat.beq m 47 then 1 else 0))))) else
    (bif Nat.blt m 56 then (bif Nat.blt m 52 then (bif Nat.blt m 50 then (bif Nat.blt m 49 then (bif Nat.beq m 48 then 1 else 0) else
        (bif Nat.beq m 49 then 2 else 0)) else
       (bif Nat.blt m 51 then (bif Nat.beq m 50 then 1 else 0) else
        (bif Nat.beq m 51 then 1 else 0))) else
      (bif Nat.blt m 54 then (bif Nat.blt m 53 then (bif Nat.beq m 52 then 1 else 0) else
        (bif Nat.beq m 53 then 0 else 0)) else
       (bif Nat.blt m 55 then (bif Nat.beq m 54 then 2 else 0) else
        (bif Nat.beq m 55 then 2 else 0)))) else
     (bif Nat.blt m 60 then (bif Nat.blt m 58 then (bif Nat.blt m 57 then (bif Nat.beq m 56 then 2 else 0) else
        (bif Nat.beq m 57 then 1 else 0)) else
       (bif Nat.blt m 59 then (bif Nat.beq m 58 then 3 else 0) else
        (bif Nat.beq m 59 then 2 else 0))) else
      (bif Nat.blt m 62 then (bif Nat.blt m 61 then (bif Nat.beq m 60 then 1 else 0) else
        (bif Nat.beq m 61 then 0 else 0)) else
       (bif Nat.blt m 63 then (bif Nat.beq m 62 then 2 else 0) else
        (bif Nat.blt m 64 then (bif Nat.beq m 63 then 0 else 0) else
         (bif Nat.beq m 64 then 3 else 0)))))))) else
  (bif Nat.blt m 98 then (bif Nat.blt m 81 then (bif Nat.blt m 73 then (bif Nat.blt m 69 then (bif Nat.blt m 67 then (bif Nat.blt m 66 then (bif Nat.beq m 65 then 2 else 0) else
        (bif Nat.beq m 66 then 5 else 0)) else
       (bif Nat.blt m 68 then (bif Nat.beq m 67 then 3 else 0) else
        (bif Nat.beq m 68 then 4 else 0))) else
      (bif Nat.blt m 71 then (bif Nat.blt m 70 then (bif Nat.beq m 69 then 1 else 0) else
        (bif Nat.beq m 70 then 3 else 0)) else
       (bif Nat.blt m 72 then (bif Nat.beq m 71 then 2 else 0) else
        (bif Nat.beq m 72 then 3 else 0)))) else
     (bif Nat.blt m 77 then (bif Nat.blt m 75 then (bif Nat.blt m 74 then (bif Nat.beq m 73 then 5 else 0) else
        (bif Nat.beq m 74 then 0 else 0)) else
       (bif Nat.blt m 76 then (bif Nat.beq m 75 then 5 else 0) else
        (bif Nat.beq m 76 then 5 else 0))) else
      (bif Nat.blt m 79 then (bif Nat.blt m 78 then (bif Nat.beq m 77 then 0 else 0) else
        (bif Nat.beq m 78 then 4 else 0)) else
       (bif Nat.blt m 80 then (bif Nat.beq m 79 then 1 else 0) else
        (bif Nat.beq m 80 then 13 else 0))))) else
    (bif Nat.blt m 89 then (bif Nat.blt m 85 then (bif Nat.blt m 83 then (bif Nat.blt m 82 then (bif Nat.beq m 81 then 1 else 0) else
        (bif Nat.beq m 82 then 8 else 0)) else
       (bif Nat.blt m 84 then (bif Nat.beq m 83 then 7 else 0) else
        (bif Nat.beq m 84 then 1 else 0))) else
      (bif Nat.blt m 87 then (bif Nat.blt m 86 then (bif Nat.beq m 85 then 0 else 0) else
        (bif Nat.beq m 86 then 0 else 0)) else
       (bif Nat.blt m 88 then (bif Nat.beq m 87 then 1 else 0) else
        (bif Nat.beq m 88 then 0 else 0)))) else
     (bif Nat.blt m 93 then (bif Nat.blt m 91 then (bif Nat.blt m 90 then (bif Nat.beq m 89 then 1 else 0) else
        (bif Nat.beq m 90 then 1 else 0)) else
       (bif Nat.blt m 92 then (bif Nat.beq m 91 then 0 else 0) else
        (bif Nat.beq m 92 then 4 else 0))) else
      (bif Nat.blt m 95 then (bif Nat.blt m 94 then (bif Nat.beq m 93 then 0 else 0) else
        (bif Nat.beq m 94 then 3 else 0)) else
       (bif Nat.blt m 96 then (bif Nat.beq m 95 then 1 else 0) else
        (bif Nat.blt m 97 then (bif Nat.beq m 96 then 0 else 0) else
         (bif Nat.beq m 97 then 0 else 0))))))) else
   (bif Nat.blt m 114 then (bif Nat.blt m 106 then (bif Nat.blt m 102 then (bif Nat.blt m 100 then (bif Nat.blt m 99 then (bif Nat.beq m 98 then 0 else 0) else
        (bif Nat.beq m 99 then 0 else 0)) else
       (bif Nat.blt m 101 then (bif Nat.beq m 100 then 2 else 0) else
        (bif Nat.beq m 101 then 2 else 0))) else
      (bif Nat.blt m 104 then (bif Nat.blt m 103 then (bif Nat.beq m 102 then 1 else 0) else
        (bif Nat.beq m 103 then 0 else 0)) else
       (bif Nat.blt m 105 then (bif Nat.beq m 104 then 0 else 0) else
        (bif Nat.beq m 105 then 1 else 0)))) else
     (bif Nat.blt m 110 then (bif Nat.blt m 108 then (bif Nat.blt m 107 then (bif Nat.beq m 106 then 0 else 0) else
        (bif Nat.beq m 107 then 0 else 0)) else
       (bif Nat.blt m 109 then (bif Nat.beq m 108 then 1 else 0) else
        (bif Nat.beq m 109 then 0 else 0))) else
      (bif Nat.blt m 112 then (bif Nat.blt m 111 then (bif Nat.beq m 110 then 1 else 0) else
        (bif Nat.beq m 111 then 0 else 0)) else
       (bif Nat.blt m 113 then (bif Nat.beq m 112 then 2 else 0) else
        (bif Nat.beq m 113 then 1 else 0))))) else
    (bif Nat.blt m 122 then (bif Nat.blt m 118 then (bif Nat.blt m 116 then (bif Nat.blt m 115 then (bif Nat.beq m 114 then 4 else 0) else
        (bif Nat.beq m 115 then 2 else 0)) else
       (bif Nat.blt m 117 then (bif Nat.beq m 116 then 1 else 0) else
        (bif Nat.beq m 117 then 0 else 0))) else
      (bif Nat.blt m 120 then (bif Nat.blt m 119 then (bif Nat.beq m 118 then 0 else 0) else
        (bif Nat.beq m 119 then 3 else 0)) else
       (bif Nat.blt m 121 then (bif Nat.beq m 120 then 0 else 0) else
        (bif Nat.beq m 121 then 2 else 0)))) else
     (bif Nat.blt m 126 then (bif Nat.blt m 124 then (bif Nat.blt m 123 then (bif Nat.beq m 122 then 0 else 0) else
        (bif Nat.beq m 123 then 3 else 0)) else
       (bif Nat.blt m 125 then (bif Nat.beq m 124 then 1 else 0) else
        (bif Nat.beq m 125 then 1 else 0))) else
      (bif Nat.blt m 128 then (bif Nat.blt m 127 then (bif Nat.beq m 126 then 0 else 0) else
        (bif Nat.beq m 127 then 1 else 0)) else
       (bif Nat.blt m 129 then (bif Nat.beq m 128 then 1 else 0) else
        (bif Nat.blt m 130 then (bif Nat.beq m 129 then 1 else 0) else
         (bif Nat.beq m 130 then 1 else 0))))))))) else
 (bif Nat.blt m 196 then (bif Nat.blt m 163 then (bif Nat.blt m 147 then (bif Nat.blt m 139 then (bif Nat.blt m 135 then (bif Nat.blt m 133 then (bif Nat.blt m 132 then (bif Nat.beq m 131 then 1 else 0) else
        (bif Nat.beq m 132 then 0 else 0)) else
       (bif Nat.blt m 134 then (bif Nat.beq m 133 then 1 else 0) else
        (bif Nat.beq m 134 then 0 else 0))) else
      (bif Nat.blt m 137 then (bif Nat.blt m 136 then (bif Nat.beq m 135 then 1 else 0) else
        (bif Nat.beq m 136 then 5 else 0)) else
       (bif Nat.blt m 138 then (bif Nat.beq m 137 then 6 else 0) else
        (bif Nat.beq m 138 then 0 else 0)))) else
     (bif Nat.blt m 143 then (bif Nat.blt m 141 then (bif Nat.blt m 140 then (bif Nat.beq m 139 then 5 else 0) else
        (bif Nat.beq m 140 then 0 else 0)) else
       (bif Nat.blt m 142 then (bif Nat.beq m 141 then 0 else 0) else
        (bif Nat.beq m 142 then 0 else 0))) else
      (bif Nat.blt m 145 then (bif Nat.blt m 144 then (bif Nat.beq m 143 then 0 else 0) else
        (bif Nat.beq m 144 then 0 else 0)) else
       (bif Nat.blt m 146 then (bif Nat.beq m 145 then 0 else 0) else
        (bif Nat.beq m 146 then 10 else 0))))) else
    (bif Nat.blt m 155 then (bif Nat.blt m 151 then (bif Nat.blt m 149 then (bif Nat.blt m 148 then (bif Nat.beq m 147 then 0 else 0) else
        (bif Nat.beq m 148 then 11 else 0)) else
       (bif Nat.blt m 150 then (bif Nat.beq m 149 then 0 else 0) else
        (bif Nat.beq m 150 then 0 else 0))) else
      (bif Nat.blt m 153 then (bif Nat.blt m 152 then (bif Nat.beq m 151 then 1 else 0) else
        (bif Nat.beq m 152 then 1 else 0)) else
       (bif Nat.blt m 154 then (bif Nat.beq m 153 then 4 else 0) else
        (bif Nat.beq m 154 then 6 else 0)))) else
     (bif Nat.blt m 159 then (bif Nat.blt m 157 then (bif Nat.blt m 156 then (bif Nat.beq m 155 then 6 else 0) else
        (bif Nat.beq m 156 then 6 else 0)) else
       (bif Nat.blt m 158 then (bif Nat.beq m 157 then 1 else 0) else
        (bif Nat.beq m 158 then 6 else 0))) else
      (bif Nat.blt m 161 then (bif Nat.blt m 160 then (bif Nat.beq m 159 then 0 else 0) else
        (bif Nat.beq m 160 then 10 else 0)) else
       (bif Nat.blt m 162 then (bif Nat.beq m 161 then 6 else 0) else
        (bif Nat.beq m 162 then 6 else 0)))))) else
   (bif Nat.blt m 179 then (bif Nat.blt m 171 then (bif Nat.blt m 167 then (bif Nat.blt m 165 then (bif Nat.blt m 164 then (bif Nat.beq m 163 then 6 else 0) else
        (bif Nat.beq m 164 then 7 else 0)) else
       (bif Nat.blt m 166 then (bif Nat.beq m 165 then 6 else 0) else
        (bif Nat.beq m 166 then 2 else 0))) else
      (bif Nat.blt m 169 then (bif Nat.blt m 168 then (bif Nat.beq m 167 then 7 else 0) else
        (bif Nat.beq m 168 then 6 else 0)) else
       (bif Nat.blt m 170 then (bif Nat.beq m 169 then 7 else 0) else
        (bif Nat.beq m 170 then 6 else 0)))) else
     (bif Nat.blt m 175 then (bif Nat.blt m 173 then (bif Nat.blt m 172 then (bif Nat.beq m 171 then 7 else 0) else
        (bif Nat.beq m 172 then 7 else 0)) else
       (bif Nat.blt m 174 then (bif Nat.beq m 173 then 6 else 0) else
        (bif Nat.beq m 174 then 7 else 0))) else
      (bif Nat.blt m 177 then (bif Nat.blt m 176 then (bif Nat.beq m 175 then 7 else 0) else
        (bif Nat.beq m 176 then 7 else 0)) else
       (bif Nat.blt m 178 then (bif Nat.beq m 177 then 7 else 0) else
        (bif Nat.beq m 178 then 7 else 0))))) else
    (bif Nat.blt m 187 then (bif Nat.blt m 183 then (bif Nat.blt m 181 then (bif Nat.blt m 180 then (bif Nat.beq m 179 then 7 else 0) else
        (bif Nat.beq m 180 then 10 else 0)) else
       (bif Nat.blt m 182 then (bif Nat.beq m 181 then 7 else 0) else
        (bif Nat.beq m 182 then 6 else 0))) else
      (bif Nat.blt m 185 then (bif Nat.blt m 184 then (bif Nat.beq m 183 then 5 else 0) else
        (bif Nat.beq m 184 then 7 else 0)) else
       (bif Nat.blt m 186 then (bif Nat.beq m 185 then 7 else 0) else
        (bif Nat.beq m 186 then 7 else 0)))) else
     (bif Nat.blt m 191 then (bif Nat.blt m 189 then (bif Nat.blt m 188 then (bif Nat.beq m 187 then 7 else 0) else
        (bif Nat.beq m 188 then 6 else 0)) else
       (bif Nat.blt m 190 then (bif Nat.beq m 189 then 10 else 0) else
        (bif Nat.beq m 190 then 7 else 0))) else
      (bif Nat.blt m 193 then (bif Nat.blt m 192 then (bif Nat.beq m 191 then 7 else 0) else
        (bif Nat.beq m 192 then 11 else 0)) else
       (bif Nat.blt m 194 then (bif Nat.beq m 193 then 10 else 0) else
        (bif Nat.blt m 195 then (bif Nat.beq m 194 then 11 else 0) else
         (bif Nat.beq m 195 then 11 else 0)))))))) else
  (bif Nat.blt m 229 then (bif Nat.blt m 212 then (bif Nat.blt m 204 then (bif Nat.blt m 200 then (bif Nat.blt m 198 then (bif Nat.blt m 197 then (bif Nat.beq m 196 then 11 else 0) else
        (bif Nat.beq m 197 then 7 else 0)) else
       (bif Nat.blt m 199 then (bif Nat.beq m 198 then 7 else 0) else
        (bif Nat.beq m 199 then 7 else 0))) else
      (bif Nat.blt m 202 then (bif Nat.blt m 201 then (bif Nat.beq m 200 then 6 else 0) else
        (bif Nat.beq m 201 then 6 else 0)) else
       (bif Nat.blt m 203 then (bif Nat.beq m 202 then 7 else 0) else
        (bif Nat.beq m 203 then 10 else 0)))) else
     (bif Nat.blt m 208 then (bif Nat.blt m 206 then (bif Nat.blt m 205 then (bif Nat.beq m 204 then 11 else 0) else
        (bif Nat.beq m 205 then 1 else 0)) else
       (bif Nat.blt m 207 then (bif Nat.beq m 206 then 7 else 0) else
        (bif Nat.beq m 207 then 0 else 0))) else
      (bif Nat.blt m 210 then (bif Nat.blt m 209 then (bif Nat.beq m 208 then 11 else 0) else
        (bif Nat.beq m 209 then 8 else 0)) else
       (bif Nat.blt m 211 then (bif Nat.beq m 210 then 7 else 0) else
        (bif Nat.beq m 211 then 8 else 0))))) else
    (bif Nat.blt m 220 then (bif Nat.blt m 216 then (bif Nat.blt m 214 then (bif Nat.blt m 213 then (bif Nat.beq m 212 then 8 else 0) else
        (bif Nat.beq m 213 then 12 else 0)) else
       (bif Nat.blt m 215 then (bif Nat.beq m 214 then 12 else 0) else
        (bif Nat.beq m 215 then 14 else 0))) else
      (bif Nat.blt m 218 then (bif Nat.blt m 217 then (bif Nat.beq m 216 then 11 else 0) else
        (bif Nat.beq m 217 then 8 else 0)) else
       (bif Nat.blt m 219 then (bif Nat.beq m 218 then 8 else 0) else
        (bif Nat.beq m 219 then 0 else 0)))) else
     (bif Nat.blt m 224 then (bif Nat.blt m 222 then (bif Nat.blt m 221 then (bif Nat.beq m 220 then 13 else 0) else
        (bif Nat.beq m 221 then 12 else 0)) else
       (bif Nat.blt m 223 then (bif Nat.beq m 222 then 12 else 0) else
        (bif Nat.beq m 223 then 0 else 0))) else
      (bif Nat.blt m 226 then (bif Nat.blt m 225 then (bif Nat.beq m 224 then 0 else 0) else
        (bif Nat.beq m 225 then 0 else 0)) else
       (bif Nat.blt m 227 then (bif Nat.beq m 226 then 0 else 0) else
        (bif Nat.blt m 228 then (bif Nat.beq m 227 then 1 else 0) else
         (bif Nat.beq m 228 then 0 else 0))))))) else
   (bif Nat.blt m 245 then (bif Nat.blt m 237 then (bif Nat.blt m 233 then (bif Nat.blt m 231 then (bif Nat.blt m 230 then (bif Nat.beq m 229 then 8 else 0) else
        (bif Nat.beq m 230 then 7 else 0)) else
       (bif Nat.blt m 232 then (bif Nat.beq m 231 then 6 else 0) else
        (bif Nat.beq m 232 then 0 else 0))) else
      (bif Nat.blt m 235 then (bif Nat.blt m 234 then (bif Nat.beq m 233 then 1 else 0) else
        (bif Nat.beq m 234 then 0 else 0)) else
       (bif Nat.blt m 236 then (bif Nat.beq m 235 then 1 else 0) else
        (bif Nat.beq m 236 then 0 else 0)))) else
     (bif Nat.blt m 241 then (bif Nat.blt m 239 then (bif Nat.blt m 238 then (bif Nat.beq m 237 then 12 else 0) else
        (bif Nat.beq m 238 then 9 else 0)) else
       (bif Nat.blt m 240 then (bif Nat.beq m 239 then 8 else 0) else
        (bif Nat.beq m 240 then 7 else 0))) else
      (bif Nat.blt m 243 then (bif Nat.blt m 242 then (bif Nat.beq m 241 then 0 else 0) else
        (bif Nat.beq m 242 then 7 else 0)) else
       (bif Nat.blt m 244 then (bif Nat.beq m 243 then 6 else 0) else
        (bif Nat.beq m 244 then 9 else 0))))) else
    (bif Nat.blt m 253 then (bif Nat.blt m 249 then (bif Nat.blt m 247 then (bif Nat.blt m 246 then (bif Nat.beq m 245 then 9 else 0) else
        (bif Nat.beq m 246 then 0 else 0)) else
       (bif Nat.blt m 248 then (bif Nat.beq m 247 then 0 else 0) else
        (bif Nat.beq m 248 then 6 else 0))) else
      (bif Nat.blt m 251 then (bif Nat.blt m 250 then (bif Nat.beq m 249 then 1 else 0) else
        (bif Nat.beq m 250 then 0 else 0)) else
       (bif Nat.blt m 252 then (bif Nat.beq m 251 then 7 else 0) else
        (bif Nat.beq m 252 then 0 else 0)))) else
     (bif Nat.blt m 257 then (bif Nat.blt m 255 then (bif Nat.blt m 254 then (bif Nat.beq m 253 then 10 else 0) else
        (bif Nat.beq m 254 then 9 else 0)) else
       (bif Nat.blt m 256 then (bif Nat.beq m 255 then 0 else 0) else
        (bif Nat.beq m 256 then 0 else 0))) else
      (bif Nat.blt m 259 then (bif Nat.blt m 258 then (bif Nat.beq m 257 then 0 else 0) else
        (bif Nat.beq m 258 then 6 else 0)) else
       (bif Nat.blt m 260 then (bif Nat.beq m 259 then 6 else 0) else
        (bif Nat.blt m 261 then (bif Nat.beq m 260 then 0 else 0) else
         (bif Nat.beq m 261 then 15 else 0))))))))))
noncomputable def zrl (m : Nat) : Nat :=
 (bif Nat.blt m 131 then (bif Nat.blt m 65 then (bif Nat.blt m 32 then (bif Nat.blt m 16 then (bif Nat.blt m 8 then (bif Nat.blt m 4 then (bif Nat.blt m 2 then (bif Nat.blt m 1 then (bif Nat.beq m 0 then 20 else 0) else
        (bif Nat.beq m 1 then 107 else 0)) else
       (bif Nat.blt m 3 then (bif Nat.beq m 2 then 65 else 0) else
        (bif Nat.beq m 3 then 0 else 0))) else
      (bif Nat.blt m 6 then (bif Nat.blt m 5 then (bif Nat.beq m 4 then 0 else 0) else
        (bif Nat.beq m 5 then 42 else 0)) else
       (bif Nat.blt m 7 then (bif Nat.beq m 6 then 23 else 0) else
        (bif Nat.beq m 7 then 72 else 0)))) else
     (bif Nat.blt m 12 then (bif Nat.blt m 10 then (bif Nat.blt m 9 then (bif Nat.beq m 8 then 46 else 0) else
        (bif Nat.beq m 9 then 0 else 0)) else
       (bif Nat.blt m 11 then (bif Nat.beq m 10 then 0 else 0) else
        (bif Nat.beq m 11 then 0 else 0))) else
      (bif Nat.blt m 14 then (bif Nat.blt m 13 then (bif Nat.beq m 12 then 63 else 0) else
        (bif Nat.beq m 13 then 80 else 0)) else
       (bif Nat.blt m 15 then (bif Nat.beq m 14 then 0 else 0) else
        (bif Nat.beq m 15 then 42 else 0))))) else
    (bif Nat.blt m 24 then (bif Nat.blt m 20 then (bif Nat.blt m 18 then (bif Nat.blt m 17 then (bif Nat.beq m 16 then 0 else 0) else
        (bif Nat.beq m 17 then 22 else 0)) else
       (bif Nat.blt m 19 then (bif Nat.beq m 18 then 0 else 0) else
        (bif Nat.beq m 19 then 22 else 0))) else
      (bif Nat.blt m 22 then (bif Nat.blt m 21 then (bif Nat.beq m 20 then 22 else 0) else
        (bif Nat.beq m 21 then 22 else 0)) else
       (bif Nat.blt m 23 then (bif Nat.beq m 22 then 0 else 0) else
        (bif Nat.beq m 23 then 41 else 0)))) else
     (bif Nat.blt m 28 then (bif Nat.blt m 26 then (bif Nat.blt m 25 then (bif Nat.beq m 24 then 210 else 0) else
        (bif Nat.beq m 25 then 173 else 0)) else
       (bif Nat.blt m 27 then (bif Nat.beq m 26 then 21 else 0) else
        (bif Nat.beq m 27 then 0 else 0))) else
      (bif Nat.blt m 30 then (bif Nat.blt m 29 then (bif Nat.beq m 28 then 102 else 0) else
        (bif Nat.beq m 29 then 21 else 0)) else
       (bif Nat.blt m 31 then (bif Nat.beq m 30 then 151 else 0) else
        (bif Nat.beq m 31 then 129 else 0)))))) else
   (bif Nat.blt m 48 then (bif Nat.blt m 40 then (bif Nat.blt m 36 then (bif Nat.blt m 34 then (bif Nat.blt m 33 then (bif Nat.beq m 32 then 43 else 0) else
        (bif Nat.beq m 33 then 42 else 0)) else
       (bif Nat.blt m 35 then (bif Nat.beq m 34 then 129 else 0) else
        (bif Nat.beq m 35 then 20 else 0))) else
      (bif Nat.blt m 38 then (bif Nat.blt m 37 then (bif Nat.beq m 36 then 21 else 0) else
        (bif Nat.beq m 37 then 0 else 0)) else
       (bif Nat.blt m 39 then (bif Nat.beq m 38 then 42 else 0) else
        (bif Nat.beq m 39 then 0 else 0)))) else
     (bif Nat.blt m 44 then (bif Nat.blt m 42 then (bif Nat.blt m 41 then (bif Nat.beq m 40 then 21 else 0) else
        (bif Nat.beq m 41 then 21 else 0)) else
       (bif Nat.blt m 43 then (bif Nat.beq m 42 then 0 else 0) else
        (bif Nat.beq m 43 then 0 else 0))) else
      (bif Nat.blt m 46 then (bif Nat.blt m 45 then (bif Nat.beq m 44 then 21 else 0) else
        (bif Nat.beq m 45 then 21 else 0)) else
       (bif Nat.blt m 47 then (bif Nat.beq m 46 then 21 else 0) else
        (bif Nat.beq m 47 then 21 else 0))))) else
    (bif Nat.blt m 56 then (bif Nat.blt m 52 then (bif Nat.blt m 50 then (bif Nat.blt m 49 then (bif Nat.beq m 48 then 21 else 0) else
        (bif Nat.beq m 49 then 42 else 0)) else
       (bif Nat.blt m 51 then (bif Nat.beq m 50 then 21 else 0) else
        (bif Nat.beq m 51 then 21 else 0))) else
      (bif Nat.blt m 54 then (bif Nat.blt m 53 then (bif Nat.beq m 52 then 21 else 0) else
        (bif Nat.beq m 53 then 0 else 0)) else
       (bif Nat.blt m 55 then (bif Nat.beq m 54 then 42 else 0) else
        (bif Nat.beq m 55 then 42 else 0)))) else
     (bif Nat.blt m 60 then (bif Nat.blt m 58 then (bif Nat.blt m 57 then (bif Nat.beq m 56 then 42 else 0) else
        (bif Nat.beq m 57 then 20 else 0)) else
       (bif Nat.blt m 59 then (bif Nat.beq m 58 then 70 else 0) else
        (bif Nat.beq m 59 then 46 else 0))) else
      (bif Nat.blt m 62 then (bif Nat.blt m 61 then (bif Nat.beq m 60 then 21 else 0) else
        (bif Nat.beq m 61 then 0 else 0)) else
       (bif Nat.blt m 63 then (bif Nat.beq m 62 then 47 else 0) else
        (bif Nat.blt m 64 then (bif Nat.beq m 63 then 0 else 0) else
         (bif Nat.beq m 64 then 67 else 0)))))))) else
  (bif Nat.blt m 98 then (bif Nat.blt m 81 then (bif Nat.blt m 73 then (bif Nat.blt m 69 then (bif Nat.blt m 67 then (bif Nat.blt m 66 then (bif Nat.beq m 65 then 46 else 0) else
        (bif Nat.beq m 66 then 113 else 0)) else
       (bif Nat.blt m 68 then (bif Nat.beq m 67 then 67 else 0) else
        (bif Nat.beq m 68 then 87 else 0))) else
      (bif Nat.blt m 71 then (bif Nat.blt m 70 then (bif Nat.beq m 69 then 21 else 0) else
        (bif Nat.beq m 70 then 65 else 0)) else
       (bif Nat.blt m 72 then (bif Nat.beq m 71 then 42 else 0) else
        (bif Nat.beq m 72 then 64 else 0)))) else
     (bif Nat.blt m 77 then (bif Nat.blt m 75 then (bif Nat.blt m 74 then (bif Nat.beq m 73 then 113 else 0) else
        (bif Nat.beq m 74 then 0 else 0)) else
       (bif Nat.blt m 76 then (bif Nat.beq m 75 then 113 else 0) else
        (bif Nat.beq m 76 then 113 else 0))) else
      (bif Nat.blt m 79 then (bif Nat.blt m 78 then (bif Nat.beq m 77 then 0 else 0) else
        (bif Nat.beq m 78 then 87 else 0)) else
       (bif Nat.blt m 80 then (bif Nat.beq m 79 then 22 else 0) else
        (bif Nat.beq m 80 then 331 else 0))))) else
    (bif Nat.blt m 89 then (bif Nat.blt m 85 then (bif Nat.blt m 83 then (bif Nat.blt m 82 then (bif Nat.beq m 81 then 20 else 0) else
        (bif Nat.beq m 82 then 188 else 0)) else
       (bif Nat.blt m 84 then (bif Nat.beq m 83 then 167 else 0) else
        (bif Nat.beq m 84 then 21 else 0))) else
      (bif Nat.blt m 87 then (bif Nat.blt m 86 then (bif Nat.beq m 85 then 0 else 0) else
        (bif Nat.beq m 86 then 0 else 0)) else
       (bif Nat.blt m 88 then (bif Nat.beq m 87 then 21 else 0) else
        (bif Nat.beq m 88 then 0 else 0)))) else
     (bif Nat.blt m 93 then (bif Nat.blt m 91 then (bif Nat.blt m 90 then (bif Nat.beq m 89 then 21 else 0) else
        (bif Nat.beq m 90 then 21 else 0)) else
       (bif Nat.blt m 92 then (bif Nat.beq m 91 then 0 else 0) else
        (bif Nat.beq m 92 then 102 else 0))) else
      (bif Nat.blt m 95 then (bif Nat.blt m 94 then (bif Nat.beq m 93 then 0 else 0) else
        (bif Nat.beq m 94 then 84 else 0)) else
       (bif Nat.blt m 96 then (bif Nat.beq m 95 then 37 else 0) else
        (bif Nat.blt m 97 then (bif Nat.beq m 96 then 0 else 0) else
         (bif Nat.beq m 97 then 0 else 0))))))) else
   (bif Nat.blt m 114 then (bif Nat.blt m 106 then (bif Nat.blt m 102 then (bif Nat.blt m 100 then (bif Nat.blt m 99 then (bif Nat.beq m 98 then 0 else 0) else
        (bif Nat.beq m 99 then 0 else 0)) else
       (bif Nat.blt m 101 then (bif Nat.beq m 100 then 61 else 0) else
        (bif Nat.beq m 101 then 61 else 0))) else
      (bif Nat.blt m 104 then (bif Nat.blt m 103 then (bif Nat.beq m 102 then 22 else 0) else
        (bif Nat.beq m 103 then 0 else 0)) else
       (bif Nat.blt m 105 then (bif Nat.beq m 104 then 0 else 0) else
        (bif Nat.beq m 105 then 24 else 0)))) else
     (bif Nat.blt m 110 then (bif Nat.blt m 108 then (bif Nat.blt m 107 then (bif Nat.beq m 106 then 0 else 0) else
        (bif Nat.beq m 107 then 0 else 0)) else
       (bif Nat.blt m 109 then (bif Nat.beq m 108 then 24 else 0) else
        (bif Nat.beq m 109 then 0 else 0))) else
      (bif Nat.blt m 112 then (bif Nat.blt m 111 then (bif Nat.beq m 110 then 21 else 0) else
        (bif Nat.beq m 111 then 0 else 0)) else
       (bif Nat.blt m 113 then (bif Nat.beq m 112 then 46 else 0) else
        (bif Nat.beq m 113 then 20 else 0))))) else
    (bif Nat.blt m 122 then (bif Nat.blt m 118 then (bif Nat.blt m 116 then (bif Nat.blt m 115 then (bif Nat.beq m 114 then 93 else 0) else
        (bif Nat.beq m 115 then 44 else 0)) else
       (bif Nat.blt m 117 then (bif Nat.beq m 116 then 21 else 0) else
        (bif Nat.beq m 117 then 0 else 0))) else
      (bif Nat.blt m 120 then (bif Nat.blt m 119 then (bif Nat.beq m 118 then 0 else 0) else
        (bif Nat.beq m 119 then 68 else 0)) else
       (bif Nat.blt m 121 then (bif Nat.beq m 120 then 0 else 0) else
        (bif Nat.beq m 121 then 44 else 0)))) else
     (bif Nat.blt m 126 then (bif Nat.blt m 124 then (bif Nat.blt m 123 then (bif Nat.beq m 122 then 0 else 0) else
        (bif Nat.beq m 123 then 68 else 0)) else
       (bif Nat.blt m 125 then (bif Nat.beq m 124 then 20 else 0) else
        (bif Nat.beq m 125 then 20 else 0))) else
      (bif Nat.blt m 128 then (bif Nat.blt m 127 then (bif Nat.beq m 126 then 0 else 0) else
        (bif Nat.beq m 127 then 20 else 0)) else
       (bif Nat.blt m 129 then (bif Nat.beq m 128 then 20 else 0) else
        (bif Nat.blt m 130 then (bif Nat.beq m 129 then 20 else 0) else
         (bif Nat.beq m 130 then 20 else 0))))))))) else
 (bif Nat.blt m 196 then (bif Nat.blt m 163 then (bif Nat.blt m 147 then (bif Nat.blt m 139 then (bif Nat.blt m 135 then (bif Nat.blt m 133 then (bif Nat.blt m 132 then (bif Nat.beq m 131 then 20 else 0) else
        (bif Nat.beq m 132 then 0 else 0)) else
       (bif Nat.blt m 134 then (bif Nat.beq m 133 then 20 else 0) else
        (bif Nat.beq m 134 then 0 else 0))) else
      (bif Nat.blt m 137 then (bif Nat.blt m 136 then (bif Nat.beq m 135 then 20 else 0) else
        (bif Nat.beq m 136 then 120 else 0)) else
       (bif Nat.blt m 138 then (bif Nat.beq m 137 then 144 else 0) else
        (bif Nat.beq m 138 then 0 else 0)))) else
     (bif Nat.blt m 143 then (bif Nat.blt m 141 then (bif Nat.blt m 140 then (bif Nat.beq m 139 then 120 else 0) else
        (bif Nat.beq m 140 then 0 else 0)) else
       (bif Nat.blt m 142 then (bif Nat.beq m 141 then 0 else 0) else
        (bif Nat.beq m 142 then 0 else 0))) else
      (bif Nat.blt m 145 then (bif Nat.blt m 144 then (bif Nat.beq m 143 then 0 else 0) else
        (bif Nat.beq m 144 then 0 else 0)) else
       (bif Nat.blt m 146 then (bif Nat.beq m 145 then 0 else 0) else
        (bif Nat.beq m 146 then 231 else 0))))) else
    (bif Nat.blt m 155 then (bif Nat.blt m 151 then (bif Nat.blt m 149 then (bif Nat.blt m 148 then (bif Nat.beq m 147 then 0 else 0) else
        (bif Nat.beq m 148 then 286 else 0)) else
       (bif Nat.blt m 150 then (bif Nat.beq m 149 then 0 else 0) else
        (bif Nat.beq m 150 then 0 else 0))) else
      (bif Nat.blt m 153 then (bif Nat.blt m 152 then (bif Nat.beq m 151 then 21 else 0) else
        (bif Nat.beq m 152 then 21 else 0)) else
       (bif Nat.blt m 154 then (bif Nat.beq m 153 then 91 else 0) else
        (bif Nat.beq m 154 then 136 else 0)))) else
     (bif Nat.blt m 159 then (bif Nat.blt m 157 then (bif Nat.blt m 156 then (bif Nat.beq m 155 then 137 else 0) else
        (bif Nat.beq m 156 then 137 else 0)) else
       (bif Nat.blt m 158 then (bif Nat.beq m 157 then 21 else 0) else
        (bif Nat.beq m 158 then 99 else 0))) else
      (bif Nat.blt m 161 then (bif Nat.blt m 160 then (bif Nat.beq m 159 then 0 else 0) else
        (bif Nat.beq m 160 then 231 else 0)) else
       (bif Nat.blt m 162 then (bif Nat.beq m 161 then 99 else 0) else
        (bif Nat.beq m 162 then 99 else 0)))))) else
   (bif Nat.blt m 179 then (bif Nat.blt m 171 then (bif Nat.blt m 167 then (bif Nat.blt m 165 then (bif Nat.blt m 164 then (bif Nat.beq m 163 then 99 else 0) else
        (bif Nat.beq m 164 then 120 else 0)) else
       (bif Nat.blt m 166 then (bif Nat.beq m 165 then 99 else 0) else
        (bif Nat.beq m 166 then 42 else 0))) else
      (bif Nat.blt m 169 then (bif Nat.blt m 168 then (bif Nat.beq m 167 then 120 else 0) else
        (bif Nat.beq m 168 then 99 else 0)) else
       (bif Nat.blt m 170 then (bif Nat.beq m 169 then 120 else 0) else
        (bif Nat.beq m 170 then 99 else 0)))) else
     (bif Nat.blt m 175 then (bif Nat.blt m 173 then (bif Nat.blt m 172 then (bif Nat.beq m 171 then 120 else 0) else
        (bif Nat.beq m 172 then 120 else 0)) else
       (bif Nat.blt m 174 then (bif Nat.beq m 173 then 99 else 0) else
        (bif Nat.beq m 174 then 120 else 0))) else
      (bif Nat.blt m 177 then (bif Nat.blt m 176 then (bif Nat.beq m 175 then 120 else 0) else
        (bif Nat.beq m 176 then 134 else 0)) else
       (bif Nat.blt m 178 then (bif Nat.beq m 177 then 134 else 0) else
        (bif Nat.beq m 178 then 134 else 0))))) else
    (bif Nat.blt m 187 then (bif Nat.blt m 183 then (bif Nat.blt m 181 then (bif Nat.blt m 180 then (bif Nat.beq m 179 then 120 else 0) else
        (bif Nat.beq m 180 then 265 else 0)) else
       (bif Nat.blt m 182 then (bif Nat.beq m 181 then 155 else 0) else
        (bif Nat.beq m 182 then 99 else 0))) else
      (bif Nat.blt m 185 then (bif Nat.blt m 184 then (bif Nat.beq m 183 then 130 else 0) else
        (bif Nat.beq m 184 then 155 else 0)) else
       (bif Nat.blt m 186 then (bif Nat.beq m 185 then 120 else 0) else
        (bif Nat.beq m 186 then 120 else 0)))) else
     (bif Nat.blt m 191 then (bif Nat.blt m 189 then (bif Nat.blt m 188 then (bif Nat.beq m 187 then 167 else 0) else
        (bif Nat.beq m 188 then 144 else 0)) else
       (bif Nat.blt m 190 then (bif Nat.beq m 189 then 190 else 0) else
        (bif Nat.beq m 190 then 120 else 0))) else
      (bif Nat.blt m 193 then (bif Nat.blt m 192 then (bif Nat.beq m 191 then 120 else 0) else
        (bif Nat.beq m 192 then 254 else 0)) else
       (bif Nat.blt m 194 then (bif Nat.beq m 193 then 231 else 0) else
        (bif Nat.blt m 195 then (bif Nat.beq m 194 then 254 else 0) else
         (bif Nat.beq m 195 then 254 else 0)))))))) else
  (bif Nat.blt m 229 then (bif Nat.blt m 212 then (bif Nat.blt m 204 then (bif Nat.blt m 200 then (bif Nat.blt m 198 then (bif Nat.blt m 197 then (bif Nat.beq m 196 then 254 else 0) else
        (bif Nat.beq m 197 then 130 else 0)) else
       (bif Nat.blt m 199 then (bif Nat.beq m 198 then 120 else 0) else
        (bif Nat.beq m 199 then 130 else 0))) else
      (bif Nat.blt m 202 then (bif Nat.blt m 201 then (bif Nat.beq m 200 then 99 else 0) else
        (bif Nat.beq m 201 then 130 else 0)) else
       (bif Nat.blt m 203 then (bif Nat.beq m 202 then 120 else 0) else
        (bif Nat.beq m 203 then 192 else 0)))) else
     (bif Nat.blt m 208 then (bif Nat.blt m 206 then (bif Nat.blt m 205 then (bif Nat.beq m 204 then 291 else 0) else
        (bif Nat.beq m 205 then 20 else 0)) else
       (bif Nat.blt m 207 then (bif Nat.beq m 206 then 120 else 0) else
        (bif Nat.beq m 207 then 0 else 0))) else
      (bif Nat.blt m 210 then (bif Nat.blt m 209 then (bif Nat.beq m 208 then 267 else 0) else
        (bif Nat.beq m 209 then 242 else 0)) else
       (bif Nat.blt m 211 then (bif Nat.beq m 210 then 150 else 0) else
        (bif Nat.beq m 211 then 152 else 0))))) else
    (bif Nat.blt m 220 then (bif Nat.blt m 216 then (bif Nat.blt m 214 then (bif Nat.blt m 213 then (bif Nat.beq m 212 then 143 else 0) else
        (bif Nat.beq m 213 then 276 else 0)) else
       (bif Nat.blt m 215 then (bif Nat.beq m 214 then 276 else 0) else
        (bif Nat.beq m 215 then 352 else 0))) else
      (bif Nat.blt m 218 then (bif Nat.blt m 217 then (bif Nat.beq m 216 then 286 else 0) else
        (bif Nat.beq m 217 then 142 else 0)) else
       (bif Nat.blt m 219 then (bif Nat.beq m 218 then 189 else 0) else
        (bif Nat.beq m 219 then 0 else 0)))) else
     (bif Nat.blt m 224 then (bif Nat.blt m 222 then (bif Nat.blt m 221 then (bif Nat.beq m 220 then 313 else 0) else
        (bif Nat.beq m 221 then 277 else 0)) else
       (bif Nat.blt m 223 then (bif Nat.beq m 222 then 277 else 0) else
        (bif Nat.beq m 223 then 0 else 0))) else
      (bif Nat.blt m 226 then (bif Nat.blt m 225 then (bif Nat.beq m 224 then 0 else 0) else
        (bif Nat.beq m 225 then 0 else 0)) else
       (bif Nat.blt m 227 then (bif Nat.beq m 226 then 0 else 0) else
        (bif Nat.blt m 228 then (bif Nat.beq m 227 then 21 else 0) else
         (bif Nat.beq m 228 then 0 else 0))))))) else
   (bif Nat.blt m 245 then (bif Nat.blt m 237 then (bif Nat.blt m 233 then (bif Nat.blt m 231 then (bif Nat.blt m 230 then (bif Nat.beq m 229 then 224 else 0) else
        (bif Nat.beq m 230 then 200 else 0)) else
       (bif Nat.blt m 232 then (bif Nat.beq m 231 then 99 else 0) else
        (bif Nat.beq m 232 then 0 else 0))) else
      (bif Nat.blt m 235 then (bif Nat.blt m 234 then (bif Nat.beq m 233 then 27 else 0) else
        (bif Nat.beq m 234 then 0 else 0)) else
       (bif Nat.blt m 236 then (bif Nat.beq m 235 then 27 else 0) else
        (bif Nat.beq m 236 then 0 else 0)))) else
     (bif Nat.blt m 241 then (bif Nat.blt m 239 then (bif Nat.blt m 238 then (bif Nat.beq m 237 then 307 else 0) else
        (bif Nat.beq m 238 then 243 else 0)) else
       (bif Nat.blt m 240 then (bif Nat.beq m 239 then 147 else 0) else
        (bif Nat.beq m 240 then 122 else 0))) else
      (bif Nat.blt m 243 then (bif Nat.blt m 242 then (bif Nat.beq m 241 then 0 else 0) else
        (bif Nat.beq m 242 then 221 else 0)) else
       (bif Nat.blt m 244 then (bif Nat.beq m 243 then 200 else 0) else
        (bif Nat.beq m 244 then 169 else 0))))) else
    (bif Nat.blt m 253 then (bif Nat.blt m 249 then (bif Nat.blt m 247 then (bif Nat.blt m 246 then (bif Nat.beq m 245 then 169 else 0) else
        (bif Nat.beq m 246 then 0 else 0)) else
       (bif Nat.blt m 248 then (bif Nat.beq m 247 then 0 else 0) else
        (bif Nat.beq m 248 then 99 else 0))) else
      (bif Nat.blt m 251 then (bif Nat.blt m 250 then (bif Nat.beq m 249 then 20 else 0) else
        (bif Nat.beq m 250 then 0 else 0)) else
       (bif Nat.blt m 252 then (bif Nat.beq m 251 then 221 else 0) else
        (bif Nat.beq m 252 then 0 else 0)))) else
     (bif Nat.blt m 257 then (bif Nat.blt m 255 then (bif Nat.blt m 254 then (bif Nat.beq m 253 then 270 else 0) else
        (bif Nat.beq m 254 then 246 else 0)) else
       (bif Nat.blt m 256 then (bif Nat.beq m 255 then 0 else 0) else
        (bif Nat.beq m 256 then 0 else 0))) else
      (bif Nat.blt m 259 then (bif Nat.blt m 258 then (bif Nat.beq m 257 then 0 else 0) else
        (bif Nat.beq m 258 then 99 else 0)) else
       (bif Nat.blt m 260 then (bif Nat.beq m 259 then 200 else 0) else
        (bif Nat.blt m 261 then (bif Nat.beq m 260 then 0 else 0) else
         (bif Nat.beq m 261 then 378 else 0))))))))))
def zrmx (f l f2 l2 : Nat) : Bool := Nat.ble f2 f && Nat.ble l2 l
/-- there is room for frames and locals -/
noncomputable def zrm (m f l : Nat) : Bool := zrmx (zrf m) (zrl m) f l
noncomputable def zfin (c k : Nat) : Bool :=
 (bif Nat.blt c 6 then (bif Nat.blt c 3 then (bif Nat.blt c 1 then (bif Nat.beq c 0 then (bif Nat.blt k 2 then (bif Nat.blt k 1 then (bif Nat.beq k 0 then true else false) else
  (bif Nat.beq k 1 then true else false)) else
 (bif Nat.blt k 3 then (bif Nat.beq k 2 then false else false) else
  (bif Nat.blt k 4 then (bif Nat.beq k 3 then true else false) else
   (bif Nat.beq k 4 then true else false)))) else false) else
   (bif Nat.blt c 2 then (bif Nat.beq c 1 then (bif Nat.beq k 0 then true else false) else false) else
    (bif Nat.beq c 2 then (bif Nat.blt k 2 then (bif Nat.blt k 1 then (bif Nat.beq k 0 then false else false) else
  (bif Nat.beq k 1 then false else false)) else
 (bif Nat.blt k 3 then (bif Nat.beq k 2 then true else false) else
  (bif Nat.blt k 4 then (bif Nat.beq k 3 then true else false) else
   (bif Nat.beq k 4 then true else false)))) else false))) else
  (bif Nat.blt c 4 then (bif Nat.beq c 3 then (bif Nat.blt k 4 then (bif Nat.blt k 2 then (bif Nat.blt k 1 then (bif Nat.beq k 0 then false else false) else
   (bif Nat.beq k 1 then false else false)) else
  (bif Nat.blt k 3 then (bif Nat.beq k 2 then true else false) else
   (bif Nat.beq k 3 then true else false))) else
 (bif Nat.blt k 6 then (bif Nat.blt k 5 then (bif Nat.beq k 4 then false else false) else
   (bif Nat.beq k 5 then false else false)) else
  (bif Nat.blt k 7 then (bif Nat.beq k 6 then false else false) else
   (bif Nat.beq k 7 then false else false)))) else false) else
   (bif Nat.blt c 5 then (bif Nat.beq c 4 then (bif Nat.blt k 7 then (bif Nat.blt k 3 then (bif Nat.blt k 1 then (bif Nat.beq k 0 then false else false) else
   (bif Nat.blt k 2 then (bif Nat.beq k 1 then false else false) else
    (bif Nat.beq k 2 then false else false))) else
  (bif Nat.blt k 5 then (bif Nat.blt k 4 then (bif Nat.beq k 3 then true else false) else
    (bif Nat.beq k 4 then true else false)) else
   (bif Nat.blt k 6 then (bif Nat.beq k 5 then true else false) else
    (bif Nat.beq k 6 then true else false)))) else
 (bif Nat.blt k 10 then (bif Nat.blt k 8 then (bif Nat.beq k 7 then true else false) else
   (bif Nat.blt k 9 then (bif Nat.beq k 8 then true else false) else
    (bif Nat.beq k 9 then true else false))) else
  (bif Nat.blt k 12 then (bif Nat.blt k 11 then (bif Nat.beq k 10 then true else false) else
    (bif Nat.beq k 11 then true else false)) else
   (bif Nat.blt k 13 then (bif Nat.beq k 12 then true else false) else
    (bif Nat.beq k 13 then true else false))))) else false) else
    (bif Nat.beq c 5 then (bif Nat.blt k 5 then (bif Nat.blt k 2 then (bif Nat.blt k 1 then (bif Nat.beq k 0 then true else false) else
   (bif Nat.beq k 1 then false else false)) else
  (bif Nat.blt k 3 then (bif Nat.beq k 2 then false else false) else
   (bif Nat.blt k 4 then (bif Nat.beq k 3 then true else false) else
    (bif Nat.beq k 4 then true else false)))) else
 (bif Nat.blt k 7 then (bif Nat.blt k 6 then (bif Nat.beq k 5 then true else false) else
   (bif Nat.beq k 6 then false else false)) else
  (bif Nat.blt k 8 then (bif Nat.beq k 7 then false else false) else
   (bif Nat.blt k 9 then (bif Nat.beq k 8 then false else false) else
    (bif Nat.beq k 9 then false else false))))) else false)))) else
 (bif Nat.blt c 9 then (bif Nat.blt c 7 then (bif Nat.beq c 6 then (bif Nat.blt k 4 then (bif Nat.blt k 2 then (bif Nat.blt k 1 then (bif Nat.beq k 0 then false else false) else
   (bif Nat.beq k 1 then false else false)) else
  (bif Nat.blt k 3 then (bif Nat.beq k 2 then true else false) else
   (bif Nat.beq k 3 then false else false))) else
 (bif Nat.blt k 6 then (bif Nat.blt k 5 then (bif Nat.beq k 4 then false else false) else
   (bif Nat.beq k 5 then true else false)) else
  (bif Nat.blt k 7 then (bif Nat.beq k 6 then true else false) else
   (bif Nat.blt k 8 then (bif Nat.beq k 7 then false else false) else
    (bif Nat.beq k 8 then false else false))))) else false) else
   (bif Nat.blt c 8 then (bif Nat.beq c 7 then (bif Nat.blt k 8 then (bif Nat.blt k 4 then (bif Nat.blt k 2 then (bif Nat.blt k 1 then (bif Nat.beq k 0 then false else false) else
    (bif Nat.beq k 1 then false else false)) else
   (bif Nat.blt k 3 then (bif Nat.beq k 2 then true else false) else
    (bif Nat.beq k 3 then true else false))) else
  (bif Nat.blt k 6 then (bif Nat.blt k 5 then (bif Nat.beq k 4 then true else false) else
    (bif Nat.beq k 5 then true else false)) else
   (bif Nat.blt k 7 then (bif Nat.beq k 6 then true else false) else
    (bif Nat.beq k 7 then true else false)))) else
 (bif Nat.blt k 12 then (bif Nat.blt k 10 then (bif Nat.blt k 9 then (bif Nat.beq k 8 then true else false) else
    (bif Nat.beq k 9 then true else false)) else
   (bif Nat.blt k 11 then (bif Nat.beq k 10 then true else false) else
    (bif Nat.beq k 11 then true else false))) else
  (bif Nat.blt k 14 then (bif Nat.blt k 13 then (bif Nat.beq k 12 then true else false) else
    (bif Nat.beq k 13 then false else false)) else
   (bif Nat.blt k 15 then (bif Nat.beq k 14 then false else false) else
    (bif Nat.beq k 15 then false else false))))) else false) else
    (bif Nat.beq c 8 then (bif Nat.blt k 2 then (bif Nat.blt k 1 then (bif Nat.beq k 0 then true else false) else
  (bif Nat.beq k 1 then false else false)) else
 (bif Nat.blt k 3 then (bif Nat.beq k 2 then true else false) else
  (bif Nat.beq k 3 then true else false))) else false))) else
  (bif Nat.blt c 11 then (bif Nat.blt c 10 then (bif Nat.beq c 9 then (bif Nat.blt k 3 then (bif Nat.blt k 1 then (bif Nat.beq k 0 then false else false) else
  (bif Nat.blt k 2 then (bif Nat.beq k 1 then false else false) else
   (bif Nat.beq k 2 then true else false))) else
 (bif Nat.blt k 5 then (bif Nat.blt k 4 then (bif Nat.beq k 3 then true else false) else
   (bif Nat.beq k 4 then true else false)) else
  (bif Nat.blt k 6 then (bif Nat.beq k 5 then true else false) else
   (bif Nat.beq k 6 then true else false)))) else false) else
    (bif Nat.beq c 10 then (bif Nat.blt k 7 then (bif Nat.blt k 3 then (bif Nat.blt k 1 then (bif Nat.beq k 0 then true else false) else
   (bif Nat.blt k 2 then (bif Nat.beq k 1 then false else false) else
    (bif Nat.beq k 2 then true else false))) else
  (bif Nat.blt k 5 then (bif Nat.blt k 4 then (bif Nat.beq k 3 then false else false) else
    (bif Nat.beq k 4 then false else false)) else
   (bif Nat.blt k 6 then (bif Nat.beq k 5 then false else false) else
    (bif Nat.beq k 6 then true else false)))) else
 (bif Nat.blt k 11 then (bif Nat.blt k 9 then (bif Nat.blt k 8 then (bif Nat.beq k 7 then true else false) else
    (bif Nat.beq k 8 then true else false)) else
   (bif Nat.blt k 10 then (bif Nat.beq k 9 then true else false) else
    (bif Nat.beq k 10 then true else false))) else
  (bif Nat.blt k 13 then (bif Nat.blt k 12 then (bif Nat.beq k 11 then true else false) else
    (bif Nat.beq k 12 then true else false)) else
   (bif Nat.blt k 14 then (bif Nat.beq k 13 then false else false) else
    (bif Nat.beq k 14 then false else false))))) else false)) else
   (bif Nat.blt c 12 then (bif Nat.beq c 11 then (bif Nat.blt k 2 then (bif Nat.blt k 1 then (bif Nat.beq k 0 then false else false) else
  (bif Nat.beq k 1 then false else false)) else
 (bif Nat.blt k 3 then (bif Nat.beq k 2 then false else false) else
  (bif Nat.beq k 3 then false else false))) else false) else
    (bif Nat.beq c 12 then (bif Nat.blt k 2 then (bif Nat.blt k 1 then (bif Nat.beq k 0 then true else false) else
  (bif Nat.beq k 1 then true else false)) else
 (bif Nat.blt k 3 then (bif Nat.beq k 2 then false else false) else
  (bif Nat.beq k 3 then false else false))) else false)))))
noncomputable def zobo (c : Nat) : Nat :=
 (bif Nat.blt c 6 then (bif Nat.blt c 3 then (bif Nat.blt c 1 then (bif Nat.beq c 0 then 0 else 100) else
   (bif Nat.blt c 2 then (bif Nat.beq c 1 then 1 else 100) else
    (bif Nat.beq c 2 then 2 else 100))) else
  (bif Nat.blt c 4 then (bif Nat.beq c 3 then 3 else 100) else
   (bif Nat.blt c 5 then (bif Nat.beq c 4 then 4 else 100) else
    (bif Nat.beq c 5 then 5 else 100)))) else
 (bif Nat.blt c 9 then (bif Nat.blt c 7 then (bif Nat.beq c 6 then 6 else 100) else
   (bif Nat.blt c 8 then (bif Nat.beq c 7 then 7 else 100) else
    (bif Nat.beq c 8 then 8 else 100))) else
  (bif Nat.blt c 11 then (bif Nat.blt c 10 then (bif Nat.beq c 9 then 9 else 100) else
    (bif Nat.beq c 10 then 11 else 100)) else
   (bif Nat.blt c 12 then (bif Nat.beq c 11 then 12 else 100) else
    (bif Nat.beq c 12 then 20 else 100)))))
/-- a final field is written in its own class's constructors alone -/
noncomputable def zpfok (m f : Nat) : Bool := !(zfin (f / 64) (f % 64)) || (zctor m && Nat.beq (zown m) (zobo (f / 64)))
noncomputable def zhnd (m pc E : Nat) : Option Nat :=
 bif Nat.blt m 262 && Nat.blt pc 64 && Nat.blt E 4 then (bif Nat.blt m 213 then (bif Nat.blt m 211 then (bif Nat.blt m 210 then (bif Nat.beq m 208 then (if E = 0 ∧ 6 ≤ pc ∧ pc < 11 then some 12 else (if E = 1 ∧ 6 ≤ pc ∧ pc < 11 then some 16 else none)) else none) else
   (bif Nat.beq m 210 then (if E = 1 ∧ 0 ≤ pc ∧ pc < 4 then some 5 else none) else none)) else
  (bif Nat.blt m 212 then (bif Nat.beq m 211 then (if E = 3 ∧ 0 ≤ pc ∧ pc < 6 then some 7 else (if E = 0 ∧ 0 ≤ pc ∧ pc < 6 then some 11 else none)) else none) else
   (bif Nat.beq m 212 then (if E = 3 ∧ 0 ≤ pc ∧ pc < 6 then some 7 else (if E = 0 ∧ 0 ≤ pc ∧ pc < 6 then some 11 else none)) else none))) else
 (bif Nat.blt m 221 then (bif Nat.blt m 214 then (bif Nat.beq m 213 then (if E = 0 ∧ 6 ≤ pc ∧ pc < 11 then some 12 else (if E = 1 ∧ 6 ≤ pc ∧ pc < 11 then some 16 else none)) else none) else
   (bif Nat.beq m 214 then (if E = 0 ∧ 6 ≤ pc ∧ pc < 11 then some 12 else (if E = 1 ∧ 6 ≤ pc ∧ pc < 11 then some 16 else none)) else none)) else
  (bif Nat.blt m 222 then (bif Nat.beq m 221 then (if E = 3 ∧ 6 ≤ pc ∧ pc < 12 then some 13 else (if E = 0 ∧ 6 ≤ pc ∧ pc < 12 then some 18 else (if E = 1 ∧ 6 ≤ pc ∧ pc < 12 then some 23 else none))) else none) else
   (bif Nat.beq m 222 then (if E = 3 ∧ 6 ≤ pc ∧ pc < 12 then some 13 else (if E = 0 ∧ 6 ≤ pc ∧ pc < 12 then some 18 else (if E = 1 ∧ 6 ≤ pc ∧ pc < 12 then some 23 else none))) else none)))) else none
