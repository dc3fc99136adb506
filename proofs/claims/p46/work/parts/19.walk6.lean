/-! One step: all of them; a method's contract out of its runs. -/
theorem zwN_1 : zinP (.native ⟨"java/lang/Float", "floatToRawIntBits", "(F)I"⟩) 8043 := ⟨rfl, rfl⟩
theorem zwN_2 : zinP (.static ⟨"java/lang/Float", "floatToRawIntBits", "(F)I"⟩) 8042 := ⟨rfl, rfl⟩
theorem zwN_3 : zinP (.native ⟨"java/lang/Double", "doubleToRawLongBits", "(D)J"⟩) 8083 := ⟨rfl, rfl⟩
theorem zwN_4 : zinP (.static ⟨"java/lang/Double", "doubleToRawLongBits", "(D)J"⟩) 8082 := ⟨rfl, rfl⟩
theorem zwN_5 : zinP (.initialized (zcn 17)) (zpN 17) := ⟨rfl, rfl⟩
theorem zwN_6 : zinP (.initialized (zcn 18)) (zpN 18) := ⟨rfl, rfl⟩
theorem zwN_7 : zinP (.instanceMethod Lib.objectInit) 1040 := ⟨rfl, rfl⟩
theorem zwN_8 : zinP (.code Lib.objectInit ⟨#[0xb1]⟩ 1 none) 1041 := ⟨rfl, rfl⟩
section ZW
variable {p : Program} {l : Launch} {e : Env} {R : Room} {s : State} {m : MethodId} {args : Array Value} {below : List Frame} {meth : Method} {c : Code} {Q : State → Prop}
variable {q n : Nat} {r : (Option zV ⊕ Nat) × zH} {base n0 u0 : Nat} {adr adV : Nat → Nat} {dC : Nat → ClassId} {dI : Nat → Nat → Nat} {cA : Nat → ClassId} {L0 : Nat} {xs : Nat → Int32}
variable {pc len : Nat} {L : zL} {S : List zV} {h : zH} {H : Heap} {locs : List Loc} {cells slots : Nat} {ls : Array Slot}
theorem zw_intr {q2 k : Nat} {sp : Bool} {ins : Instr} (C : zCtx p l R s m args meth c q base adr adV dC dI cA L0 xs) (K : zWk p l e R s m args below meth c Q q n r base n0 u0 adr dC dI cA L0 xs) (hprop : zPr p l e R s m args below meth c Q q r base n0 u0 adr dC dI cA L0 xs) (hroom : zRoom R r n0 u0) (hIH : zIH l n base adr adV dC dI cA L0 xs) (hd : decode (zbytes q) pc = .ok (ins, 3)) (A : zAt s q base n0 u0 adr dC dI cA L0 xs H locs cells slots ls L S h) (hq : zcpM (zown q) k = some q2) (h9 : ¬ q2 < 900) (hi : (ins = .invokestatic k ∧ ((q2 = 902 ∨ q2 = 903 ∨ q2 = 906) ∨ q2 = 930 ∨ q2 = 932)) ∨ (ins = .invokevirtual k ∧ ((q2 = 904 ∨ q2 = 905) ∨ q2 = 908 ∨ q2 = 909 ∨ q2 = 920 ∨ q2 = 921 ∨ q2 = 931)) ∨ (ins = .invokespecial k ∧ q2 = 901))
    (hr : zinv q L S h (pc + 3) q2 sp (fun pc L S h => zX n q pc L S h) (fun k as pc2 L S h => zBack (zX n) q pc pc2 L S (zX n k 0 (zini as (zmaxl k)) [] h)) = some r) : W p l e R s m args below meth c H locs cells slots Q (F0 m pc ls (S.map (zenc (zrho base adr)))) := by
  obtain ⟨hx, hb, hml, hown, hts, hK, hSt, hin, ⟨hrf, hrl⟩, hl, hexc, hlk⟩ := id C
  obtain ⟨a1, a2, a3, a4, a5, a6, a7, a8⟩ := id A
  obtain ⟨lw, lq, ls9, lo9⟩ := lkM _ _ _ hq
  have hov9 : zovr q2 = false := by
    have : q2 = 901 ∨ q2 = 902 ∨ q2 = 903 ∨ q2 = 904 ∨ q2 = 905 ∨ q2 = 906 ∨ q2 = 908 ∨ q2 = 909 ∨ q2 = 920 ∨ q2 = 921 ∨ q2 = 930 ∨ q2 = 931 ∨ q2 = 932 := by omega
    rcases this with rfl | rfl | rfl | rfl | rfl | rfl | rfl | rfl | rfl | rfl | rfl | rfl | rfl <;> rfl
  rw [zlk_yy (lo9.symm.trans hov9)] at lw
  rw [show zyy q2 = zyI q2 by unfold zyy; rw [show Nat.blt q2 900 = false from Bool.eq_false_iff.mpr fun g => h9 (Nat.ble_eq.mp g)]; rfl] at lw
  have hmlk : (Cond.methodLink (zcn (zown q)) k (zyI q2)).before args s = true := hts _ (zin_ok lw) lw.2
  have hsz : c.maxLocals = ls.size := by rw [hml, a3.1, a4]
  unfold zinv at hr
  rw [if_neg h9] at hr
  rcases hi with ⟨rfl, (rfl | rfl | rfl) | rfl | rfl⟩ | ⟨rfl, (rfl | rfl) | rfl | rfl | rfl | rfl | rfl⟩ | ⟨rfl, rfl⟩
  · simp only at hr
    obtain ⟨x, S0, rfl, hr1⟩ := pF_some hr
    obtain ⟨⟨g3, g4⟩, hr2⟩ := gd_some hr1
    obtain ⟨rm1, rm2⟩ := zrm_ok g4
    refine vn_f2i hx hb hsz hown hmlk (hts _ (zin_ok zwN_1) zwN_1.2) (hts _ (zin_ok zwN_2) zwN_2.2) (hts _ (zin_ok zwN_5) zwN_5.2) (by omega) (by rw [zcs_e]; omega) hd ?_
    rw [show Value.int x.toInt32 = zenc (zrho base adr) (zI x.toInt32.toInt) from congrArg Value.int (zi_of _).symm]
    exact K _ _ (zI _ :: S0) _ _ _ _ _ _ hr2 ⟨a1, a2, a3, a4, a5, a6.tl.cons (zi_r _), a7, a8⟩
  · simp only at hr
    obtain ⟨x, S0, rfl, hr1⟩ := pD_some hr
    obtain ⟨⟨g3, g4⟩, hr2⟩ := gd_some hr1
    obtain ⟨rm1, rm2⟩ := zrm_ok g4
    exact vn_d2l hx hb hsz hown hmlk (hts _ (zin_ok zwN_3) zwN_3.2) (hts _ (zin_ok zwN_4) zwN_4.2) (hts _ (zin_ok zwN_6) zwN_6.2) (by omega) (by rw [zcs_e]; omega) hd (K _ _ (zJ _ :: S0) _ _ _ _ _ _ hr2 ⟨a1, a2, a3, a4, a5, a6.tl.cons trivial, a7, a8⟩)
  · simp only at hr
    exact zw_cop C K hroom hd A hmlk hr
  · simp only at hr
    exact zw_ac C K hd A hmlk hr
  · simp only at hr
    exact zw_chk C K hroom hd A lw hr
  · simp only at hr
    exact zw_len C K hroom hd A hmlk hr
  · simp only at hr
    exact zw_chr C K hroom hd A hmlk hr
  · simp only at hr
    exact zw_put C K hroom hd A hmlk hr
  · simp only at hr
    exact zw_cod C K hroom hd A hmlk hr
  · simp only at hr
    obtain ⟨x, S0, rfl, hr1⟩ := pR_some hr
    rcases zif_some hr1 with ⟨h40, hr2⟩ | ⟨h40, hr2⟩
    · obtain ⟨⟨g1, g3, g4⟩, hr3⟩ := gd_some hr2
      exact zw_len C K hroom hd A hmlk ((gd_t ⟨g1, h40, g3, g4⟩ _).trans hr3)
    · exact zw_invokevirtual_c (q2 := mSt_length) C K hprop hroom hIH hd A (by decide) hmlk rfl (by decide) hr2
  · simp only at hr
    obtain ⟨i9, S1, rfl, hr0⟩ := pI_some hr
    obtain ⟨x, S0, rfl, hr1⟩ := pR_some hr0
    rcases zif_some hr1 with ⟨h40, hr2⟩ | ⟨h40, hr2⟩
    · exact zw_chr C K hroom hd A hmlk hr2
    · exact zw_invokevirtual_c (q2 := mSt_charAt) C K hprop hroom hIH hd A (by decide) hmlk rfl (by decide) hr2
  · simp only at hr
    exact zw_cln hroom C K hd A hmlk hr
  · simp only at hr
    obtain ⟨g1, hr1⟩ := gd_some hr
    obtain ⟨x, S0, rfl, hr2⟩ := pR_some hr1
    obtain ⟨⟨g2, g3, g4⟩, hr3⟩ := gd_some hr2
    obtain ⟨rm1, rm2⟩ := zrm_ok g4
    rw [List.map_cons, zenc_R g2]
    have hcs : 2 * (F0 m pc ls (.ref (zrho base adr (zdr x)) :: S0.map (zenc (zrho base adr)))).monitorRoom + ((S0.map (zenc (zrho base adr))).map fun v => v.category).sum ≤ 8 := by
      rw [zcs_e]
      exact lv_room0 g3
    exact W.objInit hx hb hown hmlk (hts _ (zin_ok zwN_7) zwN_7.2) (hts _ (zin_ok zwN_8) zwN_8.2) rfl hsz.symm rfl hd (by omega) (by omega) (K _ _ S0 _ _ _ _ _ _ hr3 ⟨a1, a2, a3, a4, a5, a6.tl, a7, a8⟩)
theorem zw_step {i : Instr} (C : zCtx p l R s m args meth c q base adr adV dC dI cA L0 xs) (K : zWk p l e R s m args below meth c Q q n r base n0 u0 adr dC dI cA L0 xs) (hret : zRt p l e R s m args below meth c Q q r base n0 u0 adr dC dI cA L0 xs) (hthr : zTh p l e R s m args below meth c Q q r base n0 u0 adr dC dI cA L0 xs) (hprop : zPr p l e R s m args below meth c Q q r base n0 u0 adr dC dI cA L0 xs) (hroom : zRoom R r n0 u0) (hIH : zIH l n base adr adV dC dI cA L0 xs) (hz : zcode q pc = some (i, len)) (A : zAt s q base n0 u0 adr dC dI cA L0 xs H locs cells slots ls L S h)
    (hr : zExe q pc len i L S h (fun pc L S h => zX n q pc L S h) (fun v h => some (.inl v, h)) (fun E h => some (.inr E, h)) (fun k as pc2 L S h => zBack (zX n) q pc pc2 L S (zX n k 0 (zini as (zmaxl k)) [] h)) = some r) : W p l e R s m args below meth c H locs cells slots Q (F0 m pc ls (S.map (zenc (zrho base adr)))) := by
  obtain ⟨hd, hn, hj⟩ := zdec _ _ _ hz
  simp only at hd hn hj
  cases i with
  | iadd => exact zw_iadd C K hd hn A hr
  | isub => exact zw_isub C K hd hn A hr
  | imul => exact zw_imul C K hd hn A hr
  | idiv => exact zw_idiv C K hd hn A hr
  | irem => exact zw_irem C K hd hn A hr
  | iand => exact zw_iand C K hd hn A hr
  | ior => exact zw_ior C K hd hn A hr
  | ineg => exact zw_ineg C K hd hn A hr
  | lmul => exact zw_lmul C K hd hn A hr
  | i2c => exact zw_i2c C K hd hn A hr
  | dup_x1 => exact zw_dup_x1 C K hd hn A hr
  | aconst_null => exact zw_aconst_null C K hd hn A hr
  | checkcast _ => exact zw_checkcast C K hd hn A hr
  | ifnonnull _ => exact zw_ifnonnull C K hd hn hj A hr
  | ixor => exact zw_ixor C K hd hn A hr
  | ishl => exact zw_ishl C K hd hn A hr
  | ishr => exact zw_ishr C K hd hn A hr
  | iushr => exact zw_iushr C K hd hn A hr
  | ladd => exact zw_ladd C K hd hn A hr
  | lsub => exact zw_lsub C K hd hn A hr
  | land => exact zw_land C K hd hn A hr
  | lor => exact zw_lor C K hd hn A hr
  | lxor => exact zw_lxor C K hd hn A hr
  | lshl => exact zw_lshl C K hd hn A hr
  | lushr => exact zw_lushr C K hd hn A hr
  | lneg => exact zw_lneg C K hd hn A hr
  | lcmp => exact zw_lcmp C K hd hn A hr
  | i2l => exact zw_i2l C K hd hn A hr
  | l2i => exact zw_l2i C K hd hn A hr
  | i2b => exact zw_i2b C K hd hn A hr
  | i2f => exact zw_i2f C K hd hn A hr
  | i2d => exact zw_i2d C K hd hn A hr
  | f2i => exact zw_f2i C K hd hn A hr
  | d2l => exact zw_d2l C K hd hn A hr
  | f2d => exact zw_f2d C K hd hn A hr
  | fadd => exact zw_fadd C K hd hn A hr
  | fsub => exact zw_fsub C K hd hn A hr
  | fmul => exact zw_fmul C K hd hn A hr
  | fdiv => exact zw_fdiv C K hd hn A hr
  | dadd => exact zw_dadd C K hd hn A hr
  | dsub => exact zw_dsub C K hd hn A hr
  | dmul => exact zw_dmul C K hd hn A hr
  | ddiv => exact zw_ddiv C K hd hn A hr
  | fneg => exact zw_fneg C K hd hn A hr
  | dup => exact zw_dup C K hd hn A hr
  | dup2 => exact zw_dup2 C K hd hn A hr
  | pop => exact zw_pop C K hd hn A hr
  | iaload => exact zw_iaload C K hd hn A hr
  | laload => exact zw_laload C K hd hn A hr
  | baload => exact zw_baload C K hd hn A hr
  | aaload => exact zw_aaload C K hd hn A hr
  | iastore => exact zw_iastore C K hd hn A hr
  | lastore => exact zw_lastore C K hd hn A hr
  | bastore => exact zw_bastore C K hd hn A hr
  | aastore => exact zw_aastore C K hd hn A hr
  | arraylength => exact zw_arraylength C K hd hn A hr
  | aload _ => exact zw_aload C K hd hn A hr
  | aload_n _ => exact zw_aload_n C K hd hn A hr
  | iload _ => exact zw_iload C K hd hn A hr
  | iload_n _ => exact zw_iload_n C K hd hn A hr
  | lload _ => exact zw_lload C K hd hn A hr
  | lload_n _ => exact zw_lload_n C K hd hn A hr
  | fload _ => exact zw_fload C K hd hn A hr
  | fload_n _ => exact zw_fload_n C K hd hn A hr
  | dload _ => exact zw_dload C K hd hn A hr
  | dload_n _ => exact zw_dload_n C K hd hn A hr
  | astore _ => exact zw_astore C K hd hn A hr
  | astore_n _ => exact zw_astore_n C K hd hn A hr
  | istore _ => exact zw_istore C K hd hn A hr
  | istore_n _ => exact zw_istore_n C K hd hn A hr
  | lstore _ => exact zw_lstore C K hd hn A hr
  | lstore_n _ => exact zw_lstore_n C K hd hn A hr
  | fstore _ => exact zw_fstore C K hd hn A hr
  | fstore_n _ => exact zw_fstore_n C K hd hn A hr
  | dstore _ => exact zw_dstore C K hd hn A hr
  | dstore_n _ => exact zw_dstore_n C K hd hn A hr
  | iconst _ => exact zw_iconst C K hd hn A hr
  | bipush _ => exact zw_bipush C K hd hn A hr
  | sipush _ => exact zw_sipush C K hd hn A hr
  | lconst _ => exact zw_lconst C K hd hn A hr
  | ldc _ => exact zw_ldc C K hd hn A hr
  | ldc_w _ => exact zw_ldc_w C K hd hn A hr
  | ldc2_w _ => exact zw_ldc2_w C K hd hn A hr
  | fcmp _ => exact zw_fcmp C K hd hn A hr
  | dcmp _ => exact zw_dcmp C K hd hn A hr
  | getfield _ => exact zw_getfield C K hd hn A hr
  | putfield _ => exact zw_putfield C K hd hn A hr
  | getstatic _ => exact zw_getstatic C K hd hn A hr
  | ireturn => exact zw_ireturn hret C K hd hn A hr
  | lreturn => exact zw_lreturn hret C K hd hn A hr
  | freturn => exact zw_freturn hret C K hd hn A hr
  | dreturn => exact zw_dreturn hret C K hd hn A hr
  | areturn => exact zw_areturn hret C K hd hn A hr
  | return_ => exact zw_return_ hret C K hd hn A hr
  | fconst f =>
    have hf : f = 0 ∨ f = 1 ∨ f = 2 := (show ∀ g : Fin 3, g = 0 ∨ g = 1 ∨ g = 2 by decide) f
    rcases hf with rfl | rfl | rfl
    · exact zw_fconst0 C K hd hn A hr
    · exact zw_fconst1 C K hd hn A hr
    · exact zw_fconst2 C K hd hn A hr
  | dconst f =>
    have hf : f = 0 ∨ f = 1 := (show ∀ g : Fin 2, g = 0 ∨ g = 1 by decide) f
    rcases hf with rfl | rfl
    · exact zw_dconst0 C K hd hn A hr
    · exact zw_dconst1 C K hd hn A hr
  | iinc _ _ => exact zw_iinc C K hd hn A hr
  | ifCond _ _ => exact zw_ifCond C K hd hn hj A hr
  | if_icmp _ _ => exact zw_if_icmp C K hd hn hj A hr
  | goto _ => exact zw_goto C K hd hn hj A hr
  | tableswitch _ _ _ _ => exact zw_tableswitch C K hd hn hj A hr
  | lookupswitch _ _ => exact zw_lookupswitch C K hd hn hj A hr
  | new _ => exact zw_new hroom hthr C K hd hn A hr
  | newarray _ => exact zw_newarray hroom C K hd hn A hr
  | anewarray _ => exact zw_anewarray hroom C K hd hn A hr
  | multianewarray _ _ => exact zw_multianewarray hroom C K hd hn A hr
  | invokestatic k =>
    obtain rfl : len = 3 := hn.resolve_left (by simp [zilen])
    simp only [zExe] at hr
    split at hr
    · rename_i q2 hq
      rcases zif_some hr with ⟨h9, hr1⟩ | ⟨h9, hr1⟩
      · obtain ⟨g, hr2⟩ := gd_some hr1
        exact zw_invokestatic_r C K hprop hroom hIH hd A hq h9 g hr2
      · rcases zif_some hr1 with ⟨h99, hr1⟩ | ⟨h99, hr1⟩
        · obtain ⟨g, hr2⟩ := gd_some hr1
          exact zw_intr C K hprop hroom hIH hd A hq h9 (Or.inl ⟨rfl, Or.inl g⟩) hr2
        · obtain ⟨g, hr2⟩ := gd_some hr1
          exact zw_intr C K hprop hroom hIH hd A hq h9 (Or.inl ⟨rfl, Or.inr g⟩) hr2
    · cases hr
  | invokevirtual k =>
    obtain rfl : len = 3 := hn.resolve_left (by simp [zilen])
    simp only [zExe] at hr
    split at hr
    · rename_i q2 hq
      rcases zif_some hr with ⟨h9, hr1⟩ | ⟨h9, hr1⟩
      · obtain ⟨g, hr2⟩ := gd_some hr1
        cases hov : zovr q2 with
        | false => exact zw_invokevirtual_r C K hprop hroom hIH hd A hq h9 hov g hr2
        | true => exact zw_invokevirtual_u C K hprop hroom hIH hd A hq h9 hov g hr2
      · rcases zif_some hr1 with ⟨h99, hr1⟩ | ⟨h99, hr1⟩
        · obtain ⟨g, hr2⟩ := gd_some hr1
          exact zw_intr C K hprop hroom hIH hd A hq h9 (Or.inr (Or.inl ⟨rfl, Or.inl g⟩)) hr2
        · obtain ⟨g, hr2⟩ := gd_some hr1
          exact zw_intr C K hprop hroom hIH hd A hq h9 (Or.inr (Or.inl ⟨rfl, Or.inr g⟩)) hr2
    · cases hr
  | invokespecial k =>
    obtain rfl : len = 3 := hn.resolve_left (by simp [zilen])
    simp only [zExe] at hr
    split at hr
    · rename_i q2 hq
      obtain ⟨g, hr1⟩ := gd_some hr
      by_cases h9 : q2 < 900
      · cases hct : zctor q2 with
        | true => exact zw_invokespecial_r hct C K hprop hroom hIH hd A hq h9 hr1
        | false => exact zw_invokespecial_s hct C K hprop hroom hIH hd A hq h9 hr1
      · exact zw_intr C K hprop hroom hIH hd A hq h9 (Or.inr (Or.inr ⟨rfl, g.resolve_left h9⟩)) hr1
    · cases hr
  | _ => exact absurd hr (by simp [zExe])
theorem zWk_next (C : zCtx p l R s m args meth c q base adr adV dC dI cA L0 xs) (K : zWk p l e R s m args below meth c Q q n r base n0 u0 adr dC dI cA L0 xs) (hret : zRt p l e R s m args below meth c Q q r base n0 u0 adr dC dI cA L0 xs) (hthr : zTh p l e R s m args below meth c Q q r base n0 u0 adr dC dI cA L0 xs) (hprop : zPr p l e R s m args below meth c Q q r base n0 u0 adr dC dI cA L0 xs) (hroom : zRoom R r n0 u0) (hIH : zIH l n base adr adV dC dI cA L0 xs)  : zWk p l e R s m args below meth c Q q (n + 1) r base n0 u0 adr dC dI cA L0 xs := by
  intro pc L S h H locs cells slots ls hr A
  change zFun (zX n) q pc L S h = some r at hr
  unfold zFun zStp at hr
  split at hr
  · rename_i i len hz
    exact zw_step C K hret hthr hprop hroom hIH hz A hr
  · cases hr
end ZW
