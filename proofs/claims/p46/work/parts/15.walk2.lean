/-! One step: branches, and what reads and writes the heap. -/
theorem zt_eq {pc : Nat} {off : Int} (h : decide (0 ≤ (pc : Int) + off) = true) : (pc : Int) + off = (ztgt pc off : Int) := (Int.toNat_of_nonneg (of_decide_eq_true h)).symm
theorem zUin {c : Nat} (hc : c < 13) : ∀ w ∈ u_ws (zvn c) (zT c) (znf c), w ∈ lw_tbl ∧ goodWord w = true := by
  intro w hw
  obtain ⟨k, hk, rfl⟩ := List.mem_map.mp hw
  have h := ((zU_all c hc).1 k (List.mem_range.mp hk)).1
  exact ⟨zin_ok h, h.2⟩
def lw_good : List Cond := lw_tbl.filter goodWord
theorem lw_good_in {w : Cond} (h : w ∈ lw_tbl ∧ goodWord w = true) : w ∈ lw_good := List.mem_filter.mpr h
theorem zw_ldcwF {p : Program} {l : Launch} {e : Env} {R : Room} {s : State} {m : MethodId} {args : Array Value} {below : List Frame} {meth : Method} {c : Code} {H : Heap} {locs : List Loc} {cells slots : Nat} {Q : State → Prop} {pc : Nat} {ls : Array Slot} {rest : List Value} {cc : ByteArray} (hexec : p.tables.exec = Jvm.exec) (hb : c.code = cc) {own : String} {index : Nat} {v : UInt32} (hown : s.vm.findClass own = some m.cls) (hconst : (Jvm.Cond.constantFloat own index v).before args s = true) (hdg : decode cc pc = .ok (.ldc_w index, 3)) (k : W p l e R s m args below meth c H locs cells slots Q (F0 m (pc + 3) ls (.float v :: rest))) : W p l e R s m args below meth c H locs cells slots Q (F0 m pc ls rest) := by
  intro T hT X
  obtain ⟨t, a, b⟩ := k T hT X
  refine ⟨t, ?_, b⟩
  obtain ⟨k, cf, hk, hcf, hcp⟩ := Cond.constantFloat_spec hown hconst
  obtain ⟨k', hk', he⟩ := X.warmed.alike.2.2 _ _ hk
  have hdg' : decode c.code pc = .ok (.ldc_w index, 3) := by rw [hb]; exact hdg
  jvm_step X.here [hexec, hdg', ldc_w.wp_float (s := T) (f := F0 m pc ls rest) X.here.top hk' (by rw [he]; exact hcf) hcp]
  exact a
theorem zw_ldcwS {p : Program} {l : Launch} {e : Env} {R : Room} {s : State} {m : MethodId} {args : Array Value} {below : List Frame} {meth : Method} {c : Code} {H : Heap} {locs : List Loc} {cells slots : Nat} {Q : State → Prop} {pc : Nat} {ls : Array Slot} {rest : List Value} {cc : ByteArray} (hexec : p.tables.exec = Jvm.exec) (hb : c.code = cc) {own tx : String} {index q : Nat} (hown : s.vm.findClass own = some m.cls) (hZ : vk_R own index tx q s) (hdg : decode cc pc = .ok (.ldc_w index, 3)) (k : W p l e R s m args below meth c H locs cells slots Q (F0 m (pc + 3) ls (.ref q :: rest))) : W p l e R s m args below meth c H locs cells slots Q (F0 m pc ls rest) := by
  intro T hT X
  obtain ⟨t, a, b⟩ := k T hT X
  refine ⟨t, ?_, b⟩
  obtain ⟨k, cf, i, a', hk, hcf, hcp, -, hr, hev'⟩ := Cond.stringRef_spec hown hZ.1
  cases hZ.2.symm.trans hev'
  obtain ⟨k', hk', he⟩ := X.warmed.alike.2.2 _ _ hk
  have hr' : k'.resolved[index]? = some (some (.string q)) := by
    rcases X.warmed.entry hk hk' index with h | ⟨h, -⟩
    · rw [h]; exact hr
    · rw [hr] at h; cases h
  have hdg' : decode c.code pc = .ok (.ldc_w index, 3) := by rw [hb]; exact hdg
  jvm_step X.here [hexec, hdg', ldc_w.wp_string (e := e) (s := T) (f := F0 m pc ls rest) X.here.top hk' (by rw [he]; exact hcf) hcp hr']
  exact a
theorem ztab_some {pc : Nat} {x : Int} {k : Nat → zO} {d : zO} {r} : ∀ {l : List Int} {j : Int}, ztab pc x k l j d = some r → (∃ o, 0 ≤ x - j ∧ l[(x - j).toNat]? = some o ∧ k (ztgt pc o) = some r) ∨ ((x < j ∨ j + l.length ≤ x) ∧ d = some r)
  | [], j, h => Or.inr ⟨by simp; omega, h⟩
  | o :: l, j, h => by
    rcases zif_some h with ⟨e, h9⟩ | ⟨e, h9⟩
    · refine Or.inl ⟨o, by omega, ?_, h9⟩
      rw [show (x - j).toNat = 0 by omega]
      rfl
    · rcases ztab_some h9 with ⟨o2, h1, h2, h3⟩ | ⟨h1, h2⟩
      · refine Or.inl ⟨o2, by omega, ?_, h3⟩
        rw [show (x - j).toNat = (x - (j + 1)).toNat + 1 by omega, List.getElem?_cons_succ]
        exact h2
      · refine Or.inr ⟨?_, h2⟩
        simp only [List.length_cons]
        omega
theorem zsw_some {pc : Nat} {d x : Int} {k : Nat → zO} {r} : ∀ {l : List (Int × Int)}, zsw pc d x l k = some r → k (ztgt pc (lookupswitch.offset l d x)) = some r ∧ (lookupswitch.offset l d x = d ∨ ∃ o ∈ l, lookupswitch.offset l d x = o.2)
  | [], h => ⟨h, Or.inl rfl⟩
  | (a, o) :: l, h => by
    rw [lookupswitch.offset_cons]
    rcases zif_some h with ⟨e, h⟩ | ⟨e, h⟩
    · have e : a = x := e.symm
      rw [if_pos e]
      exact ⟨h, Or.inr ⟨_, List.mem_cons_self, rfl⟩⟩
    · have e : ¬ a = x := fun w => e w.symm
      rw [if_neg e]
      obtain ⟨h1, h2⟩ := zsw_some h
      refine ⟨h1, h2.elim Or.inl fun ⟨o2, h3, h4⟩ => Or.inr ⟨o2, List.mem_cons_of_mem _ h3, h4⟩⟩
section ZW
variable {p : Program} {l : Launch} {e : Env} {R : Room} {s : State} {m : MethodId} {args : Array Value} {below : List Frame} {meth : Method} {c : Code} {Q : State → Prop}
variable {q n : Nat} {r : (Option zV ⊕ Nat) × zH} {base n0 u0 : Nat} {adr adV : Nat → Nat} {dC : Nat → ClassId} {dI : Nat → Nat → Nat} {cA : Nat → ClassId} {L0 : Nat} {xs : Nat → Int32}
variable {pc len : Nat} {L : zL} {S : List zV} {h : zH} {H : Heap} {locs : List Loc} {cells slots : Nat} {ls : Array Slot}
theorem zw_ifCond {co : Jvm.ClassFile.Cond} {off : Int} (C : zCtx p l R s m args meth c q base adr adV dC dI cA L0 xs) (K : zWk p l e R s m args below meth c Q q n r base n0 u0 adr dC dI cA L0 xs) (hd : decode (zbytes q) pc = .ok (.ifCond co off, len)) (hn : zilen (.ifCond co off) = 0 ∨ len = zilen (.ifCond co off)) (hj : zjok pc (.ifCond co off) = true) (A : zAt s q base n0 u0 adr dC dI cA L0 xs H locs cells slots ls L S h)
    (hr : zExe q pc len (.ifCond co off) L S h (fun pc L S h => zX n q pc L S h) (fun v h => some (.inl v, h)) (fun E h => some (.inr E, h)) (fun k as pc2 L S h => zBack (zX n) q pc pc2 L S (zX n k 0 (zini as (zmaxl k)) [] h)) = some r) : W p l e R s m args below meth c H locs cells slots Q (F0 m pc ls (S.map (zenc (zrho base adr)))) := by
  obtain ⟨hx, hb, hml, hown, hts, hK, hSt, hin, ⟨hrf, hrl⟩, hl, hexc, hlk⟩ := id C
  obtain ⟨a1, a2, a3, a4, a5, a6, a7, a8⟩ := id A
  obtain rfl : len = 3 := hn.resolve_left (by simp [zilen])
  simp only [zExe] at hr
  obtain ⟨x, S0, rfl, hr1⟩ := pI_some hr
  have hx1 : inR x := a6.hd
  have hy1 : inR 0 := by decide
  cases co with
    | eq =>
      exact lv_if_eq hx hb hd (zt_eq hj) (fun hc => K _ _ S0 _ _ _ _ _ _ ((if_pos ((zi_eq hx1 hy1).mp hc)).symm.trans hr1) ⟨a1, a2, a3, a4, a5, a6.tl, a7, a8⟩) (fun hc => K _ _ S0 _ _ _ _ _ _ ((if_neg (fun w => hc ((zi_eq hx1 hy1).mpr w))).symm.trans hr1) ⟨a1, a2, a3, a4, a5, a6.tl, a7, a8⟩)
    | ne =>
      exact lv_if_ne hx hb hd (zt_eq hj) (fun hc => K _ _ S0 _ _ _ _ _ _ ((if_neg (fun w => hc ((zi_eq hx1 hy1).mpr w))).symm.trans hr1) ⟨a1, a2, a3, a4, a5, a6.tl, a7, a8⟩) (fun hc => K _ _ S0 _ _ _ _ _ _ ((if_pos ((zi_eq hx1 hy1).mp hc)).symm.trans hr1) ⟨a1, a2, a3, a4, a5, a6.tl, a7, a8⟩)
    | lt =>
      exact lv_if_lt hx hb hd (zt_eq hj) (fun hc => K _ _ S0 _ _ _ _ _ _ ((if_pos ((zi_lt hx1 hy1).mp hc)).symm.trans hr1) ⟨a1, a2, a3, a4, a5, a6.tl, a7, a8⟩) (fun hc => K _ _ S0 _ _ _ _ _ _ ((if_neg (fun w => hc ((zi_lt hx1 hy1).mpr w))).symm.trans hr1) ⟨a1, a2, a3, a4, a5, a6.tl, a7, a8⟩)
    | ge =>
      exact lv_if_ge hx hb hd (zt_eq hj) (fun hc => K _ _ S0 _ _ _ _ _ _ ((if_neg (Int.not_lt.mpr ((zi_le hy1 hx1).mp hc))).symm.trans hr1) ⟨a1, a2, a3, a4, a5, a6.tl, a7, a8⟩) (fun hc => K _ _ S0 _ _ _ _ _ _ ((if_pos (Int.not_le.mp (fun w => hc ((zi_le hy1 hx1).mpr w)))).symm.trans hr1) ⟨a1, a2, a3, a4, a5, a6.tl, a7, a8⟩)
    | gt =>
      exact lv_if_gt hx hb hd (zt_eq hj) (fun hc => K _ _ S0 _ _ _ _ _ _ ((if_pos ((zi_lt hy1 hx1).mp hc)).symm.trans hr1) ⟨a1, a2, a3, a4, a5, a6.tl, a7, a8⟩) (fun hc => K _ _ S0 _ _ _ _ _ _ ((if_neg (fun w => hc ((zi_lt hy1 hx1).mpr w))).symm.trans hr1) ⟨a1, a2, a3, a4, a5, a6.tl, a7, a8⟩)
    | le =>
      exact lv_if_le hx hb hd (zt_eq hj) (fun hc => K _ _ S0 _ _ _ _ _ _ ((if_neg (Int.not_lt.mpr ((zi_le hx1 hy1).mp hc))).symm.trans hr1) ⟨a1, a2, a3, a4, a5, a6.tl, a7, a8⟩) (fun hc => K _ _ S0 _ _ _ _ _ _ ((if_pos (Int.not_le.mp (fun w => hc ((zi_le hx1 hy1).mpr w)))).symm.trans hr1) ⟨a1, a2, a3, a4, a5, a6.tl, a7, a8⟩)
theorem zw_if_icmp {co : Jvm.ClassFile.Cond} {off : Int} (C : zCtx p l R s m args meth c q base adr adV dC dI cA L0 xs) (K : zWk p l e R s m args below meth c Q q n r base n0 u0 adr dC dI cA L0 xs) (hd : decode (zbytes q) pc = .ok (.if_icmp co off, len)) (hn : zilen (.if_icmp co off) = 0 ∨ len = zilen (.if_icmp co off)) (hj : zjok pc (.if_icmp co off) = true) (A : zAt s q base n0 u0 adr dC dI cA L0 xs H locs cells slots ls L S h)
    (hr : zExe q pc len (.if_icmp co off) L S h (fun pc L S h => zX n q pc L S h) (fun v h => some (.inl v, h)) (fun E h => some (.inr E, h)) (fun k as pc2 L S h => zBack (zX n) q pc pc2 L S (zX n k 0 (zini as (zmaxl k)) [] h)) = some r) : W p l e R s m args below meth c H locs cells slots Q (F0 m pc ls (S.map (zenc (zrho base adr)))) := by
  obtain ⟨hx, hb, hml, hown, hts, hK, hSt, hin, ⟨hrf, hrl⟩, hl, hexc, hlk⟩ := id C
  obtain ⟨a1, a2, a3, a4, a5, a6, a7, a8⟩ := id A
  obtain rfl : len = 3 := hn.resolve_left (by simp [zilen])
  simp only [zExe] at hr
  obtain ⟨y, S0, rfl, hr1⟩ := pI_some hr
  obtain ⟨x, S1, rfl, hr2⟩ := pI_some hr1
  have hx1 : inR x := a6.tl.hd
  have hy1 : inR y := a6.hd
  cases co with
    | eq =>
      exact lv_icmp_eq hx hb hd (zt_eq hj) (fun hc => K _ _ S1 _ _ _ _ _ _ ((if_pos ((zi_eq hx1 hy1).mp hc)).symm.trans hr2) ⟨a1, a2, a3, a4, a5, a6.tl.tl, a7, a8⟩) (fun hc => K _ _ S1 _ _ _ _ _ _ ((if_neg (fun w => hc ((zi_eq hx1 hy1).mpr w))).symm.trans hr2) ⟨a1, a2, a3, a4, a5, a6.tl.tl, a7, a8⟩)
    | ne =>
      exact lv_icmp_ne hx hb hd (zt_eq hj) (fun hc => K _ _ S1 _ _ _ _ _ _ ((if_neg (fun w => hc ((zi_eq hx1 hy1).mpr w))).symm.trans hr2) ⟨a1, a2, a3, a4, a5, a6.tl.tl, a7, a8⟩) (fun hc => K _ _ S1 _ _ _ _ _ _ ((if_pos ((zi_eq hx1 hy1).mp hc)).symm.trans hr2) ⟨a1, a2, a3, a4, a5, a6.tl.tl, a7, a8⟩)
    | lt =>
      exact lv_icmp_lt hx hb hd (zt_eq hj) (fun hc => K _ _ S1 _ _ _ _ _ _ ((if_pos ((zi_lt hx1 hy1).mp hc)).symm.trans hr2) ⟨a1, a2, a3, a4, a5, a6.tl.tl, a7, a8⟩) (fun hc => K _ _ S1 _ _ _ _ _ _ ((if_neg (fun w => hc ((zi_lt hx1 hy1).mpr w))).symm.trans hr2) ⟨a1, a2, a3, a4, a5, a6.tl.tl, a7, a8⟩)
    | ge =>
      exact lv_icmp_ge hx hb hd (zt_eq hj) (fun hc => K _ _ S1 _ _ _ _ _ _ ((if_neg (Int.not_lt.mpr ((zi_le hy1 hx1).mp hc))).symm.trans hr2) ⟨a1, a2, a3, a4, a5, a6.tl.tl, a7, a8⟩) (fun hc => K _ _ S1 _ _ _ _ _ _ ((if_pos (Int.not_le.mp (fun w => hc ((zi_le hy1 hx1).mpr w)))).symm.trans hr2) ⟨a1, a2, a3, a4, a5, a6.tl.tl, a7, a8⟩)
    | gt =>
      exact lv_icmp_gt hx hb hd (zt_eq hj) (fun hc => K _ _ S1 _ _ _ _ _ _ ((if_pos ((zi_lt hy1 hx1).mp hc)).symm.trans hr2) ⟨a1, a2, a3, a4, a5, a6.tl.tl, a7, a8⟩) (fun hc => K _ _ S1 _ _ _ _ _ _ ((if_neg (fun w => hc ((zi_lt hy1 hx1).mpr w))).symm.trans hr2) ⟨a1, a2, a3, a4, a5, a6.tl.tl, a7, a8⟩)
    | le =>
      exact lv_icmp_le hx hb hd (zt_eq hj) (fun hc => K _ _ S1 _ _ _ _ _ _ ((if_neg (Int.not_lt.mpr ((zi_le hx1 hy1).mp hc))).symm.trans hr2) ⟨a1, a2, a3, a4, a5, a6.tl.tl, a7, a8⟩) (fun hc => K _ _ S1 _ _ _ _ _ _ ((if_pos (Int.not_le.mp (fun w => hc ((zi_le hx1 hy1).mpr w)))).symm.trans hr2) ⟨a1, a2, a3, a4, a5, a6.tl.tl, a7, a8⟩)
theorem zw_goto {off : Int} (C : zCtx p l R s m args meth c q base adr adV dC dI cA L0 xs) (K : zWk p l e R s m args below meth c Q q n r base n0 u0 adr dC dI cA L0 xs) (hd : decode (zbytes q) pc = .ok (.goto off, len)) (hn : zilen (.goto off) = 0 ∨ len = zilen (.goto off)) (hj : zjok pc (.goto off) = true) (A : zAt s q base n0 u0 adr dC dI cA L0 xs H locs cells slots ls L S h)
    (hr : zExe q pc len (.goto off) L S h (fun pc L S h => zX n q pc L S h) (fun v h => some (.inl v, h)) (fun E h => some (.inr E, h)) (fun k as pc2 L S h => zBack (zX n) q pc pc2 L S (zX n k 0 (zini as (zmaxl k)) [] h)) = some r) : W p l e R s m args below meth c H locs cells slots Q (F0 m pc ls (S.map (zenc (zrho base adr)))) := by
  obtain ⟨hx, hb, hml, hown, hts, hK, hSt, hin, ⟨hrf, hrl⟩, hl, hexc, hlk⟩ := id C
  obtain ⟨a1, a2, a3, a4, a5, a6, a7, a8⟩ := id A
  obtain rfl : len = 3 := hn.resolve_left (by simp [zilen])
  simp only [zExe] at hr
  exact lv_goto hx hb hd (zt_eq hj) (K _ _ S _ _ _ _ _ _ hr ⟨a1, a2, a3, a4, a5, a6, a7, a8⟩)
theorem zw_tableswitch {d lo hi : Int} {offs : Array Int} (C : zCtx p l R s m args meth c q base adr adV dC dI cA L0 xs) (K : zWk p l e R s m args below meth c Q q n r base n0 u0 adr dC dI cA L0 xs) (hd : decode (zbytes q) pc = .ok (.tableswitch d lo hi offs, len)) (hn : zilen (.tableswitch d lo hi offs) = 0 ∨ len = zilen (.tableswitch d lo hi offs)) (hj : zjok pc (.tableswitch d lo hi offs) = true) (A : zAt s q base n0 u0 adr dC dI cA L0 xs H locs cells slots ls L S h)
    (hr : zExe q pc len (.tableswitch d lo hi offs) L S h (fun pc L S h => zX n q pc L S h) (fun v h => some (.inl v, h)) (fun E h => some (.inr E, h)) (fun k as pc2 L S h => zBack (zX n) q pc pc2 L S (zX n k 0 (zini as (zmaxl k)) [] h)) = some r) : W p l e R s m args below meth c H locs cells slots Q (F0 m pc ls (S.map (zenc (zrho base adr)))) := by
  obtain ⟨hx, hb, hml, hown, hts, hK, hSt, hin, ⟨hrf, hrl⟩, hl, hexc, hlk⟩ := id C
  obtain ⟨a1, a2, a3, a4, a5, a6, a7, a8⟩ := id A
  simp only [zExe] at hr
  obtain ⟨x, S0, rfl, hr1⟩ := pI_some hr
  have hx1 : inR x := a6.hd
  simp only [zjok, Bool.and_eq_true] at hj
  obtain ⟨⟨j1, j2⟩, j3⟩ := hj
  have j4 : (offs.toList.length : Int) = hi - lo + 1 := of_decide_eq_true j3
  rcases ztab_some hr1 with ⟨o, h1, h2, h3⟩ | ⟨h1, h2⟩
  · have h4 : o ∈ offs.toList := List.mem_of_getElem? h2
    have h5 := (List.getElem?_eq_some_iff.mp h2).1
    exact lv_tableIn hx hb hd (by rw [zi_to hx1]; omega) (by rw [zi_to hx1]; omega) (off := o) (by rw [zi_to hx1, ← Array.getElem?_toList]; exact h2) (zt_eq (List.all_eq_true.mp j2 o h4)) (K _ _ S0 _ _ _ _ _ _ h3 ⟨a1, a2, a3, a4, a5, a6.tl, a7, a8⟩)
  · exact lv_tableOut hx hb hd (by rw [zi_to hx1]; omega) (zt_eq j1) (K _ _ S0 _ _ _ _ _ _ h2 ⟨a1, a2, a3, a4, a5, a6.tl, a7, a8⟩)
theorem zw_lookupswitch {d : Int} {ps : Array (Int × Int)} (C : zCtx p l R s m args meth c q base adr adV dC dI cA L0 xs) (K : zWk p l e R s m args below meth c Q q n r base n0 u0 adr dC dI cA L0 xs) (hd : decode (zbytes q) pc = .ok (.lookupswitch d ps, len)) (hn : zilen (.lookupswitch d ps) = 0 ∨ len = zilen (.lookupswitch d ps)) (hj : zjok pc (.lookupswitch d ps) = true) (A : zAt s q base n0 u0 adr dC dI cA L0 xs H locs cells slots ls L S h)
    (hr : zExe q pc len (.lookupswitch d ps) L S h (fun pc L S h => zX n q pc L S h) (fun v h => some (.inl v, h)) (fun E h => some (.inr E, h)) (fun k as pc2 L S h => zBack (zX n) q pc pc2 L S (zX n k 0 (zini as (zmaxl k)) [] h)) = some r) : W p l e R s m args below meth c H locs cells slots Q (F0 m pc ls (S.map (zenc (zrho base adr)))) := by
  obtain ⟨hx, hb, hml, hown, hts, hK, hSt, hin, ⟨hrf, hrl⟩, hl, hexc, hlk⟩ := id C
  obtain ⟨a1, a2, a3, a4, a5, a6, a7, a8⟩ := id A
  simp only [zExe] at hr
  obtain ⟨x, S0, rfl, hr1⟩ := pI_some hr
  have hx1 : inR x := a6.hd
  simp only [zjok, Bool.and_eq_true] at hj
  obtain ⟨⟨j1, j2⟩, j3⟩ := hj
  obtain ⟨h1, h2⟩ := zsw_some hr1
  refine lv_lookup hx hb hd j3 (by rw [zi_to hx1]) (zt_eq ?_) (K _ _ S0 _ _ _ _ _ _ h1 ⟨a1, a2, a3, a4, a5, a6.tl, a7, a8⟩)
  rcases h2 with h2 | ⟨o, h3, h2⟩
  · rw [h2]; exact j1
  · rw [h2]; exact List.all_eq_true.mp j2 o h3
theorem zw_ldc {k : Nat} (C : zCtx p l R s m args meth c q base adr adV dC dI cA L0 xs) (K : zWk p l e R s m args below meth c Q q n r base n0 u0 adr dC dI cA L0 xs) (hd : decode (zbytes q) pc = .ok (.ldc k, len)) (hn : zilen (.ldc k) = 0 ∨ len = zilen (.ldc k)) (A : zAt s q base n0 u0 adr dC dI cA L0 xs H locs cells slots ls L S h)
    (hr : zExe q pc len (.ldc k) L S h (fun pc L S h => zX n q pc L S h) (fun v h => some (.inl v, h)) (fun E h => some (.inr E, h)) (fun k as pc2 L S h => zBack (zX n) q pc pc2 L S (zX n k 0 (zini as (zmaxl k)) [] h)) = some r) : W p l e R s m args below meth c H locs cells slots Q (F0 m pc ls (S.map (zenc (zrho base adr)))) := by
  obtain ⟨hx, hb, hml, hown, hts, hK, hSt, hin, ⟨hrf, hrl⟩, hl, hexc, hlk⟩ := id C
  obtain ⟨a1, a2, a3, a4, a5, a6, a7, a8⟩ := id A
  obtain rfl : len = 2 := hn.resolve_left (by simp [zilen])
  simp only [zExe] at hr
  split at hr
  · rename_i v hv
    rcases zif_some hr with ⟨hc, hr1⟩ | ⟨hc, hr1⟩
    · cases hr1
    rcases lkK _ _ _ hv with ⟨hk, hv1⟩ | ⟨k2, hk2, rfl, e1, e2⟩
    · have hw : (zKw (zown q) k v).before args s = true := hts _ (zin_ok hk) hk.2
      rcases v with x | x | x | x | x
      · exact lv_ldc hx hb hown hw hd (K _ _ (zI x :: S) _ _ _ _ _ _ hr1 ⟨a1, a2, a3, a4, a5, a6.cons hv1, a7, a8⟩)
      · exact absurd rfl hc
      · exact lv_ldcf hx hb hown hw hd (K _ _ (zF x :: S) _ _ _ _ _ _ hr1 ⟨a1, a2, a3, a4, a5, a6.cons trivial, a7, a8⟩)
      · exact absurd rfl hc
      · exact hv1.elim
    · have g := K (pc + 2) L (zR (some (zVB + 3 + k2)) :: S) _ _ _ _ _ _ hr1 ⟨a1, a2, a3, a4, a5, a6.cons trivial, a7, a8⟩
      rw [List.map_cons, show zenc (zrho base adr) (zR (some (zVB + 3 + k2))) = .ref (adr (3 + k2)) by rw [zenc_R rfl]; exact congrArg Value.ref (by rw [show zdr (some (zVB + 3 + k2)) = zVB + (3 + k2) from Nat.add_assoc _ _ _]; exact zrho_ge)] at g
      have hZ := hSt.2.2.2.1.2 k2 hk2
      rw [← e1, ← e2] at hZ
      exact va_ldcS hx hb hown hZ hd g
  · cases hr
theorem zw_ldc_w {k : Nat} (C : zCtx p l R s m args meth c q base adr adV dC dI cA L0 xs) (K : zWk p l e R s m args below meth c Q q n r base n0 u0 adr dC dI cA L0 xs) (hd : decode (zbytes q) pc = .ok (.ldc_w k, len)) (hn : zilen (.ldc_w k) = 0 ∨ len = zilen (.ldc_w k)) (A : zAt s q base n0 u0 adr dC dI cA L0 xs H locs cells slots ls L S h)
    (hr : zExe q pc len (.ldc_w k) L S h (fun pc L S h => zX n q pc L S h) (fun v h => some (.inl v, h)) (fun E h => some (.inr E, h)) (fun k as pc2 L S h => zBack (zX n) q pc pc2 L S (zX n k 0 (zini as (zmaxl k)) [] h)) = some r) : W p l e R s m args below meth c H locs cells slots Q (F0 m pc ls (S.map (zenc (zrho base adr)))) := by
  obtain ⟨hx, hb, hml, hown, hts, hK, hSt, hin, ⟨hrf, hrl⟩, hl, hexc, hlk⟩ := id C
  obtain ⟨a1, a2, a3, a4, a5, a6, a7, a8⟩ := id A
  obtain rfl : len = 3 := hn.resolve_left (by simp [zilen])
  simp only [zExe] at hr
  split at hr
  · rename_i v hv
    rcases zif_some hr with ⟨hc, hr1⟩ | ⟨hc, hr1⟩
    · cases hr1
    rcases lkK _ _ _ hv with ⟨hk, hv1⟩ | ⟨k2, hk2, rfl, e1, e2⟩
    · have hw : (zKw (zown q) k v).before args s = true := hts _ (zin_ok hk) hk.2
      rcases v with x | x | x | x | x
      · exact lv_ldcw hx hb hown hw hd (K _ _ (zI x :: S) _ _ _ _ _ _ hr1 ⟨a1, a2, a3, a4, a5, a6.cons hv1, a7, a8⟩)
      · exact absurd rfl hc
      · exact zw_ldcwF hx hb hown hw hd (K _ _ (zF x :: S) _ _ _ _ _ _ hr1 ⟨a1, a2, a3, a4, a5, a6.cons trivial, a7, a8⟩)
      · exact absurd rfl hc
      · exact hv1.elim
    · have g := K (pc + 3) L (zR (some (zVB + 3 + k2)) :: S) _ _ _ _ _ _ hr1 ⟨a1, a2, a3, a4, a5, a6.cons trivial, a7, a8⟩
      rw [List.map_cons, show zenc (zrho base adr) (zR (some (zVB + 3 + k2))) = .ref (adr (3 + k2)) by rw [zenc_R rfl]; exact congrArg Value.ref (by rw [show zdr (some (zVB + 3 + k2)) = zVB + (3 + k2) from Nat.add_assoc _ _ _]; exact zrho_ge)] at g
      have hZ := hSt.2.2.2.1.2 k2 hk2
      rw [← e1, ← e2] at hZ
      exact zw_ldcwS hx hb hown hZ hd g
  · cases hr
theorem zw_ldc2_w {k : Nat} (C : zCtx p l R s m args meth c q base adr adV dC dI cA L0 xs) (K : zWk p l e R s m args below meth c Q q n r base n0 u0 adr dC dI cA L0 xs) (hd : decode (zbytes q) pc = .ok (.ldc2_w k, len)) (hn : zilen (.ldc2_w k) = 0 ∨ len = zilen (.ldc2_w k)) (A : zAt s q base n0 u0 adr dC dI cA L0 xs H locs cells slots ls L S h)
    (hr : zExe q pc len (.ldc2_w k) L S h (fun pc L S h => zX n q pc L S h) (fun v h => some (.inl v, h)) (fun E h => some (.inr E, h)) (fun k as pc2 L S h => zBack (zX n) q pc pc2 L S (zX n k 0 (zini as (zmaxl k)) [] h)) = some r) : W p l e R s m args below meth c H locs cells slots Q (F0 m pc ls (S.map (zenc (zrho base adr)))) := by
  obtain ⟨hx, hb, hml, hown, hts, hK, hSt, hin, ⟨hrf, hrl⟩, hl, hexc, hlk⟩ := id C
  obtain ⟨a1, a2, a3, a4, a5, a6, a7, a8⟩ := id A
  obtain rfl : len = 3 := hn.resolve_left (by simp [zilen])
  simp only [zExe] at hr
  split at hr
  · rename_i v hv
    rcases zif_some hr with ⟨hc, hr1⟩ | ⟨hc, hr1⟩
    case inr => cases hr1
    rcases lkK _ _ _ hv with ⟨hk, hv1⟩ | ⟨k2, hk2, rfl, e1, e2⟩
    · have hw : (zKw (zown q) k v).before args s = true := hts _ (zin_ok hk) hk.2
      rcases v with x | x | x | x | x
      · cases hc
      · exact lv_ldc2 hx hb hown hw hd (K _ _ (zJ x :: S) _ _ _ _ _ _ hr1 ⟨a1, a2, a3, a4, a5, a6.cons trivial, a7, a8⟩)
      · cases hc
      · exact lv_ldc2d hx hb hown hw hd (K _ _ (zD x :: S) _ _ _ _ _ _ hr1 ⟨a1, a2, a3, a4, a5, a6.cons trivial, a7, a8⟩)
      · cases hc
    · cases hc
  · cases hr
theorem zw_getfield {k : Nat} (C : zCtx p l R s m args meth c q base adr adV dC dI cA L0 xs) (K : zWk p l e R s m args below meth c Q q n r base n0 u0 adr dC dI cA L0 xs) (hd : decode (zbytes q) pc = .ok (.getfield k, len)) (hn : zilen (.getfield k) = 0 ∨ len = zilen (.getfield k)) (A : zAt s q base n0 u0 adr dC dI cA L0 xs H locs cells slots ls L S h)
    (hr : zExe q pc len (.getfield k) L S h (fun pc L S h => zX n q pc L S h) (fun v h => some (.inl v, h)) (fun E h => some (.inr E, h)) (fun k as pc2 L S h => zBack (zX n) q pc pc2 L S (zX n k 0 (zini as (zmaxl k)) [] h)) = some r) : W p l e R s m args below meth c H locs cells slots Q (F0 m pc ls (S.map (zenc (zrho base adr)))) := by
  obtain ⟨hx, hb, hml, hown, hts, hK, hSt, hin, ⟨hrf, hrl⟩, hl, hexc, hlk⟩ := id C
  obtain ⟨a1, a2, a3, a4, a5, a6, a7, a8⟩ := id A
  obtain rfl : len = 3 := hn.resolve_left (by simp [zilen])
  simp only [zExe] at hr
  split at hr
  · rename_i f hf
    unfold zget at hr
    obtain ⟨r0, S0, rfl, hr1⟩ := pR_some hr
    obtain ⟨⟨g1, g2, g3⟩, hr2⟩ := gd_some hr1
    obtain ⟨g4, hr3⟩ := gd_some hr2
    obtain ⟨k1, -, k3⟩ := lkF _ _ _ hf
    obtain ⟨cell, q1, q2, q3, q4⟩ := (a1.2.2.1 _ g3).1 (by omega) (by omega)
    rw [g2, show 1 + f / 64 - 1 = f / 64 by omega] at q2 q4
    obtain ⟨hS, hfc, kC, hkC, hkind⟩ := hK.1 _ k1
    obtain ⟨cf, kf, fi, fd, hi, hsl⟩ := hS _ g4
    have hst := (u_facts hfc hkC (u_lays (ws := lw_good) (fun w hw => hts w (List.mem_filter.mp hw).1 (List.mem_filter.mp hw).2) (fun w hw => lw_good_in (zUin k1 w hw)) g4) hi).1
    have hval := q4 _ g4
    rw [← hsl] at hval
    rw [List.map_cons, zenc_R g1]
    have main : W p l e R s m args below meth c H locs cells slots Q (F0 m (pc + 3) ls (zenc (zrho base adr) (zfv h (f / 64) (zdr r0) (f % 64)) :: S0.map (zenc (zrho base adr)))) → W p l e R s m args below meth c H locs cells slots Q (F0 m pc ls (.ref (zrho base adr (zdr r0)) :: S0.map (zenc (zrho base adr)))) := by
      intro kk
      rcases k3 with k3 | ⟨e1, e2, e3⟩
      · exact W.getf hx hb hown (hts _ (zin_ok k3) k3.2) hi hst q1 (by rw [q3]; exact fun h => by cases h) hval rfl rfl hd kk
      · subst e2; subst e3
        rw [e1] at hown
        have hnw := hSt.2.2.2.2.2.2.2.1 (.fieldLinkNest "BackwardProofs$Runs" 83 "BackwardProofs$Program" "next" "[I" "BackwardProofs") (List.mem_append_left _ (by unfold zNw1; simp))
        exact va_Wgetf hx hb hown (va_Nw.use rfl hnw) hi hst q1 (by rw [q3]; exact fun h => by cases h) hval rfl rfl hd kk
    refine main ?_
    split at hr3
    · rename_i e9; rw [show zfv h (f / 64) (zdr r0) (f % 64) = zI (hI h (zdr r0) (f % 64)) by simp only [zfv, e9]]; exact K _ _ (zI _ :: S0) _ _ _ _ _ _ hr3 ⟨a1, a2, a3, a4, a5, a6.tl.cons (a1.2.2.2.1 _ _), a7, a8⟩
    · rename_i e9; rw [show zfv h (f / 64) (zdr r0) (f % 64) = zI (hI h (zdr r0) (f % 64)) by simp only [zfv, e9]]; exact K _ _ (zI _ :: S0) _ _ _ _ _ _ hr3 ⟨a1, a2, a3, a4, a5, a6.tl.cons (a1.2.2.2.1 _ _), a7, a8⟩
    · rename_i e9; rw [show zfv h (f / 64) (zdr r0) (f % 64) = zJ (hJ h (zdr r0) (f % 64)) by simp only [zfv, e9]]; exact K _ _ (zJ _ :: S0) _ _ _ _ _ _ hr3 ⟨a1, a2, a3, a4, a5, a6.tl.cons trivial, a7, a8⟩
    · rename_i e9; rw [show zfv h (f / 64) (zdr r0) (f % 64) = zF (hF h (zdr r0) (f % 64)) by simp only [zfv, e9]]; exact K _ _ (zF _ :: S0) _ _ _ _ _ _ hr3 ⟨a1, a2, a3, a4, a5, a6.tl.cons trivial, a7, a8⟩
    · rename_i e9; rw [show zfv h (f / 64) (zdr r0) (f % 64) = zD (hD h (zdr r0) (f % 64)) by simp only [zfv, e9]]; exact K _ _ (zD _ :: S0) _ _ _ _ _ _ hr3 ⟨a1, a2, a3, a4, a5, a6.tl.cons trivial, a7, a8⟩
    · rename_i e9; rw [show zfv h (f / 64) (zdr r0) (f % 64) = zR (hR h (zdr r0) (f % 64)) by simp only [zfv, e9]]; exact K _ _ (zR _ :: S0) _ _ _ _ _ _ hr3 ⟨a1, a2, a3, a4, a5, a6.tl.cons trivial, a7, a8⟩
    · rename_i e9; rw [show zfv h (f / 64) (zdr r0) (f % 64) = zI (hI h (zdr r0) (f % 64)) by simp only [zfv, e9]]; exact K _ _ (zI _ :: S0) _ _ _ _ _ _ hr3 ⟨a1, a2, a3, a4, a5, a6.tl.cons (a1.2.2.2.1 _ _), a7, a8⟩
    · cases hr3
  · cases hr
theorem zdn_fin {c k : Nat} (hc : c < 13) (hk : k < znf c) (h : zfin c k = true) : zvn c = zdn c := by
  by_cases h11 : c = 11
  · subst h11
    exfalso
    have a : ∀ k, k < 4 → zfin 11 k = false := by decide +kernel
    rw [a k hk] at h
    cases h
  · unfold zdn
    rw [show Nat.beq c 11 = false from Bool.eq_false_iff.mpr fun g => h11 (Nat.eq_of_beq_eq_true g)]
    rfl
theorem zw_put_core {v : zV} {r0 : Option Nat} {S0 : List zV} {h2 : zH} {f k : Nat} (C : zCtx p l R s m args meth c q base adr adV dC dI cA L0 xs) (K : zWk p l e R s m args below meth c Q q n r base n0 u0 adr dC dI cA L0 xs) (hd : decode (zbytes q) pc = .ok (.putfield k, 3)) (A : zAt s q base n0 u0 adr dC dI cA L0 xs H locs cells slots ls L (v :: zR r0 :: S0) h)
    (hf : zcpF (zown q) k = some f) (hpf : zpfok q f = true) (g4 : f % 64 < znf (f / 64)) (g : zob h r0 (1 + f / 64)) (u : zUpd h h2 (zdr r0) (f % 64) v) (hfv : zfv h2 (f / 64) (zdr r0) (f % 64) = v)
    (hn : narrow (zFT (f / 64) (f % 64)) (zenc (zrho base adr) v) = zenc (zrho base adr) v) (hfit : fits (zFT (f / 64) (f % 64)) (zenc (zrho base adr) v) = true) (hr : zX n q (pc + 3) L S0 h2 = some r) : W p l e R s m args below meth c H locs cells slots Q (F0 m pc ls ((v :: zR r0 :: S0).map (zenc (zrho base adr)))) := by
  obtain ⟨hx, hb, hml, hown, hts, hK, hSt, hin, ⟨hrf, hrl⟩, hl, hexc, hlk⟩ := id C
  obtain ⟨a1, a2, a3, a4, a5, a6, a7, a8⟩ := id A
  obtain ⟨g1, g2, g3⟩ := g
  obtain ⟨k1, -, k3⟩ := lkF _ _ _ hf
  obtain ⟨hUf, hnm, hob⟩ := zU_all _ k1
  obtain ⟨hUl, hU1, hU2, hU3, hU4⟩ := hUf _ g4
  obtain ⟨cell, q1, q2, q3, q4⟩ := (a1.2.2.1 _ g3).1 (by omega) (by omega)
  rw [g2, show 1 + f / 64 - 1 = f / 64 by omega] at q2 q4
  have htsg : ∀ w ∈ lw_good, w.before args s = true := fun w hw => hts w (List.mem_filter.mp hw).1 (List.mem_filter.mp hw).2
  have hinU : ∀ w ∈ u_ws (zvn (f / 64)) (zT (f / 64)) (znf (f / 64)), w ∈ lw_good := fun w hw => lw_good_in (zUin k1 w hw)
  obtain ⟨hS, hfc, kC, hkC, hkind⟩ := id (hK.1 _ k1)
  obtain ⟨cf, kf, fi, fd, hi, hsl⟩ := hS _ g4
  have hst := (u_facts hfc hkC (u_lays htsg hinU g4) hi).1
  have hap : ∀ x y, x < znf (f / 64) → y < znf (f / 64) → x ≠ y → dI (f / 64) x ≠ dI (f / 64) y := by
    intro x y hx9 hy9 hne
    obtain ⟨_, _, _, fa, hia, ea⟩ := hS x hx9
    obtain ⟨_, _, _, fb, hib, eb⟩ := hS y hy9
    rw [← ea, ← eb]
    refine u_apart (u_lays htsg hinU hx9) (u_lays htsg hinU hy9) hia hib ?_
    rw [(State.fieldFound?_type hia (hUf x hx9).2.2.2.1).1, (State.fieldFound?_type hib (hUf y hy9).2.2.2.1).1]
    exact hnm x hx9 y hy9 hne
  have hlink : (Cond.fieldLink (zcn (zown q)) k (zT (f / 64) (f % 64)).1 (zT (f / 64) (f % 64)).2.1 (zT (f / 64) (f % 64)).2.2.1).before args s = true := by
    rcases k3 with k3 | ⟨e1, e2, e3⟩
    · exact hts _ (zin_ok k3) k3.2
    · subst e3
      unfold zpfok at hpf
      rw [e1, show zfin (263 / 64) (263 % 64) = true from rfl, show Nat.beq 5 (zobo (263 / 64)) = false from rfl] at hpf
      simp at hpf
  have hlay := hts _ (zin_ok hUl) hUl.2
  unfold u_lay at hlay
  have hlt : fd.slot < cell.slots.size := by rw [hsl]; exact k2_hasslot (q4 _ g4)
  have hend : ∀ H9 : Heap, H9[zrho base adr (zdr r0)]? = some (cell.setSlot fd.slot (zenc (zrho base adr) v)) → H9.size = H.size → (∀ q9, q9 ≠ zrho base adr (zdr r0) → H9[q9]? = H[q9]?) → W p l e R s m args below meth c H9 (locs ++ [⟨zrho base adr (zdr r0), fd.slot⟩]) cells slots Q (F0 m (pc + 3) ls (S0.map (zenc (zrho base adr)))) := by
    intro H9 e1 e2 e3
    rw [hsl] at e1
    have hv : zok1 v := a6.hd
    obtain ⟨uN, uU, -, -⟩ := u.same
    refine K _ _ S0 _ _ _ _ _ _ hr ⟨zRep.field a1 g3 g2 k1 g4 u hv hfv hap q1 e1 e2 e3, va_S.put a2 e2 e3 ?_, a3, a4, a5, a6.tl.tl, by rw [uN]; exact a7, by rw [uU]; exact a8⟩
    show base ≤ _
    rw [zrho_lt (Nat.lt_trans g3 a1.2.1)]
    exact Nat.le_add_right _ _
  rw [List.map_cons, List.map_cons, zenc_R g1]
  cases hfin : (zT (f / 64) (f % 64)).2.2.2 with
  | false =>
    rw [if_neg (by rw [hfin]; decide)] at hlay
    have h6 := u_store hfc hkC hkind hlay hi hU3 hn hfit
    exact W.putK hx hb (f := fd) ⟨hown, hlink, ⟨_, _, _, hi⟩, hst⟩ (by rw [q2]; exact h6) q1 q3 hlt rfl rfl hd hend
  | true =>
    rw [if_pos hfin] at hlay
    unfold zpfok at hpf
    rw [hU2, hfin] at hpf
    simp only [Bool.not_true, Bool.false_or, Bool.and_eq_true] at hpf
    have how : zcn (zown q) = zdn (f / 64) := by rw [Nat.eq_of_beq_eq_true hpf.2, hob, zdn_fin k1 g4 (hU2.trans hfin)]
    have hcf : m.cls = cf := by
      obtain ⟨_, _, c9, _, _, _, -, -, hf9, -, -, -, hown2, -⟩ := Cond.laysFinal_spec hlay
      have e1 : c9 = cf := by have := hi.symm.trans hf9; simp at this; exact this.1.symm
      rw [hU1, ← how] at hown2
      rw [← e1]; exact Option.some.inj (hown.symm.trans hown2)
    have h6 := u_fits hfc hkC hkind (Or.inr hlay) hi hU3 hn hfit
    exact W.putFinK hx hb hown hlink hi hst hcf (hin hpf.1) (by rw [q2]; exact h6) q1 q3 hlt rfl rfl hd hend
theorem zw_putfield {k : Nat} (C : zCtx p l R s m args meth c q base adr adV dC dI cA L0 xs) (K : zWk p l e R s m args below meth c Q q n r base n0 u0 adr dC dI cA L0 xs) (hd : decode (zbytes q) pc = .ok (.putfield k, len)) (hn : zilen (.putfield k) = 0 ∨ len = zilen (.putfield k)) (A : zAt s q base n0 u0 adr dC dI cA L0 xs H locs cells slots ls L S h)
    (hr : zExe q pc len (.putfield k) L S h (fun pc L S h => zX n q pc L S h) (fun v h => some (.inl v, h)) (fun E h => some (.inr E, h)) (fun k as pc2 L S h => zBack (zX n) q pc pc2 L S (zX n k 0 (zini as (zmaxl k)) [] h)) = some r) : W p l e R s m args below meth c H locs cells slots Q (F0 m pc ls (S.map (zenc (zrho base adr)))) := by
  obtain ⟨hx, hb, hml, hown, hts, hK, hSt, hin, ⟨hrf, hrl⟩, hl, hexc, hlk⟩ := id C
  obtain ⟨a1, a2, a3, a4, a5, a6, a7, a8⟩ := id A
  obtain rfl : len = 3 := hn.resolve_left (by simp [zilen])
  simp only [zExe] at hr
  split at hr
  · rename_i f hf
    obtain ⟨hpf, hr1⟩ := gd_some hr
    unfold zset at hr1
    obtain ⟨g4, hr2⟩ := gd_some hr1
    have hU4 := ((zU_all _ (lkF _ _ _ hf).1).1 _ g4).2.2.2.2
    split at hr2
    · rename_i e9
      rw [e9] at hU4
      obtain ⟨v, S0, rfl, hr3⟩ := pI_some hr2
      obtain ⟨r0, S1, rfl, hr4⟩ := pR_some hr3
      obtain ⟨g, hr5⟩ := gd_some hr4
      exact zw_put_core C K hd A hf hpf g4 g (Or.inl ⟨v, rfl, rfl⟩) (by simp only [zfv, e9, hI_sI, zup_s]) (by rw [show zFT (f / 64) (f % 64) = .int from hU4]; rfl) (by rw [show zFT (f / 64) (f % 64) = .int from hU4]; rfl) hr5
    · rename_i e9
      rw [e9] at hU4
      obtain ⟨v, S0, rfl, hr3⟩ := pI_some hr2
      obtain ⟨r0, S1, rfl, hr4⟩ := pR_some hr3
      obtain ⟨g, hr5⟩ := gd_some hr4
      obtain ⟨gv, hr6⟩ := gd_some hr5
      exact zw_put_core C K hd A hf hpf g4 g (Or.inl ⟨v, rfl, rfl⟩) (by simp only [zfv, e9, hI_sI, zup_s]) (by rw [show zFT (f / 64) (f % 64) = .boolean from hU4]; rcases gv with rfl | rfl <;> rfl) (by rw [show zFT (f / 64) (f % 64) = .boolean from hU4]; rcases gv with rfl | rfl; exact (by decide : fits .boolean (.int (Int32.ofInt 0)) = true); exact (by decide : fits .boolean (.int (Int32.ofInt 1)) = true)) hr6
    · rename_i e9
      rw [e9] at hU4
      obtain ⟨v, S0, rfl, hr3⟩ := pJ_some hr2
      obtain ⟨r0, S1, rfl, hr4⟩ := pR_some hr3
      obtain ⟨g, hr5⟩ := gd_some hr4
      exact zw_put_core C K hd A hf hpf g4 g (Or.inr (Or.inl ⟨v, rfl, rfl⟩)) (by simp only [zfv, e9, hJ_sJ, zup_s]) (by rw [show zFT (f / 64) (f % 64) = .long from hU4]; rfl) (by rw [show zFT (f / 64) (f % 64) = .long from hU4]; rfl) hr5
    · rename_i e9
      rw [e9] at hU4
      obtain ⟨v, S0, rfl, hr3⟩ := pF_some hr2
      obtain ⟨r0, S1, rfl, hr4⟩ := pR_some hr3
      obtain ⟨g, hr5⟩ := gd_some hr4
      exact zw_put_core C K hd A hf hpf g4 g (Or.inr (Or.inr (Or.inl ⟨v, rfl, rfl⟩))) (by simp only [zfv, e9, hF_sF, zup_s]) (by rw [show zFT (f / 64) (f % 64) = .float from hU4]; rfl) (by rw [show zFT (f / 64) (f % 64) = .float from hU4]; rfl) hr5
    · rename_i e9
      rw [e9] at hU4
      obtain ⟨v, S0, rfl, hr3⟩ := pD_some hr2
      obtain ⟨r0, S1, rfl, hr4⟩ := pR_some hr3
      obtain ⟨g, hr5⟩ := gd_some hr4
      exact zw_put_core C K hd A hf hpf g4 g (Or.inr (Or.inr (Or.inr (Or.inl ⟨v, rfl, rfl⟩)))) (by simp only [zfv, e9, hD_sD, zup_s]) (by rw [show zFT (f / 64) (f % 64) = .double from hU4]; rfl) (by rw [show zFT (f / 64) (f % 64) = .double from hU4]; rfl) hr5
    · rename_i e9
      rw [e9] at hU4
      obtain ⟨v, S0, rfl, hr3⟩ := pR_some hr2
      obtain ⟨r0, S1, rfl, hr4⟩ := pR_some hr3
      obtain ⟨g, hr5⟩ := gd_some hr4
      exact zw_put_core C K hd A hf hpf g4 g (Or.inr (Or.inr (Or.inr (Or.inr ⟨v, rfl, rfl⟩)))) (by simp only [zfv, e9, hR_sR, zup_s]) (by rcases hU4 with ⟨C9, hU4⟩ | ⟨t9, hU4⟩ <;> rw [hU4] <;> cases v <;> rfl) (by rcases hU4 with ⟨C9, hU4⟩ | ⟨t9, hU4⟩ <;> rw [hU4] <;> cases v <;> rfl) hr5
    · rename_i e9
      rw [e9] at hU4
      obtain ⟨v, S0, rfl, hr3⟩ := pI_some hr2
      obtain ⟨r0, S1, rfl, hr4⟩ := pR_some hr3
      obtain ⟨g, hr5⟩ := gd_some hr4
      obtain ⟨⟨gv1, gv2⟩, hr6⟩ := gd_some hr5
      have w1 : ∀ z : Fin 256, narrow .byte (.int (Int32.ofInt ((z.val : Int) - 128))) = .int (Int32.ofInt ((z.val : Int) - 128)) ∧ fits .byte (.int (Int32.ofInt ((z.val : Int) - 128))) = true := by decide +kernel
      have w2 := w1 ⟨(v + 128).toNat, by omega⟩
      rw [show (((v + 128).toNat : Nat) : Int) - 128 = v by omega] at w2
      exact zw_put_core C K hd A hf hpf g4 g (Or.inl ⟨v, rfl, rfl⟩) (by simp only [zfv, e9, hI_sI, zup_s]) (by rw [show zFT (f / 64) (f % 64) = .byte from hU4]; exact w2.1) (by rw [show zFT (f / 64) (f % 64) = .byte from hU4]; exact w2.2) hr6
    · cases hr2
  · cases hr
theorem zw_ifnonnull {off : Int} (C : zCtx p l R s m args meth c q base adr adV dC dI cA L0 xs) (K : zWk p l e R s m args below meth c Q q n r base n0 u0 adr dC dI cA L0 xs) (hd : decode (zbytes q) pc = .ok (.ifnonnull off, len)) (hn : zilen (.ifnonnull off) = 0 ∨ len = zilen (.ifnonnull off)) (hj : zjok pc (.ifnonnull off) = true) (A : zAt s q base n0 u0 adr dC dI cA L0 xs H locs cells slots ls L S h)
    (hr : zExe q pc len (.ifnonnull off) L S h (fun pc L S h => zX n q pc L S h) (fun v h => some (.inl v, h)) (fun E h => some (.inr E, h)) (fun k as pc2 L S h => zBack (zX n) q pc pc2 L S (zX n k 0 (zini as (zmaxl k)) [] h)) = some r) : W p l e R s m args below meth c H locs cells slots Q (F0 m pc ls (S.map (zenc (zrho base adr)))) := by
  obtain ⟨hx, hb, hml, hown, hts, hK, hSt, hin, ⟨hrf, hrl⟩, hl, hexc, hlk⟩ := id C
  obtain ⟨a1, a2, a3, a4, a5, a6, a7, a8⟩ := id A
  obtain rfl : len = 3 := hn.resolve_left (by simp [zilen])
  simp only [zExe] at hr
  obtain ⟨x, S0, rfl, hr1⟩ := pR_some hr
  cases x with
  | none => exact lv_ifnonnullN hx hb hd (K _ _ S0 _ _ _ _ _ _ hr1 ⟨a1, a2, a3, a4, a5, a6.tl, a7, a8⟩)
  | some a => exact lv_ifnonnull hx hb hd (zt_eq hj) (K _ _ S0 _ _ _ _ _ _ hr1 ⟨a1, a2, a3, a4, a5, a6.tl, a7, a8⟩)
end ZW
