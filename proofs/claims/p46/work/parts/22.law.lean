/-! THE CLAIM OUT OF ONE WALK OF THE LAW'S BODY. Your part is whole_start (and what it stands on); all else here is the same for every law, but numbers. -/
def R_law : String := "BackwardProofsLaw"
def lw_P (b : Addr) (xs : List Int32) (args : Array Value) (s : State) : Prop := args = #[.ref b] ∧ s.IntsAt b xs ∧ xs.length ≤ 260 ∧ (Jvm.Cond.and given_1 narrow_1).before args s = true
/-- what a walk over the start with the record d0 says of its end, said of the start itself -/
theorem lw_closed {s t : State} {o : Outcome} {d0 : Drawn} {L : List Loc} {k n : Nat} (hd0 : s.drawn.sameBut d0 lw_cs) (hv : ∃ v, o = .returned v) (hW : (s.setDrawn d0).WarmedH t.vm) (hs : (s.setDrawn d0).sameButNew ({ t with vm := s.vm } : State) L k n) : State.butDraws s t lw_cs (fun t1 => Framed s o t1 L k n) := by
  have h2 : t.drawn = d0 := congrArg State.drawn hs.1
  refine ⟨⟨hv, hW, State.sameButNew.setDrawn hs s.drawn⟩, ?_, by decide⟩
  rw [h2]
  exact hd0
def lw_Q (_ : Array Value) (s : State) (o : Outcome) (t : State) : Prop := o = .returned (some (.int 1)) ∧ State.butDraws s t lw_cs (fun t1 => Framed s o t1 [] 600086 7301442)
def lw_Z (below : List Frame) (a : Array Value) (s : State) : State → Prop := fun t => ∃ o, t.status = .running ∧ Ended t below o ∧ lw_Q a s o t
/-- the law's own end, with 1 on the stack, nothing written that was there before, its room as the claim has it; d0: the record of draws at this point (at the entry s.drawn: begin with 'refine W.base ?_' and 'have hd0 := Drawn.sameBut.refl s.drawn lw_cs') -/
theorem lw_ret {p : Program} {l : Launch} {e : Env} {s : State} {m : MethodId} {below : List Frame} {meth : Method} {c : Code} {b : Nat} {d0 : Drawn} (hd0 : s.drawn.sameBut d0 lw_cs) (hx : p.tables.exec = Jvm.exec) (hb : c.code = code) (hr : meth.sig.returnType = ret) (hlocks : meth.locks = false) {pc : Nat} {H : Heap} {ls : Array Slot} (hdg : decode code pc = .ok (.ireturn, 1)) : W p l e room_1 (s.setDrawn d0) m #[Value.ref b] below meth c H [] 600086 7301442 (lw_Z below #[Value.ref b] s) (F0 m pc ls [.int 1]) := by
  intro T hT X
  obtain ⟨fs, hret, hrun, hended, hW, hframe⟩ := X.leave (v := some (.int 1)) (hlocks := hlocks) (fun h => by rw [hr] at h; cases h)
  have hmeth' : T.vm.method? m = some meth := X.method'
  refine ⟨T.setFrames fs, ?_, .returned (some (.int 1)), hrun, hended, rfl, lw_closed hd0 ⟨_, rfl⟩ hW hframe⟩
  jvm_step X.here [X.here.top, hx, hb, hdg, hmeth', hr, ret, narrow_b1]
  (try refine ⟨rfl, ?_⟩); (try refine ⟨rfl, ?_⟩)
  first | (intro acts; rw [hret _ acts rfl rfl rfl]) | rw [hret _ _ rfl rfl rfl]
  exact Steps.refl _
/-- what holds at the law's entry: the machine, the code, the tables' words (any of lw_tbl by 'hts w (by decide +kernel)'), the script of L ints xs at the cell b, what the Statement gives of the start (any of its parts by flat_of_before) -/
def lw_At (p : Program) (s : State) (m : MethodId) (meth : Method) (c : Code) (b L : Nat) (xs : Nat → Int32) : Prop :=
  p.tables.exec = Jvm.exec ∧ c.code = code ∧ meth.sig.returnType = ret ∧ c.maxLocals = 12 ∧ s.vm.findClass R_law = some m.cls ∧ (∀ w ∈ lw_tbl, w.before #[Value.ref b] s = true) ∧ va_X b L xs s s.heap ∧ b < s.heap.size ∧ meth.locks = false ∧ c.exceptionTable.toList = [] ∧ (Jvm.Cond.and given_1 narrow_1).before #[Value.ref b] s = true
section ZLaw
variable {p : Program} {l : Launch} {e : Env} {s : State} {m : MethodId} {below : List Frame} {meth : Method} {c : Code} {b L : Nat} {xs : Nat → Int32}
variable {n : Nat} {adr adV : Nat → Nat} {dC : Nat → ClassId} {dI : Nat → Nat → Nat} {cA : Nat → ClassId} {h0 h9 : zH}
theorem zbytes_law : zbytes 261 = code := rfl
theorem zRt_law (C : zCtx p l room_1 s m #[Value.ref b] meth c 261 s.heap.size adr adV dC dI cA L xs) (hret : meth.sig.returnType = ret) (h1 : hN h9 ≤ 600086) (h2 : hU h9 ≤ 7301442) : zRt p l e room_1 s m #[Value.ref b] below meth c (lw_Z below #[Value.ref b] s) 261 (.inl (some (zI 1)), h9) s.heap.size 0 0 adr dC dI cA L xs := by
  obtain ⟨hx, hb, hml, hown, hts, hK, hSt, hin, ⟨hrf, hrl⟩, hl, hexc, hlk⟩ := id C
  intro pc i v L h H locs cells slots ls hr1 A hd hk
  obtain ⟨a1, a2, a3, a4, a5, a6, a7, a8⟩ := id A
  have e1 : v = some (zI 1) := (Sum.inl.inj (Prod.mk.inj hr1).1).symm
  have e2 : h9 = h := (Prod.mk.inj hr1).2
  subst e1
  rw [e2] at h1 h2
  cases i with
  | ireturn => exact va_forget (fun q hq => a2.2.2 q hq) (W.widen (by omega) (by omega) (W.base (lw_ret (Drawn.sameBut.refl s.drawn lw_cs) hx hb hret hlk hd)))
  | _ => exact hk.elim
theorem law_core (hflags : l.flags = flags0) (C0 : lw_At p s m meth c b L xs) (hK : zK dC dI cA s) (hS : zSt s.heap.size adr adV L xs s s.heap) (had : adr 0 = b) (hrep : zRep s.heap.size adr dC dI cA L xs s.heap h0) (hz0 : hN h0 = 0 ∧ hU h0 = 0)
    (hz : zX n 261 0 (zini [zR (some zVB)] 12) [] h0 = some (.inl (some (zI 1)), h9)) (h1 : hN h9 ≤ 600086) (h2 : hU h9 ≤ 7301442) :
    W p l e room_1 s m #[Value.ref b] below meth c s.heap [] 0 0 (lw_Z below #[Value.ref b] s) (entryFrame m ([Value.ref b] : List Value).toArray 12) := by
  obtain ⟨c1, c2, c3, c4, c5, c6, c7, c8, c9, c10, c11⟩ := C0
  have hl : l.stackTraces = false := by
    unfold Launch.stackTraces
    rw [hflags]
    decide
  have C : zCtx p l room_1 s m #[Value.ref b] meth c 261 s.heap.size adr adV dC dI cA L xs := ⟨c1, c2.trans zbytes_law.symm, c4, c5, fun w hw _ => c6 w hw, hK, hS, fun h => absurd h (by decide), ⟨by decide, by decide⟩, hl, by unfold zExc; rw [c10]; rfl, c9⟩
  have hroom : zRoom room_1 (.inl (some (zI 1)), h9) 0 0 := ⟨by show hN h9 ≤ 0 + 600086; omega, by show hU h9 ≤ 0 + 7301442; omega, by show hN h9 < zVB; unfold zVB; omega⟩
  have hall : ∀ j, j ≤ n → zWk p l e room_1 s m #[Value.ref b] below meth c (lw_Z below #[Value.ref b] s) 261 j (.inl (some (zI 1)), h9) s.heap.size 0 0 adr dC dI cA L xs := by
    intro j
    induction j with
    | zero => intro _ pc L S h H locs cells slots ls hr; cases hr
    | succ j ih =>
      intro hj
      refine zWk_next C (ih (by omega)) (zRt_law C c3 h1 h2) ?_ ?_ hroom (zIH_all hl j)
      · intro pc k c9 n2 L S h H locs cells slots ls hr1 A hk9 h100 hn2 h13
        exact absurd rfl h13
      · intro pc k h H locs cells slots ls rest q9 ce hr1 hk hk2 h13
        exact absurd rfl h13
  have hv : Value.ref b = zenc (zrho s.heap.size adr) (zR (some zVB)) := by
    rw [zenc_R rfl]
    show Value.ref b = .ref (zrho s.heap.size adr (zVB + 0))
    rw [zrho_ge, had]
  have he : entryFrame m ([Value.ref b] : List Value).toArray 12 = F0 m 0 ((lg_sl ([zR (some zVB)].map (zenc (zrho s.heap.size adr))) ++ List.replicate (12 - (lg_sl ([zR (some zVB)].map (zenc (zrho s.heap.size adr)))).length) Slot.unset).toArray) [] := by
    rw [show ([Value.ref b] : List Value) = [zR (some zVB)].map (zenc (zrho s.heap.size adr)) from by rw [hv]; rfl]
    exact lg_entry_eq _ _ _
  rw [he]
  refine hall n (Nat.le_refl _) 0 (zini [zR (some zVB)] 12) [] h0 s.heap [] 0 0 _ hz ⟨hrep, va_S.rf, zini_LS (by decide), zini_len _ _ (by decide), ?_, (fun v hv => nomatch hv), (Nat.zero_add _).trans hz0.1.symm, (Nat.zero_add _).trans hz0.2.symm⟩
  intro i v hv
  have h3 := (zini_at (zrho s.heap.size adr) _ _ i 0 v hv).1
  rw [List.mem_singleton] at h3
  rw [h3]
  exact trivial
end ZLaw
