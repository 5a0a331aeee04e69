/-! THE CLAIM OUT OF ONE WALK OF THE LAW'S BODY. Your part is whole_start (and what it stands on); all else here is the same for every law, but numbers. -/
def R_law : String := "QueuewardLaw"
def lw_P (b : Addr) (xs : List Int32) (args : Array Value) (s : State) : Prop := args = #[.ref b] ∧ s.IntsAt b xs ∧ xs.length ≤ 260 ∧ (Jvm.Cond.and given_1 narrow_1).before args s = true
/-- what a walk over the start with the record d0 says of its end, said of the start itself -/
theorem lw_closed {s t : State} {o : Outcome} {d0 : Drawn} {L : List Loc} {k n : Nat} (hd0 : s.drawn.sameBut d0 lw_cs) (hv : ∃ v, o = .returned v) (hW : (s.setDrawn d0).WarmedH t.vm) (hs : (s.setDrawn d0).sameButNew ({ t with vm := s.vm } : State) L k n) : State.butDraws s t lw_cs (fun t1 => Framed s o t1 L k n) := by
  have h2 : t.drawn = d0 := congrArg State.drawn hs.1
  refine ⟨⟨hv, hW, State.sameButNew.setDrawn hs s.drawn⟩, ?_, by decide⟩
  rw [h2]
  exact hd0
def lw_Q (_ : Array Value) (s : State) (o : Outcome) (t : State) : Prop := o = .returned (some (.int 1)) ∧ State.butDraws s t lw_cs (fun t1 => Framed s o t1 [] room_1.cells room_1.slots)
def lw_Z (below : List Frame) (a : Array Value) (s : State) : State → Prop := fun t => ∃ o, t.status = .running ∧ Ended t below o ∧ lw_Q a s o t
/-- the law's own end, with 1 on the stack, nothing written that was there before, its room as the claim has it; d0: the record of draws at this point (at the entry s.drawn: begin with 'refine W.base ?_' and 'have hd0 := Drawn.sameBut.refl s.drawn lw_cs') -/
theorem lw_ret {p : Program} {l : Launch} {e : Env} {s : State} {m : MethodId} {below : List Frame} {meth : Method} {c : Code} {b : Nat} {d0 : Drawn} (hd0 : s.drawn.sameBut d0 lw_cs) (hx : p.tables.exec = Jvm.exec) (hb : c.code = code) (hr : meth.sig.returnType = ret) (hlocks : meth.locks = false) {pc : Nat} {H : Heap} {ls : Array Slot} (hdg : decode code pc = .ok (.ireturn, 1)) : W p l e room_1 (s.setDrawn d0) m #[Value.ref b] below meth c H [] room_1.cells room_1.slots (lw_Z below #[Value.ref b] s) (F0 m pc ls [.int 1]) := by
  intro T hT X
  obtain ⟨fs, hret, hrun, hended, hW, hframe⟩ := X.leave (v := some (.int 1)) (hlocks := hlocks) (fun h => by rw [hr] at h; cases h)
  have hmeth' : T.vm.method? m = some meth := X.method'
  refine ⟨T.setFrames fs, ?_, .returned (some (.int 1)), hrun, hended, rfl, lw_closed hd0 ⟨_, rfl⟩ hW hframe⟩
  jvm_step X.here [X.here.top, hx, hb, hdg, hmeth', hr, ret, narrow_b1]
  (try refine ⟨rfl, ?_⟩); (try refine ⟨rfl, ?_⟩)
  first | (intro acts; rw [hret _ acts rfl rfl rfl]) | rw [hret _ _ rfl rfl rfl]
  exact Steps.refl _
/-- what holds at the law's entry: the machine, the code, the tables' words (any of lw_tbl by 'hts w (by decide +kernel)'), the script of L ints xs at the cell b, what the Statement gives of the start (any of its parts by flat_of_before) -/
def lw_At (p : Program) (s : State) (m : MethodId) (meth : Method) (c : Code) (b L : Nat) (xs : Nat → Int32) : Prop :=
  p.tables.exec = Jvm.exec ∧ c.code = code ∧ meth.sig.returnType = ret ∧ c.maxLocals = 3 ∧ s.vm.findClass R_law = some m.cls ∧ (∀ w ∈ lw_tbl, w.before #[Value.ref b] s = true) ∧ va_X b L xs s s.heap ∧ b < s.heap.size ∧ meth.locks = false ∧ (Jvm.Cond.and given_1 narrow_1).before #[Value.ref b] s = true
theorem wT_6 : ((Jvm.Cond.constant "QueuewardLaw" (322 : Nat) (59402 : Int32)) : Cond) ∈ LW := LW_mem (lw_in8 _ (List.mem_of_getElem? (i := 52) (by decide +kernel))) rfl
theorem wT_7 : ((Jvm.Cond.arrayClass Jvm.ClassFile.FieldType.int) : Cond) ∈ LW := LW_mem (lw_in1 _ (List.mem_of_getElem? (i := 66) (by decide +kernel))) rfl
theorem wT_8 : ((Jvm.Cond.methodLink "QueuewardLaw" (323 : Nat) ({ cls := "QueuewardLaw", name := "plays", desc := "([I[I[I)Z" } : Jvm.MethodName)) : Cond) ∈ LW := LW_mem (lw_in1 _ (List.mem_of_getElem? (i := 35) (by decide +kernel))) rfl
theorem wT_9 : ((Jvm.Cond.static ({ cls := "QueuewardLaw", name := "plays", desc := "([I[I[I)Z" } : Jvm.MethodName)) : Cond) ∈ LW := LW_mem (lw_in1 _ (List.mem_of_getElem? (i := 36) (by decide +kernel))) rfl
theorem wT_10 : ((Jvm.Cond.initialized "QueuewardLaw") : Cond) ∈ LW := LW_mem (lw_in1 _ (List.mem_of_getElem? (i := 0) (by decide +kernel))) rfl
theorem wT_11 : ((Jvm.Cond.code ({ cls := "QueuewardLaw", name := "plays", desc := "([I[I[I)Z" } : Jvm.MethodName) method_28_code (7 : Nat) (Option.some Jvm.ClassFile.FieldType.boolean)) : Cond) ∈ LW := LW_mem (lw_in1 _ (List.mem_of_getElem? (i := 37) (by decide +kernel))) rfl
set_option maxHeartbeats 4000000 in
set_option maxRecDepth 100000 in
theorem whole_start0 {p : Program} {e : Env} {s : State} {m : MethodId} {below : List Frame} {meth : Method} {c : Code} (l : Launch) (hflags : l.flags = flags0) {b L : Nat} {xs : Nat → Int32} (hL : L ≤ 260) (hpure : PureOK) (C0 : lw_At p s m meth c b L xs) : W p l e room_1 s m #[Value.ref b] below meth c s.heap [] 0 0 (lw_Z below #[Value.ref b] s) (entryFrame m ([Value.ref b] : List Value).toArray 3) := by
  obtain ⟨hx, hb, hr, hml, hown, hts0, hX, hbl, hlocks, hgv⟩ := id C0
  have hts : ∀ w ∈ LW, w.before #[Value.ref b] s = true := fun w hw => hts0 w (List.mem_filter.mp hw).1
  have hn : ∀ w ∈ nar, w.before #[Value.ref b] s = true := flat_of_before _ hgv
  have htr : l.stackTraces = false := by
    show (!l.flags.contains Jvm.noTraceFlag) = false
    rw [hflags]
    decide
  obtain ⟨D, cA, cW, sg, sgL, hfix, hCon⟩ := start_fixL (A := Al s.heap.size) hts0 hn (fun a h q => absurd h (Nat.not_lt.mpr q))
  have hK := hfix.1.1
  have hc1 : cW 1 = cA 1 := Option.some.inj (((hfix.2.1.2 0 _ (tysW_at 1 (by decide) (by decide))).2).symm.trans ((hK.2 0 _ (show (tysL cA)[0]? = some (cA 1, .int) from rfl)).2))
  have hbA : ¬ Al s.heap.size b := Nat.not_le.mpr hbl
  have hS : va_S (Al s.heap.size) s.heap s.heap [] := va_S.rf
  have hE : EH D s.heap.size 0 (fun _ => .inr (0, [])) s.heap := ⟨rfl, fun k hk => absurd hk (Nat.not_lt_zero k)⟩
  have hl := lv_entry ([.ref b]) (n := 3) (Nat.le_of_ble_eq_true rfl)
  rw [lg_entry_eq]
  generalize (lg_sl ([.ref b]) ++ List.replicate (3 - (lg_sl ([.ref b])).length) Slot.unset).toArray = ls at hl ⊢
  have hl : lv_has ls 3 [(0, .ref b)] := hl
  refine lv_iconst (v := 1) hx hb dL_law_0 (by decide) ?_
  refine eh_newa (atype := .int) (t0 := 0) (c1 := cA 1) (N' := 1) (a0 := (1, .inl (fun _ => 0))) hx hb hts hK hE hS wT_7 rfl (fun _ => rfl) (by decide) (by decide) (by decide) (Nat.le_of_ble_eq_true rfl) (Nat.le_of_ble_eq_true rfl) dL_law_1 (fun H hE hS => ?_)
  refine lv_dup hx hb dL_law_3 rfl ?_
  refine lv_iconst (v := 0) hx hb dL_law_4 (by decide) ?_
  refine lv_ldcw (v := 59402) hx hb hown (hts _ wT_6) dL_law_5 ?_
  refine eh_iast2 (i := 0) (n := 1) (f := fun _ => 0) (jn := 0) hx hb hK hE hS (by omega) gup_same (by decide) (by decide) (by decide) dL_law_8 (fun H locs hE hS => ?_)
  refine lv_astore_n (lv' := [(1, .ref s.heap.size), (0, .ref b)]) hx hb dL_law_9 rfl hl (by decide) rfl (fun ls hl => ?_)
  refine lv_iconst (v := Int32.ofInt ((0 : Nat) : Int)) hx hb dL_law_10 (by decide) ?_
  refine lv_istore_n (lv' := [(2, .int (Int32.ofInt ((0 : Nat) : Int))), (1, .ref s.heap.size), (0, .ref b)]) hx hb dL_law_11 rfl hl (by decide) rfl (fun ls hl => ?_)
  have loop : ∀ (n t : Nat) (g : Nat → va_E) (f : Nat → Int32) (H : Heap) (locs : List Loc) (ls : Array Slot), t ≤ L → L < t + n → EH D s.heap.size 1 g H → g 0 = .inl (cA 1, (1, .inl f)) → va_S (Al s.heap.size) s.heap H locs → lv_has ls 3 [(2, .int (Int32.ofInt (t : Int))), (1, .ref s.heap.size), (0, .ref b)] →
      W p l e room_1 s m #[Value.ref b] below meth c H locs 1 1 (lw_Z below #[Value.ref b] s) (F0 m 12 ls []) := by
    intro n
    induction n with
    | zero =>
      intro t g f H locs ls h1 h2
      exact absurd h2 (by omega)
    | succ n ih =>
      intro t g f H locs ls h1 h2 hE hg hS hl
      refine lv_iload_n hx hb dL_law_12 rfl (lv_at hl 0 rfl) ?_
      refine lv_aload_n hx hb dL_law_13 rfl (lv_at hl 2 rfl) ?_
      refine va_slen hx hb hX hbl hbA hS dL_law_14 ?_
      rw [show Int32.ofNat L = Int32.ofInt (L : Int) from Int32.ofInt_eq_ofNat.symm]
      refine w_icmp hx hb (x := (t : Int)) (y := (L : Int)) ⟨by omega, by omega⟩ ⟨by omega, by omega⟩ (cn := .ge) (tgt := 37) dL_law_15 (by decide) (fun hgt => ?_) (fun hgt => ?_)
      · refine lv_aload_n hx hb dL_law_37 rfl (lv_at hl 1 rfl) ?_
        refine lv_bipush (v := 120) hx hb dL_law_38 (by decide) ?_
        refine eh_newa (atype := .int) (t0 := 0) (c1 := cA 1) (N' := 120) (a0 := (120, .inl (fun _ => 0))) hx hb hts hK hE hS wT_7 rfl (fun _ => rfl) (by decide) (by decide) (by decide) (Nat.le_of_ble_eq_true rfl) (Nat.le_of_ble_eq_true rfl) dL_law_40 (fun H hE hS => ?_)
        refine lv_bipush (v := 10) hx hb dL_law_42 (by decide) ?_
        refine eh_newa (atype := .int) (t0 := 0) (c1 := cA 1) (N' := 10) (a0 := (10, .inl (fun _ => 0))) hx hb hts hK hE hS wT_7 rfl (fun _ => rfl) (by decide) (by decide) (by decide) (Nat.le_of_ble_eq_true rfl) (Nat.le_of_ble_eq_true rfl) dL_law_44 (fun H hE hS => ?_)
        have hE : EH D s.heap.size 3 (gup (gup g 1 (.inl (cA 1, (120, .inl (fun _ => 0))))) 2 (.inl (cA 1, (10, .inl (fun _ => 0))))) H := hE
        have hcell : ∀ k, k < 3 → va_at D gCl (s.heap.size + k, lCell s.heap.size cW (C3 (f 0).toInt k)) H := fun k hk => by
          rcases (show k = 0 ∨ k = 1 ∨ k = 2 by omega) with rfl | rfl | rfl
          · show va_at D gCl (s.heap.size + 0, .inl (cW 1, (1, .inl (fun _ => Int32.ofInt (f 0).toInt)))) H
            rw [hc1]
            exact at_toI hE (by decide) ((gup_ne (by decide)).trans ((gup_ne (by decide)).trans hg)) (fun j hj => by
              have : j = 0 := by omega
              subst this
              exact (Int32.ofInt_toInt _).symm)
          · show va_at D gCl (s.heap.size + 1, .inl (cW 1, (120, .inl (fun _ => Int32.ofInt 0)))) H
            rw [hc1]
            exact at_toI hE (by decide) ((gup_ne (by decide)).trans gup_same) (fun j hj => rfl)
          · show va_at D gCl (s.heap.size + 2, .inl (cW 1, (10, .inl (fun _ => Int32.ofInt 0)))) H
            rw [hc1]
            exact at_toI hE (by decide) gup_same (fun j hj => rfl)
        refine va_calli (a := ([.ref s.heap.size, .ref (s.heap.size + 1), .ref (s.heap.size + 2)] : List Value).toArray) (va_runS (As := [.ref s.heap.size, .ref (s.heap.size + 1), .ref (s.heap.size + 2)]) (rest := []) ⟨hx, hb, hml, hown, hts⟩ (k_plays2 htr hpure (D := D) (cA := cA) (cW := cW) (sg := sg) (sgL := sgL) (B := s.heap.size) (x := (f 0).toInt)) (va_cwS 3 hts (wsL_good wT_8 wT_9 wT_10 (wMt_good wT_11)) rfl rfl rfl (by decide +kernel) ⟨Nat.le_of_ble_eq_true rfl, Nat.le_of_ble_eq_true rfl⟩) ⟨fun a U g mk q => by
          obtain ⟨q0, q1, q2, q3, q4⟩ := q
          exact ⟨q0, q1, q2, q3.warm (s := U) (U := U.calling g mk a) (State.WarmedH.refl U), wFixL.warm (s := U) (U := U.calling g mk a) (State.WarmedH.refl U) (fun _ _ _ => rfl) q4⟩, fun U hU hW => ⟨rfl, by rw [hU]; exact hE.1, fun k hk => by rw [hU]; exact hcell k hk, hCon.warm hW, hfix.warm hW (fun q q1 q2 => by rw [hU]; exact hS.2.1 q q1 q2)⟩⟩ rfl rfl hl.1 rfl (lv_room (Nat.le_of_ble_eq_true rfl)) dL_law_46 ⟨Nat.le_of_ble_eq_true rfl, Nat.le_of_ble_eq_true rfl⟩) hS (fun q _ h => h) (fun q h => h) (fun r9 u tt H1 locs1 ht hvm hw9 hB hz1 hk1 hS1 => ?_)
        obtain ⟨v9, rfl, rfl⟩ := hw9
        rw [show Int32.ofInt 1 = (1 : Int32) from by decide]
        refine va_forget (fun q hq => hS1.2.2 q hq) ?_
        refine W.widen (k := room_1.cells) (n := room_1.slots) (Nat.le_of_ble_eq_true rfl) (Nat.le_of_ble_eq_true rfl) ?_
        refine W.base ?_
        exact lw_ret (Drawn.sameBut.refl s.drawn lw_cs) hx hb hr hlocks dL_law_49
      · have hi : t < L := by
          have hgt : ¬ ((L : Int) ≤ (t : Int)) := hgt
          omega
        have hq := z_in (x := (t : Int)) (n := L) ⟨by omega, by omega⟩ (by omega)
        refine lv_aload_n hx hb dL_law_18 rfl (lv_at hl 1 rfl) ?_
        refine lv_iconst (v := 0) hx hb dL_law_19 (by decide) ?_
        refine lv_bipush (v := 31) hx hb dL_law_20 (by decide) ?_
        refine lv_aload_n hx hb dL_law_22 rfl (lv_at hl 1 rfl) ?_
        refine lv_iconst (v := 0) hx hb dL_law_23 (by decide) ?_
        refine eh_iald2 (i := 0) (jn := 0) hx hb hK hE (by omega) hg (by decide) (by decide) (by decide) rfl dL_law_24 ?_
        refine lv_imul hx hb dL_law_25 ?_
        refine lv_aload_n hx hb dL_law_26 rfl (lv_at hl 2 rfl) ?_
        refine lv_iload_n hx hb dL_law_27 rfl (lv_at hl 0 rfl) ?_
        refine va_sld hx hb hX hbl hbA hS hq.1 dL_law_28 ?_
        refine lv_iadd hx hb dL_law_29 ?_
        refine eh_iast2 (i := 0) (n := 1) (f := f) (jn := 0) hx hb hK hE hS (by omega) hg (by decide) (by decide) (by decide) dL_law_30 (fun H locs hE hS => ?_)
        refine lv_iinc (v := Int32.ofInt ((t + 1 : Nat) : Int)) (lv' := [(2, .int (Int32.ofInt ((t + 1 : Nat) : Int))), (1, .ref s.heap.size), (0, .ref b)]) hx hb dL_law_31 hl (k := 0) rfl (by rw [show ((t + 1 : Nat) : Int) = (t : Int) + 1 by omega, Int32.ofInt_add]) (by decide) rfl (fun ls hl => ?_)
        refine lv_goto (tgt := 12) hx hb dL_law_34 (by decide) ?_
        exact ih (t + 1) _ _ H locs ls (by omega) (by omega) hE gup_same hS hl
  exact loop (L + 1) 0 _ _ H locs ls (by omega) (by omega) hE gup_same hS hl
