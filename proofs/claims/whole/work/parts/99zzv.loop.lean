/-! THE CLAIM OUT OF ONE WALK OF THE LAW'S BODY. Your part is whole_start (and what it stands on); all else here is the same for every law, but numbers. -/
def R_law : String := "QueuewardLaw"
def lw_P (b : Addr) (xs : List Int32) (args : Array Value) (s : State) : Prop := args = #[.ref b] ∧ s.IntsAt b xs ∧ xs.length ≤ 2560 ∧ (Jvm.Cond.and given_1 narrow_1).before args s = true
/-- what a walk over the start with the record d0 says of its end, said of the start itself -/
theorem lw_closed {s t : State} {o : Outcome} {d0 : Drawn} {L : List Loc} {k n : Nat} (hd0 : s.drawn.sameBut d0 lw_cs) (hv : ∃ v, o = .returned v) (hW : (s.setDrawn d0).WarmedH t.vm) (hs : (s.setDrawn d0).sameButNew ({ t with vm := s.vm } : State) L k n) : State.butDraws s t lw_cs (fun t1 => Framed s o t1 L k n) := by
  have h2 : t.drawn = d0 := congrArg State.drawn hs.1
  refine ⟨⟨hv, hW, State.sameButNew.setDrawn hs s.drawn⟩, ?_, by decide⟩
  rw [h2]
  exact hd0
def lw_Q (_ : Array Value) (s : State) (o : Outcome) (t : State) : Prop := o = .returned (some (.int 1)) ∧ State.butDraws s t lw_cs (fun t1 => Framed s o t1 [] 603072 7215210)
def lw_Z (below : List Frame) (a : Array Value) (s : State) : State → Prop := fun t => ∃ o, t.status = .running ∧ Ended t below o ∧ lw_Q a s o t
/-- the law's own end, with 1 on the stack, nothing written that was there before, its room as the claim has it; d0: the record of draws at this point (at the entry s.drawn: begin with 'refine W.base ?_' and 'have hd0 := Drawn.sameBut.refl s.drawn lw_cs') -/
theorem lw_ret {p : Program} {l : Launch} {e : Env} {s : State} {m : MethodId} {below : List Frame} {meth : Method} {c : Code} {b : Nat} {d0 : Drawn} (hd0 : s.drawn.sameBut d0 lw_cs) (hx : p.tables.exec = Jvm.exec) (hb : c.code = code) (hr : meth.sig.returnType = ret) (hlocks : meth.locks = false) {pc : Nat} {H : Heap} {ls : Array Slot} (hdg : decode code pc = .ok (.ireturn, 1)) : W p l e room_1 (s.setDrawn d0) m #[Value.ref b] below meth c H [] 603072 7215210 (lw_Z below #[Value.ref b] s) (F0 m pc ls [.int 1]) := by
  intro T hT X
  obtain ⟨fs, hret, hrun, hended, hW, hframe⟩ := X.leave (v := some (.int 1)) (hlocks := hlocks) (fun h => by rw [hr] at h; cases h)
  have hmeth' : T.vm.method? m = some meth := X.method'
  refine ⟨T.setFrames fs, ?_, .returned (some (.int 1)), hrun, hended, rfl, lw_closed hd0 ⟨_, rfl⟩ hW hframe⟩
  jvm_step X.here [X.here.top, hx, hb, hdg, hmeth', hr, ret, narrow_b1]
  (try refine ⟨rfl, ?_⟩); (try refine ⟨rfl, ?_⟩)
  first | (intro acts; rw [hret _ acts rfl rfl rfl]) | rw [hret _ _ rfl rfl rfl]
  exact Steps.refl _
/-- what holds at the law's entry: the machine, the code, the tables' words (any of lw_tbl by 'hts w (by decide +kernel)'), the script of L ints xs at the cell b, what the Statement gives of the start (any of its parts by flat_of_before) -/
def lw_At (p : Program) (s : State) (m : MethodId) (meth : Method) (c : Code) (b L : Nat) (xs : Nat → Int32) : Prop :=
  p.tables.exec = Jvm.exec ∧ c.code = code ∧ meth.sig.returnType = ret ∧ c.maxLocals = 9 ∧ s.vm.findClass R_law = some m.cls ∧ (∀ w ∈ lw_tbl, w.before #[Value.ref b] s = true) ∧ va_X b L xs s s.heap ∧ b < s.heap.size ∧ meth.locks = false ∧ (Jvm.Cond.and given_1 narrow_1).before #[Value.ref b] s = true
/-! The law's loop, its start, and the claim (by program). -/
theorem wE_0 : ((Jvm.Cond.classLink "QueuewardLaw" (8 : Nat) "Queueward") : Cond) ∈ LW := LW_mem (lw_in1 _ (List.mem_of_getElem? (i := 31) (by decide +kernel))) rfl
theorem wE_1 : ((Jvm.Cond.instantiable "Queueward" (13 : Nat)) : Cond) ∈ LW := LW_mem (lw_in1 _ (List.mem_of_getElem? (i := 32) (by decide +kernel))) rfl
theorem wE_2 : ((Jvm.Cond.initialized "Queueward") : Cond) ∈ LW := LW_mem (lw_in1 _ (List.mem_of_getElem? (i := 1) (by decide +kernel))) rfl
theorem wE_3 : ((Jvm.Cond.code ({ cls := "Queueward", name := "<init>", desc := "()V" } : Jvm.MethodName) prog_1_method_1_code (1 : Nat) (Option.none : Option Jvm.ClassFile.FieldType)) : Cond) ∈ LW := LW_mem (lw_in1 _ (List.mem_of_getElem? (i := 35) (by decide +kernel))) rfl
theorem wE_4 : ((Jvm.Cond.methodLink "QueuewardLaw" (128 : Nat) ({ cls := "Queueward", name := "<init>", desc := "()V" } : Jvm.MethodName)) : Cond) ∈ LW := LW_mem (lw_in1 _ (List.mem_of_getElem? (i := 33) (by decide +kernel))) rfl
theorem wE_5 : ((Jvm.Cond.instanceMethod ({ cls := "Queueward", name := "<init>", desc := "()V" } : Jvm.MethodName)) : Cond) ∈ LW := LW_mem (lw_in1 _ (List.mem_of_getElem? (i := 34) (by decide +kernel))) rfl
theorem wE_6 : ((Jvm.Cond.classLink "QueuewardLaw" (129 : Nat) "QueuewardModel") : Cond) ∈ LW := LW_mem (lw_in7 _ (List.mem_of_getElem? (i := 68) (by decide +kernel))) rfl
theorem wE_7 : ((Jvm.Cond.instantiable "QueuewardModel" (45 : Nat)) : Cond) ∈ LW := LW_mem (lw_in7 _ (List.mem_of_getElem? (i := 69) (by decide +kernel))) rfl
theorem wE_8 : ((Jvm.Cond.initialized "QueuewardModel") : Cond) ∈ LW := LW_mem (lw_in1 _ (List.mem_of_getElem? (i := 15) (by decide +kernel))) rfl
theorem wE_9 : ((Jvm.Cond.code ({ cls := "QueuewardModel", name := "<init>", desc := "()V" } : Jvm.MethodName) prog_14_method_1_code (2 : Nat) (Option.none : Option Jvm.ClassFile.FieldType)) : Cond) ∈ LW := LW_mem (lw_in7 _ (List.mem_of_getElem? (i := 72) (by decide +kernel))) rfl
theorem wE_10 : ((Jvm.Cond.methodLink "QueuewardLaw" (131 : Nat) ({ cls := "QueuewardModel", name := "<init>", desc := "()V" } : Jvm.MethodName)) : Cond) ∈ LW := LW_mem (lw_in7 _ (List.mem_of_getElem? (i := 70) (by decide +kernel))) rfl
theorem wE_11 : ((Jvm.Cond.instanceMethod ({ cls := "QueuewardModel", name := "<init>", desc := "()V" } : Jvm.MethodName)) : Cond) ∈ LW := LW_mem (lw_in7 _ (List.mem_of_getElem? (i := 71) (by decide +kernel))) rfl
theorem wE_12 : ((Jvm.Cond.arrayClass Jvm.ClassFile.FieldType.long) : Cond) ∈ LW := LW_mem (lw_in1 _ (List.mem_of_getElem? (i := 232) (by decide +kernel))) rfl
theorem W.cap {p : Program} {l : Launch} {e : Env} {R : Room} {s : State} {m : MethodId} {args : Array Value} {below : List Frame} {meth : Method} {c : Code} {H : Heap} {locs : List Loc} {cells slots : Nat} {Q : State → Prop} {g : JFrame} (kk : H.size ≤ s.heap.size + cells → W p l e R s m args below meth c H locs cells slots Q g) : W p l e R s m args below meth c H locs cells slots Q g := fun T hT X => kk (by
  have h := X.same.2.2.1
  rw [← hT]
  exact h) T hT X
set_option maxHeartbeats 4000000 in
set_option maxRecDepth 100000 in
theorem law_loop {p : Program} {e : Env} {s : State} {m : MethodId} {below : List Frame} {meth : Method} {c : Code} {l : Launch} {b L : Nat} {xs : Nat → Int32} {sg : Nat → Nat} {cA : Nat → ClassId} {D : va_G} (C : LC p l s m #[Value.ref b] c sg cA D b L xs) (hr : meth.sig.returnType = ret) (hlocks : meth.locks = false) :
    ∀ (n t : Nat) (d : Drawn) (M : Mem) (z : Int64) (H : Heap) (locs : List Loc) (ls : Array Slot), 5 * t ≤ L → L < 5 * t + 5 * n → s.drawn.sameBut d lw_cs → LWS cA D s.heap.size M z H → va_S (Al s.heap.size) s.heap H locs → lv_has ls 9 (LV b s.heap.size (5 * t)) →
      W p l e room_1 (s.setDrawn d) m #[Value.ref b] below meth c H locs (177 + 8 * t) (73763 + 48 * t) (lw_Z below #[Value.ref b] s) (F0 m 23 ls []) := by
  intro n
  induction n with
  | zero =>
    intro t d M z H locs ls h1 h2
    exact absurd h2 (by omega)
  | succ n ih =>
    intro t d M z H locs ls h1 h2 hd hL hS hl
    have Cd := C.dr d
    obtain ⟨htr, hx, hb, hml, hown, hts, hX, hbl, hfix, hnc, hLL⟩ := C.dr d
    have hbA : ¬ Al s.heap.size b := Nat.not_le.mpr hbl
    refine lv_iload hx hb dL_law_23 (lv_at hl 0 rfl) ?_
    refine lv_aload_n hx hb dL_law_25 rfl (lv_at hl 1 rfl) ?_
    refine va_slen hx hb hX hbl hbA hS dL_law_26 ?_
    refine lv_iconst (v := Int32.ofInt 5) hx hb dL_law_27 rfl ?_
    refine lv_isub hx hb dL_law_28 ?_
    rw [show Int32.ofNat L = Int32.ofInt (L : Int) from Int32.ofInt_eq_ofNat.symm, ← Int32.ofInt_sub]
    refine w_icmp hx hb (x := ((5 * t : Nat) : Int)) (y := (L : Int) - 5) ⟨by omega, by omega⟩ ⟨by omega, by omega⟩ (cn := .gt) (tgt := 2735) dL_law_29 (by decide) (fun hgt => ?_) (fun hgt => ?_)
    · refine lv_iconst (v := 1) hx hb dL_law_2735 (by decide) ?_
      refine va_forget (fun q hq => hS.2.2 q hq) ?_
      refine W.widen (k := 603072) (n := 7215210) (by omega) (by omega) ?_
      exact lw_ret hd hx hb hr hlocks dL_law_2736
    · have hi : 5 * t + 5 ≤ L := by
        have hgt : ¬ ((L : Int) - 5 < ((5 * t : Nat) : Int)) := hgt
        omega
      refine lv_aload_n hx hb dL_law_32 rfl (lv_at hl 1 rfl) ?_
      refine lv_iload hx hb dL_law_33 (lv_at hl 0 rfl) ?_
      have hq := z_in (x := ((5 * t : Nat) : Int)) (n := L) ⟨by omega, by omega⟩ (by omega)
      refine va_sld hx hb hX hbl hbA hS hq.1 dL_law_35 ?_
      refine lv_bipush (v := 63) hx hb dL_law_36 (by decide) ?_
      refine lv_iand hx hb dL_law_38 ?_
      refine lv_topi (fun x ex => ?_)
      have hc : 177 + 8 * t + 8 ≤ 603072 := by omega
      have hs : 73763 + 48 * t + 48 ≤ 7215210 := by omega
      have fin : ∀ (d1 : Drawn) (M1 : Mem) (z1 : Int64) (H1 : Heap) (locs1 : List Loc) (ls1 : Array Slot), s.drawn.sameBut d1 lw_cs → LWS cA D s.heap.size M1 z1 H1 → va_S (Al s.heap.size) s.heap H1 locs1 → lv_has ls1 9 (LV b s.heap.size (5 * t)) → W p l e room_1 (s.setDrawn d1) m #[Value.ref b] below meth c H1 locs1 (177 + 8 * t + 8) (73763 + 48 * t + 48) (lw_Z below #[Value.ref b] s) (F0 m 2729 ls1 []) := by
        intro d1 M1 z1 H1 locs1 ls1 hd1 hL1 hS1 hl1
        refine lv_iinc (v := Int32.ofInt ((5 * (t + 1) : Nat) : Int)) (lv' := LV b s.heap.size (5 * (t + 1))) hx hb dL_law_2729 hl1 (k := 0) rfl (by rw [show ((5 * (t + 1) : Nat) : Int) = ((5 * t : Nat) : Int) + 5 by omega, Int32.ofInt_add]) (by decide) rfl (fun ls2 hl2 => ?_)
        refine lv_goto (tgt := 23) hx hb dL_law_2732 (by decide) ?_
        exact ih (t + 1) d1 M1 z1 H1 locs1 ls2 (by omega) (by omega) hd1 hL1 hS1 hl2
      have go : ∀ (M1 : Mem) (z1 : Int64) (H1 : Heap) (locs1 : List Loc) (ls1 : Array Slot), LWS cA D s.heap.size M1 z1 H1 → va_S (Al s.heap.size) s.heap H1 locs1 → lv_has ls1 9 (LV b s.heap.size (5 * t)) → W p l e room_1 (s.setDrawn d) m #[Value.ref b] below meth c H1 locs1 (177 + 8 * t + 8) (73763 + 48 * t + 48) (lw_Z below #[Value.ref b] s) (F0 m 2729 ls1 []) := fun M1 z1 H1 locs1 ls1 hL1 hS1 hl1 => fin d M1 z1 H1 locs1 ls1 hd hL1 hS1 hl1
      by_cases h0 : x = 0
      · subst h0
        refine lv_tableIn (off := 181) (tgt := 220) hx hb dL_law_39 (by decide) (by decide) (by decide +kernel) (by decide) ?_
        exact cs_0 Cd hi hc hs hL hS hl go
      by_cases h1 : x = 1
      · subst h1
        refine lv_tableIn (off := 252) (tgt := 291) hx hb dL_law_39 (by decide) (by decide) (by decide +kernel) (by decide) ?_
        exact cs_1 Cd hi hc hs hL hS hl go
      by_cases h2 : x = 2
      · subst h2
        refine lv_tableIn (off := 296) (tgt := 335) hx hb dL_law_39 (by decide) (by decide) (by decide +kernel) (by decide) ?_
        exact cs_2 Cd hi hc hs hL hS hl go
      by_cases h3 : x = 3
      · subst h3
        refine lv_tableIn (off := 384) (tgt := 423) hx hb dL_law_39 (by decide) (by decide) (by decide +kernel) (by decide) ?_
        exact cs_3 Cd hi hc hs hL hS hl go
      by_cases h4 : x = 4
      · subst h4
        refine lv_tableIn (off := 397) (tgt := 436) hx hb dL_law_39 (by decide) (by decide) (by decide +kernel) (by decide) ?_
        exact cs_4 Cd hi hc hs hL hS hl go
      by_cases h5 : x = 5
      · subst h5
        refine lv_tableIn (off := 453) (tgt := 492) hx hb dL_law_39 (by decide) (by decide) (by decide +kernel) (by decide) ?_
        exact cs_5 Cd hi hc hs hL hS hl go
      by_cases h6 : x = 6
      · subst h6
        refine lv_tableIn (off := 466) (tgt := 505) hx hb dL_law_39 (by decide) (by decide) (by decide +kernel) (by decide) ?_
        exact cs_6 Cd hi hc hs hL hS hl go
      by_cases h7 : x = 7
      · subst h7
        refine lv_tableIn (off := 510) (tgt := 549) hx hb dL_law_39 (by decide) (by decide) (by decide +kernel) (by decide) ?_
        exact cs_7 Cd hi hc hs hL hS hl go
      by_cases h8 : x = 8
      · subst h8
        refine lv_tableIn (off := 602) (tgt := 641) hx hb dL_law_39 (by decide) (by decide) (by decide +kernel) (by decide) ?_
        exact cs_8 Cd hi hc hs hL hS hl go
      by_cases h9 : x = 9
      · subst h9
        refine lv_tableIn (off := 615) (tgt := 654) hx hb dL_law_39 (by decide) (by decide) (by decide +kernel) (by decide) ?_
        exact cs_9 Cd hi hc hs hL hS hl go
      by_cases h10 : x = 10
      · subst h10
        refine lv_tableIn (off := 659) (tgt := 698) hx hb dL_law_39 (by decide) (by decide) (by decide +kernel) (by decide) ?_
        exact cs_10 Cd hi hc hs hL hS hl go
      by_cases h11 : x = 11
      · subst h11
        refine lv_tableIn (off := 751) (tgt := 790) hx hb dL_law_39 (by decide) (by decide) (by decide +kernel) (by decide) ?_
        exact cs_11 Cd hi hc hs hL hS hl go
      by_cases h12 : x = 12
      · subst h12
        refine lv_tableIn (off := 819) (tgt := 858) hx hb dL_law_39 (by decide) (by decide) (by decide +kernel) (by decide) ?_
        exact cs_12 Cd hi hc hs hL hS hl go
      by_cases h13 : x = 13
      · subst h13
        refine lv_tableIn (off := 844) (tgt := 883) hx hb dL_law_39 (by decide) (by decide) (by decide +kernel) (by decide) ?_
        exact cs_13 Cd hi hc hs hL hS hl go
      by_cases h14 : x = 14
      · subst h14
        refine lv_tableIn (off := 900) (tgt := 939) hx hb dL_law_39 (by decide) (by decide) (by decide +kernel) (by decide) ?_
        exact cs_14 Cd hi hc hs hL hS hl go
      by_cases h15 : x = 15
      · subst h15
        refine lv_tableIn (off := 941) (tgt := 980) hx hb dL_law_39 (by decide) (by decide) (by decide +kernel) (by decide) ?_
        exact cs_15 Cd hi hc hs hL hS hl go
      by_cases h16 : x = 16
      · subst h16
        refine lv_tableIn (off := 1009) (tgt := 1048) hx hb dL_law_39 (by decide) (by decide) (by decide +kernel) (by decide) ?_
        exact cs_16 Cd hi hc hs hL hS hl go
      by_cases h17 : x = 17
      · subst h17
        refine lv_tableIn (off := 1089) (tgt := 1128) hx hb dL_law_39 (by decide) (by decide) (by decide +kernel) (by decide) ?_
        exact cs_17 Cd hi hc hs hL hS hl go
      by_cases h18 : x = 18
      · subst h18
        refine lv_tableIn (off := 1145) (tgt := 1184) hx hb dL_law_39 (by decide) (by decide) (by decide +kernel) (by decide) ?_
        exact cs_18 Cd hi hc hs hL hS hl go
      by_cases h19 : x = 19
      · subst h19
        refine lv_tableIn (off := 1201) (tgt := 1240) hx hb dL_law_39 (by decide) (by decide) (by decide +kernel) (by decide) ?_
        exact cs_19 Cd hi hc hs hL hS hl go
      by_cases h20 : x = 20
      · subst h20
        refine lv_tableIn (off := 1269) (tgt := 1308) hx hb dL_law_39 (by decide) (by decide) (by decide +kernel) (by decide) ?_
        exact cs_20 Cd hi hc hs hL hS hl go
      by_cases h21 : x = 21
      · subst h21
        refine lv_tableIn (off := 1337) (tgt := 1376) hx hb dL_law_39 (by decide) (by decide) (by decide +kernel) (by decide) ?_
        exact cs_21 Cd hi hc hs hL hS hl go
      by_cases h22 : x = 22
      · subst h22
        refine lv_tableIn (off := 1417) (tgt := 1456) hx hb dL_law_39 (by decide) (by decide) (by decide +kernel) (by decide) ?_
        exact cs_22 Cd hi hc hs hL hS hl go
      by_cases h23 : x = 23
      · subst h23
        refine lv_tableIn (off := 1497) (tgt := 1536) hx hb dL_law_39 (by decide) (by decide) (by decide +kernel) (by decide) ?_
        exact cs_23 Cd hi hc hs hL hS hl go
      by_cases h24 : x = 24
      · subst h24
        refine lv_tableIn (off := 1589) (tgt := 1628) hx hb dL_law_39 (by decide) (by decide) (by decide +kernel) (by decide) ?_
        exact cs_24 Cd hi hc hs hL hS hl go
      by_cases h25 : x = 25
      · subst h25
        refine lv_tableIn (off := 1645) (tgt := 1684) hx hb dL_law_39 (by decide) (by decide) (by decide +kernel) (by decide) ?_
        exact cs_25 Cd hi hc hs hL hS hl go
      by_cases h26 : x = 26
      · subst h26
        refine lv_tableIn (off := 1725) (tgt := 1764) hx hb dL_law_39 (by decide) (by decide) (by decide +kernel) (by decide) ?_
        exact cs_26 Cd hi hc hs hL hS hl go
      by_cases h27 : x = 27
      · subst h27
        refine lv_tableIn (off := 1805) (tgt := 1844) hx hb dL_law_39 (by decide) (by decide) (by decide +kernel) (by decide) ?_
        exact cs_27 Cd hi hc hs hL hS hl go
      by_cases h28 : x = 28
      · subst h28
        refine lv_tableIn (off := 1861) (tgt := 1900) hx hb dL_law_39 (by decide) (by decide) (by decide +kernel) (by decide) ?_
        exact cs_28 Cd hi hc hs hL hS hl go
      by_cases h29 : x = 29
      · subst h29
        refine lv_tableIn (off := 1924) (tgt := 1963) hx hb dL_law_39 (by decide) (by decide) (by decide +kernel) (by decide) ?_
        exact cs_29 Cd hi hc hs hL hS hl go
      by_cases h30 : x = 30
      · subst h30
        refine lv_tableIn (off := 1992) (tgt := 2031) hx hb dL_law_39 (by decide) (by decide) (by decide +kernel) (by decide) ?_
        exact cs_30 Cd hi hc hs hL hS hl go
      by_cases h31 : x = 31
      · subst h31
        refine lv_tableIn (off := 2048) (tgt := 2087) hx hb dL_law_39 (by decide) (by decide) (by decide +kernel) (by decide) ?_
        exact cs_31 Cd hi hc hs hL hS hl go
      by_cases h32 : x = 32
      · subst h32
        refine lv_tableIn (off := 2116) (tgt := 2155) hx hb dL_law_39 (by decide) (by decide) (by decide +kernel) (by decide) ?_
        exact cs_32 Cd hi hc hs hL hS hl go
      by_cases h33 : x = 33
      · subst h33
        refine lv_tableIn (off := 2196) (tgt := 2235) hx hb dL_law_39 (by decide) (by decide) (by decide +kernel) (by decide) ?_
        exact cs_33 Cd hi hc hs hL hS hl go
      by_cases h34 : x = 34
      · subst h34
        refine lv_tableIn (off := 2276) (tgt := 2315) hx hb dL_law_39 (by decide) (by decide) (by decide +kernel) (by decide) ?_
        exact cs_34 Cd hi hc hs hL hS hl go
      by_cases h35 : x = 35
      · subst h35
        refine lv_tableIn (off := 2348) (tgt := 2387) hx hb dL_law_39 (by decide) (by decide) (by decide +kernel) (by decide) ?_
        exact cs_35 Cd hi hc hs hL hS hl go
      by_cases h36 : x = 36
      · subst h36
        refine lv_tableIn (off := 2361) (tgt := 2400) hx hb dL_law_39 (by decide) (by decide) (by decide +kernel) (by decide) ?_
        exact cs_36 Cd hi hc hs hL hS hl go
      by_cases h37 : x = 37
      · subst h37
        refine lv_tableIn (off := 2441) (tgt := 2480) hx hb dL_law_39 (by decide) (by decide) (by decide +kernel) (by decide) ?_
        exact cs_37 Cd hi hc hs hL hS hl go
      by_cases h38 : x = 38
      · subst h38
        refine lv_tableIn (off := 2537) (tgt := 2576) hx hb dL_law_39 (by decide) (by decide) (by decide +kernel) (by decide) ?_
        exact cs_38 Cd hi hc hs hL hS hl go
      by_cases h39 : x = 39
      · subst h39
        refine lv_tableIn (off := 2593) (tgt := 2632) hx hb dL_law_39 (by decide) (by decide) (by decide +kernel) (by decide) ?_
        exact cs_39 C hi hc hs hL hS hl hd fin
      by_cases h40 : x = 40
      · subst h40
        refine lv_tableIn (off := 2634) (tgt := 2673) hx hb dL_law_39 (by decide) (by decide) (by decide +kernel) (by decide) ?_
        exact cs_40 C hi hc hs hL hS hl hd fin
      by_cases h41 : x = 41
      · subst h41
        refine lv_tableIn (off := 2677) (tgt := 2716) hx hb dL_law_39 (by decide) (by decide) (by decide +kernel) (by decide) ?_
        exact cs_41 Cd hi hc hs hL hS hl go
      refine lv_tableOut (tgt := 2729) hx hb dL_law_39 ?_ (by decide) ?_
      · have key : ∀ k : Int, x.toInt = k → x = Int32.ofInt k := fun k hk => by rw [← hk]; exact (Int32.ofInt_toInt _).symm
        rcases Int.lt_or_le x.toInt 0 with g1 | g1
        · exact Or.inl g1
        · rcases Int.lt_or_le 41 x.toInt with g2 | g2
          · exact Or.inr g2
          · exfalso
            have hn : ∀ k : Nat, k < 42 → x.toInt ≠ (k : Int) := fun k hk hx9 => by
              have e9 := key k hx9
              match k, hk, e9 with
              | 0, _, e9 => exact h0 (e9.trans (by decide))
              | 1, _, e9 => exact h1 (e9.trans (by decide))
              | 2, _, e9 => exact h2 (e9.trans (by decide))
              | 3, _, e9 => exact h3 (e9.trans (by decide))
              | 4, _, e9 => exact h4 (e9.trans (by decide))
              | 5, _, e9 => exact h5 (e9.trans (by decide))
              | 6, _, e9 => exact h6 (e9.trans (by decide))
              | 7, _, e9 => exact h7 (e9.trans (by decide))
              | 8, _, e9 => exact h8 (e9.trans (by decide))
              | 9, _, e9 => exact h9 (e9.trans (by decide))
              | 10, _, e9 => exact h10 (e9.trans (by decide))
              | 11, _, e9 => exact h11 (e9.trans (by decide))
              | 12, _, e9 => exact h12 (e9.trans (by decide))
              | 13, _, e9 => exact h13 (e9.trans (by decide))
              | 14, _, e9 => exact h14 (e9.trans (by decide))
              | 15, _, e9 => exact h15 (e9.trans (by decide))
              | 16, _, e9 => exact h16 (e9.trans (by decide))
              | 17, _, e9 => exact h17 (e9.trans (by decide))
              | 18, _, e9 => exact h18 (e9.trans (by decide))
              | 19, _, e9 => exact h19 (e9.trans (by decide))
              | 20, _, e9 => exact h20 (e9.trans (by decide))
              | 21, _, e9 => exact h21 (e9.trans (by decide))
              | 22, _, e9 => exact h22 (e9.trans (by decide))
              | 23, _, e9 => exact h23 (e9.trans (by decide))
              | 24, _, e9 => exact h24 (e9.trans (by decide))
              | 25, _, e9 => exact h25 (e9.trans (by decide))
              | 26, _, e9 => exact h26 (e9.trans (by decide))
              | 27, _, e9 => exact h27 (e9.trans (by decide))
              | 28, _, e9 => exact h28 (e9.trans (by decide))
              | 29, _, e9 => exact h29 (e9.trans (by decide))
              | 30, _, e9 => exact h30 (e9.trans (by decide))
              | 31, _, e9 => exact h31 (e9.trans (by decide))
              | 32, _, e9 => exact h32 (e9.trans (by decide))
              | 33, _, e9 => exact h33 (e9.trans (by decide))
              | 34, _, e9 => exact h34 (e9.trans (by decide))
              | 35, _, e9 => exact h35 (e9.trans (by decide))
              | 36, _, e9 => exact h36 (e9.trans (by decide))
              | 37, _, e9 => exact h37 (e9.trans (by decide))
              | 38, _, e9 => exact h38 (e9.trans (by decide))
              | 39, _, e9 => exact h39 (e9.trans (by decide))
              | 40, _, e9 => exact h40 (e9.trans (by decide))
              | 41, _, e9 => exact h41 (e9.trans (by decide))
              | q + 42, h, _ => exact absurd h (by omega)
            obtain ⟨k, hk⟩ := Int.eq_ofNat_of_zero_le g1
            exact hn k (by omega) hk
      · exact W.widen (by omega) (by omega) (go M z H locs ls hL hS hl)
