/-! The law's helpers: a call of the class, its throws caught (by program). -/
theorem met_ofWH {l : Launch} {y : MethodName} {ws ws' : List Cond} {rm : Room} {Pc : Array Value → State → Prop} {Qc : Array Value → State → Outcome → State → Prop} {mc ms : Nat} {free : Addr → Prop} {cc : ByteArray} {maxL : Nat} {ret : Option FieldType} {hh : List (Nat × Nat × Nat × Nat)}
    (hy : plainName y.cls = true) (hw : ws = Cond.codeWith y cc maxL ret hh :: ws')
    (body : ∀ p e s m args below meth c s₁, BodyLoose p l y (headSpec ws rm) cc maxL ret e s m args below meth c s₁ → c.maxLocals = maxL → c.exceptionTable.toList = tableOf hh → Pc args s →
      W p l e (headSpec ws rm).room s m args below meth c s.heap [] 0 0 (MQ below Qc args s mc ms free) (entryFrame m args maxL)) : Met l y ws rm Pc Qc mc ms free := by
  refine MetFree.of_bodyS (code := cc) (maxLocals := maxL) (ret := ret) hy ?_ ?_
  · intro args s m h hn
    obtain ⟨m9, meth, c, hn9, h1, h2, h3, h4, -, h5, h6, -⟩ := Cond.codeWith_spec (atoms_spec (ws := ws) h _ (by rw [hw]; exact List.mem_cons_self))
    cases hn.symm.trans hn9
    exact ⟨meth, c, h1, h2, h3, h4, h5, h6⟩
  · intro p e s m args below meth c s₁ B hml hP _
    have hh0 : s₁.heap = s.heap := by rw [B.state]; rfl
    have htab := vx_table (x := y) B (atoms_spec (ws := ws) B.pre _ (by rw [hw]; exact List.mem_cons_self))
    obtain ⟨t, a1, o, b1, b2, b3⟩ := body p e s m args below meth c s₁ B hml htab hP s₁ hh0 (Stand.of_body B)
    exact ⟨t, o, a1, b1, b2, ⟨b3.1, b3.2⟩⟩
/-- the law's own long[1], behind the world -/
def outAt (cA : Nat → ClassId) (sz0 : Nat) (z : Int64) (H : Heap) : Prop := H[sz0 + 176]? = some (vp_cell (cA 2) (1, .inr (.inl (fun _ => z))))
theorem rho_ne {B k : Nat} (h : k < 176) : rho B k ≠ B + 176 := by
  have := ord_lt k h
  show B + ord k ≠ B + 176
  omega
theorem wWs_ne {B : Nat} {cA : Nat → ClassId} {M : Mem} {k : Nat} {q : Nat × va_E} (hq : (wWs (rho B) cA M)[k]? = some q) : q.1 ≠ B + 176 := by
  by_cases hk : k < 176
  · rw [wWs_at hk] at hq
    cases hq
    exact rho_ne hk
  · exfalso
    rw [List.getElem?_eq_none (by simp [wWs]; omega)] at hq
    cases hq
theorem outAt.kept {cA : Nat → ClassId} {sz0 : Nat} {z : Int64} {H H1 : Heap} (h : outAt cA sz0 z H) (hf : ∀ q : Nat, q < H.size → ¬ Ar sz0 q → H1[q]? = H[q]?) : outAt cA sz0 z H1 := by
  have hlt : sz0 + 176 < H.size := (Array.getElem?_eq_some_iff.mp h).1
  unfold outAt
  rw [hf _ hlt (fun q => q.2 rfl)]
  exact h
def lPre (sg : Nat → Nat) (cA : Nat → ClassId) (D : va_G) (sz0 : Nat) (M : Mem) (z : Int64) (U : State) : Prop := wPic (rho sz0) sg cA D sz0 M U ∧ outAt cA sz0 z U.heap ∧ wNc U
def lPost (es : List Nat) (cv : Int → Int64) (Q : Rs → Mem → Prop) (k : Int32) (u : Mem × Int64) : Prop := (∃ v, k = 0 ∧ Q (.inl v) u.1 ∧ u.2 = cv v) ∨ (∃ j e, es[j]? = some e ∧ k = Int32.ofInt ((j + 1 : Nat) : Int) ∧ Q (.inr e) u.1)
def lW (cA : Nat → ClassId) (D : va_G) (sz0 : Nat) (u : Mem × Int64) (t : State) : Prop := wP0 (rho sz0) cA D sz0 u.1 t.heap ∧ outAt cA sz0 u.2 t.heap
def cvI (v : Int) : Int64 := (Int32.ofInt v).toInt64
def cvL (v : Int) : Int64 := Int64.ofInt v
def cvB (v : Int) : Int64 := if Int32.ofInt v = 0 then 0 else 1
theorem lPre_blind {sg : Nat → Nat} {cA : Nat → ClassId} {D : va_G} {sz0 : Nat} {M : Mem} {z : Int64} {av : List Value} : FrameBlind (va_Pc av (lPre sg cA D sz0 M z)) := fun a U g mk q =>
  ⟨q.1, ⟨q.2.1.1, q.2.1.2.1, q.2.1.2.2.1, wFix.warm (s := U) (U := U.calling g mk a) (State.WarmedH.refl U) (fun _ _ _ => rfl) q.2.1.2.2.2⟩, q.2.2.1, wNc.moved (u := U) (U := U.calling g mk a) (Vm.Alike.refl U.vm) q.2.2.2⟩
abbrev wWh (y : MethodName) (b : ByteArray) (ml : Nat) (r : Option FieldType) (hh : List (Nat × Nat × Nat × Nat)) : List Cond := Cond.codeWith y b ml r hh :: LW
section OUTR
variable {p : Program} {l : Launch} {e : Env} {R : Room} {s : State} {m : MethodId} {args : Array Value} {below : List Frame} {meth : Method} {c : Code} {H H0 : Heap} {locs : List Loc} {cells slots : Nat} {Q : State → Prop}
variable {cc : ByteArray} {pc : Nat} {ls : Array Slot} {rest : List Value} {D : va_G} {cA : Nat → ClassId} {sz0 : Nat} {M : Mem}
theorem out_last (hexec : p.tables.exec = Jvm.exec) (hb : c.code = cc) (hK : va_K D gCl (tysL cA) s) {z x : Int64} (hO : outAt cA sz0 z H) (hW : wP0 (rho sz0) cA D sz0 M H) (hS : va_S (Al sz0) H0 H locs) (hdg : decode cc pc = .ok (.lastore, 1))
    (kk : ∀ (H1 : Heap) (locs1 : List Loc), outAt cA sz0 x H1 → wP0 (rho sz0) cA D sz0 M H1 → va_S (Al sz0) H0 H1 locs1 → W p l e R s m args below meth c H1 locs1 cells slots Q (F0 m (pc + 1) ls rest)) : W p l e R s m args below meth c H locs cells slots Q (F0 m pc ls (.long x :: .int 0 :: .ref (sz0 + 176) :: rest)) := by
  refine W.last hexec hb hO ((hK.2 1 _ (show (tysL cA)[1]? = some (cA 2, .long) from rfl)).1 1 (fun _ => .long z)) (fun q => by cases q) (by show ¬ ((0 : Int32) < 0 ∨ (arrV _ _ _).slots.size ≤ _); rw [arrV_size]; exact (show ¬ ((0 : Int32) < 0 ∨ 1 ≤ (0 : Int32).toNatClampNeg) by decide)) rfl rfl hdg fun H1 e z1 oq => ?_
  refine kk H1 _ ?_ ⟨hW.1.kept (fun k q hq => oq _ (wWs_ne hq)), hW.2.1, by rw [z1]; exact hW.2.2⟩ (hS.put z1 oq (show sz0 ≤ sz0 + 176 by omega))
  show H1[sz0 + 176]? = some (vp_cell (cA 2) (1, .inr (.inl (fun _ => x))))
  rw [e]
  have h0 : (0 : Int32).toNatClampNeg = 0 := by decide
  rw [h0, vp_cell_l, vp_cell_l, arrV_store]
  unfold arrV
  refine congrArg some (congrArg (fun q => ({ cls := cA 2, slots := Array.ofFn (n := 1) q, vm := .none } : Cell)) (funext fun j => ?_))
  have hj : j.1 = 0 := by have := j.2; omega
  show updV _ 0 _ j.1 = _
  rw [hj]
  simp [updV]
theorem out_lald (hexec : p.tables.exec = Jvm.exec) (hb : c.code = cc) (hK : va_K D gCl (tysL cA) s) {z : Int64} (hO : outAt cA sz0 z H) (hdg : decode cc pc = .ok (.laload, 1))
    (kk : W p l e R s m args below meth c H locs cells slots Q (F0 m (pc + 1) ls (.long z :: rest))) : W p l e R s m args below meth c H locs cells slots Q (F0 m pc ls (.int 0 :: .ref (sz0 + 176) :: rest)) :=
  va_lald (ws := [(sz0 + 176, .inl (cA 2, 1, .inr (.inl (fun _ => z))))]) hexec hb hK (at_one (show va_at D gCl (sz0 + 176, .inl (cA 2, 1, .inr (.inl (fun _ => z)))) H from hO)) 0 1 rfl (show (tysL cA)[1]? = some (cA 2, .long) from rfl) (in_lit (by decide) (by decide)) hdg kk
end OUTR
theorem wH_0 : ((Jvm.Cond.methodLink "QueuewardLaw" (7 : Nat) ({ cls := "Queueward", name := "result", desc := "(Z)J" } : Jvm.MethodName)) : Cond) ∈ LW := LW_mem (lw_in4 _ (List.mem_of_getElem? (i := 165) (by decide +kernel))) rfl
theorem wH_1 : ((Jvm.Cond.instanceMethod ({ cls := "Queueward", name := "result", desc := "(Z)J" } : Jvm.MethodName)) : Cond) ∈ LW := LW_mem (lw_in4 _ (List.mem_of_getElem? (i := 166) (by decide +kernel))) rfl
theorem wH_2 : ((Jvm.Cond.selects "Queueward" ({ cls := "Queueward", name := "result", desc := "(Z)J" } : Jvm.MethodName) ({ cls := "Queueward", name := "result", desc := "(Z)J" } : Jvm.MethodName)) : Cond) ∈ LW := LW_mem (lw_in4 _ (List.mem_of_getElem? (i := 167) (by decide +kernel))) rfl
theorem wH_3 : ((Jvm.Cond.initialized "Queueward") : Cond) ∈ LW := LW_mem (lw_in1 _ (List.mem_of_getElem? (i := 1) (by decide +kernel))) rfl
theorem wH_4 : ((Jvm.Cond.code ({ cls := "Queueward", name := "result", desc := "(Z)J" } : Jvm.MethodName) prog_1_method_2_code (3 : Nat) (Option.some Jvm.ClassFile.FieldType.long)) : Cond) ∈ LW := LW_mem (lw_in4 _ (List.mem_of_getElem? (i := 168) (by decide +kernel))) rfl
theorem wH_5 : ((Jvm.Cond.classLink "QueuewardLaw" (13 : Nat) "java/lang/ArithmeticException") : Cond) ∈ LW := LW_mem (lw_in4 _ (List.mem_of_getElem? (i := 92) (by decide +kernel))) rfl
theorem wH_6 : ((Jvm.Cond.methodLink "QueuewardLaw" (15 : Nat) ({ cls := "Queueward", name := "write", desc := "()I" } : Jvm.MethodName)) : Cond) ∈ LW := LW_mem (lw_in4 _ (List.mem_of_getElem? (i := 186) (by decide +kernel))) rfl
theorem wH_7 : ((Jvm.Cond.instanceMethod ({ cls := "Queueward", name := "write", desc := "()I" } : Jvm.MethodName)) : Cond) ∈ LW := LW_mem (lw_in4 _ (List.mem_of_getElem? (i := 187) (by decide +kernel))) rfl
theorem wH_8 : ((Jvm.Cond.selects "Queueward" ({ cls := "Queueward", name := "write", desc := "()I" } : Jvm.MethodName) ({ cls := "Queueward", name := "write", desc := "()I" } : Jvm.MethodName)) : Cond) ∈ LW := LW_mem (lw_in4 _ (List.mem_of_getElem? (i := 188) (by decide +kernel))) rfl
theorem wH_9 : ((Jvm.Cond.code ({ cls := "Queueward", name := "write", desc := "()I" } : Jvm.MethodName) prog_1_method_3_code (3 : Nat) (Option.some Jvm.ClassFile.FieldType.int)) : Cond) ∈ LW := LW_mem (lw_in4 _ (List.mem_of_getElem? (i := 189) (by decide +kernel))) rfl
theorem wH_10 : ((Jvm.Cond.classLink "QueuewardLaw" (19 : Nat) "java/lang/IllegalStateException") : Cond) ∈ LW := LW_mem (lw_in4 _ (List.mem_of_getElem? (i := 185) (by decide +kernel))) rfl
theorem wH_11 : ((Jvm.Cond.methodLink "QueuewardLaw" (21 : Nat) ({ cls := "Queueward", name := "type", desc := "(J)I" } : Jvm.MethodName)) : Cond) ∈ LW := LW_mem (lw_in4 _ (List.mem_of_getElem? (i := 230) (by decide +kernel))) rfl
theorem wH_12 : ((Jvm.Cond.instanceMethod ({ cls := "Queueward", name := "type", desc := "(J)I" } : Jvm.MethodName)) : Cond) ∈ LW := LW_mem (lw_in4 _ (List.mem_of_getElem? (i := 231) (by decide +kernel))) rfl
theorem wH_13 : ((Jvm.Cond.selects "Queueward" ({ cls := "Queueward", name := "type", desc := "(J)I" } : Jvm.MethodName) ({ cls := "Queueward", name := "type", desc := "(J)I" } : Jvm.MethodName)) : Cond) ∈ LW := LW_mem (lw_in4 _ (List.mem_of_getElem? (i := 232) (by decide +kernel))) rfl
theorem wH_14 : ((Jvm.Cond.code ({ cls := "Queueward", name := "type", desc := "(J)I" } : Jvm.MethodName) prog_1_method_4_code (6 : Nat) (Option.some Jvm.ClassFile.FieldType.int)) : Cond) ∈ LW := LW_mem (lw_in4 _ (List.mem_of_getElem? (i := 233) (by decide +kernel))) rfl
theorem wH_15 : ((Jvm.Cond.classLink "QueuewardLaw" (25 : Nat) "java/lang/IllegalArgumentException") : Cond) ∈ LW := LW_mem (lw_in4 _ (List.mem_of_getElem? (i := 229) (by decide +kernel))) rfl
theorem wH_16 : ((Jvm.Cond.methodLink "QueuewardLaw" (27 : Nat) ({ cls := "Queueward", name := "signAt", desc := "(I)I" } : Jvm.MethodName)) : Cond) ∈ LW := LW_mem (lw_in5 _ (List.mem_of_getElem? (i := 32) (by decide +kernel))) rfl
theorem wH_17 : ((Jvm.Cond.instanceMethod ({ cls := "Queueward", name := "signAt", desc := "(I)I" } : Jvm.MethodName)) : Cond) ∈ LW := LW_mem (lw_in5 _ (List.mem_of_getElem? (i := 33) (by decide +kernel))) rfl
theorem wH_18 : ((Jvm.Cond.selects "Queueward" ({ cls := "Queueward", name := "signAt", desc := "(I)I" } : Jvm.MethodName) ({ cls := "Queueward", name := "signAt", desc := "(I)I" } : Jvm.MethodName)) : Cond) ∈ LW := LW_mem (lw_in5 _ (List.mem_of_getElem? (i := 34) (by decide +kernel))) rfl
theorem wH_19 : ((Jvm.Cond.code ({ cls := "Queueward", name := "signAt", desc := "(I)I" } : Jvm.MethodName) prog_1_method_6_code (2 : Nat) (Option.some Jvm.ClassFile.FieldType.int)) : Cond) ∈ LW := LW_mem (lw_in5 _ (List.mem_of_getElem? (i := 35) (by decide +kernel))) rfl
theorem wH_20 : ((Jvm.Cond.classLink "QueuewardLaw" (31 : Nat) "java/lang/IndexOutOfBoundsException") : Cond) ∈ LW := LW_mem (lw_in5 _ (List.mem_of_getElem? (i := 13) (by decide +kernel))) rfl
theorem wH_21 : ((Jvm.Cond.methodLink "QueuewardLaw" (33 : Nat) ({ cls := "Queueward", name := "read", desc := "()I" } : Jvm.MethodName)) : Cond) ∈ LW := LW_mem (lw_in5 _ (List.mem_of_getElem? (i := 52) (by decide +kernel))) rfl
theorem wH_22 : ((Jvm.Cond.instanceMethod ({ cls := "Queueward", name := "read", desc := "()I" } : Jvm.MethodName)) : Cond) ∈ LW := LW_mem (lw_in5 _ (List.mem_of_getElem? (i := 53) (by decide +kernel))) rfl
theorem wH_23 : ((Jvm.Cond.selects "Queueward" ({ cls := "Queueward", name := "read", desc := "()I" } : Jvm.MethodName) ({ cls := "Queueward", name := "read", desc := "()I" } : Jvm.MethodName)) : Cond) ∈ LW := LW_mem (lw_in5 _ (List.mem_of_getElem? (i := 54) (by decide +kernel))) rfl
theorem wH_24 : ((Jvm.Cond.code ({ cls := "Queueward", name := "read", desc := "()I" } : Jvm.MethodName) prog_1_method_8_code (4 : Nat) (Option.some Jvm.ClassFile.FieldType.int)) : Cond) ∈ LW := LW_mem (lw_in5 _ (List.mem_of_getElem? (i := 55) (by decide +kernel))) rfl
theorem wH_25 : ((Jvm.Cond.methodLink "QueuewardLaw" (36 : Nat) ({ cls := "Queueward", name := "come", desc := "(IIII)I" } : Jvm.MethodName)) : Cond) ∈ LW := LW_mem (lw_in5 _ (List.mem_of_getElem? (i := 83) (by decide +kernel))) rfl
theorem wH_26 : ((Jvm.Cond.instanceMethod ({ cls := "Queueward", name := "come", desc := "(IIII)I" } : Jvm.MethodName)) : Cond) ∈ LW := LW_mem (lw_in5 _ (List.mem_of_getElem? (i := 84) (by decide +kernel))) rfl
theorem wH_27 : ((Jvm.Cond.selects "Queueward" ({ cls := "Queueward", name := "come", desc := "(IIII)I" } : Jvm.MethodName) ({ cls := "Queueward", name := "come", desc := "(IIII)I" } : Jvm.MethodName)) : Cond) ∈ LW := LW_mem (lw_in5 _ (List.mem_of_getElem? (i := 85) (by decide +kernel))) rfl
theorem wH_28 : ((Jvm.Cond.code ({ cls := "Queueward", name := "come", desc := "(IIII)I" } : Jvm.MethodName) prog_1_method_9_code (5 : Nat) (Option.some Jvm.ClassFile.FieldType.int)) : Cond) ∈ LW := LW_mem (lw_in5 _ (List.mem_of_getElem? (i := 86) (by decide +kernel))) rfl
theorem wH_29 : ((Jvm.Cond.methodLink "QueuewardLaw" (40 : Nat) ({ cls := "Queueward", name := "undo", desc := "()I" } : Jvm.MethodName)) : Cond) ∈ LW := LW_mem (lw_in5 _ (List.mem_of_getElem? (i := 94) (by decide +kernel))) rfl
theorem wH_30 : ((Jvm.Cond.instanceMethod ({ cls := "Queueward", name := "undo", desc := "()I" } : Jvm.MethodName)) : Cond) ∈ LW := LW_mem (lw_in5 _ (List.mem_of_getElem? (i := 95) (by decide +kernel))) rfl
theorem wH_31 : ((Jvm.Cond.selects "Queueward" ({ cls := "Queueward", name := "undo", desc := "()I" } : Jvm.MethodName) ({ cls := "Queueward", name := "undo", desc := "()I" } : Jvm.MethodName)) : Cond) ∈ LW := LW_mem (lw_in5 _ (List.mem_of_getElem? (i := 96) (by decide +kernel))) rfl
theorem wH_32 : ((Jvm.Cond.code ({ cls := "Queueward", name := "undo", desc := "()I" } : Jvm.MethodName) prog_1_method_11_code (1 : Nat) (Option.some Jvm.ClassFile.FieldType.int)) : Cond) ∈ LW := LW_mem (lw_in5 _ (List.mem_of_getElem? (i := 97) (by decide +kernel))) rfl
theorem wH_33 : ((Jvm.Cond.classLink "QueuewardLaw" (43 : Nat) "java/util/NoSuchElementException") : Cond) ∈ LW := LW_mem (lw_in5 _ (List.mem_of_getElem? (i := 93) (by decide +kernel))) rfl
theorem wH_34 : ((Jvm.Cond.methodLink "QueuewardLaw" (45 : Nat) ({ cls := "Queueward", name := "line", desc := "(IIII)I" } : Jvm.MethodName)) : Cond) ∈ LW := LW_mem (lw_in5 _ (List.mem_of_getElem? (i := 121) (by decide +kernel))) rfl
theorem wH_35 : ((Jvm.Cond.instanceMethod ({ cls := "Queueward", name := "line", desc := "(IIII)I" } : Jvm.MethodName)) : Cond) ∈ LW := LW_mem (lw_in5 _ (List.mem_of_getElem? (i := 122) (by decide +kernel))) rfl
theorem wH_36 : ((Jvm.Cond.selects "Queueward" ({ cls := "Queueward", name := "line", desc := "(IIII)I" } : Jvm.MethodName) ({ cls := "Queueward", name := "line", desc := "(IIII)I" } : Jvm.MethodName)) : Cond) ∈ LW := LW_mem (lw_in5 _ (List.mem_of_getElem? (i := 123) (by decide +kernel))) rfl
theorem wH_37 : ((Jvm.Cond.code ({ cls := "Queueward", name := "line", desc := "(IIII)I" } : Jvm.MethodName) prog_1_method_12_code (6 : Nat) (Option.some Jvm.ClassFile.FieldType.int)) : Cond) ∈ LW := LW_mem (lw_in5 _ (List.mem_of_getElem? (i := 124) (by decide +kernel))) rfl
theorem wH_38 : ((Jvm.Cond.methodLink "QueuewardLaw" (48 : Nat) ({ cls := "Queueward", name := "jobAt", desc := "(II)I" } : Jvm.MethodName)) : Cond) ∈ LW := LW_mem (lw_in5 _ (List.mem_of_getElem? (i := 129) (by decide +kernel))) rfl
theorem wH_39 : ((Jvm.Cond.instanceMethod ({ cls := "Queueward", name := "jobAt", desc := "(II)I" } : Jvm.MethodName)) : Cond) ∈ LW := LW_mem (lw_in5 _ (List.mem_of_getElem? (i := 130) (by decide +kernel))) rfl
theorem wH_40 : ((Jvm.Cond.selects "Queueward" ({ cls := "Queueward", name := "jobAt", desc := "(II)I" } : Jvm.MethodName) ({ cls := "Queueward", name := "jobAt", desc := "(II)I" } : Jvm.MethodName)) : Cond) ∈ LW := LW_mem (lw_in5 _ (List.mem_of_getElem? (i := 131) (by decide +kernel))) rfl
theorem wH_41 : ((Jvm.Cond.code ({ cls := "Queueward", name := "jobAt", desc := "(II)I" } : Jvm.MethodName) prog_1_method_13_code (3 : Nat) (Option.some Jvm.ClassFile.FieldType.int)) : Cond) ∈ LW := LW_mem (lw_in5 _ (List.mem_of_getElem? (i := 132) (by decide +kernel))) rfl
theorem wH_42 : ((Jvm.Cond.methodLink "QueuewardLaw" (52 : Nat) ({ cls := "Queueward", name := "meanTime", desc := "(I)I" } : Jvm.MethodName)) : Cond) ∈ LW := LW_mem (lw_in5 _ (List.mem_of_getElem? (i := 140) (by decide +kernel))) rfl
theorem wH_43 : ((Jvm.Cond.instanceMethod ({ cls := "Queueward", name := "meanTime", desc := "(I)I" } : Jvm.MethodName)) : Cond) ∈ LW := LW_mem (lw_in5 _ (List.mem_of_getElem? (i := 141) (by decide +kernel))) rfl
theorem wH_44 : ((Jvm.Cond.selects "Queueward" ({ cls := "Queueward", name := "meanTime", desc := "(I)I" } : Jvm.MethodName) ({ cls := "Queueward", name := "meanTime", desc := "(I)I" } : Jvm.MethodName)) : Cond) ∈ LW := LW_mem (lw_in5 _ (List.mem_of_getElem? (i := 142) (by decide +kernel))) rfl
theorem wH_45 : ((Jvm.Cond.code ({ cls := "Queueward", name := "meanTime", desc := "(I)I" } : Jvm.MethodName) prog_1_method_15_code (8 : Nat) (Option.some Jvm.ClassFile.FieldType.int)) : Cond) ∈ LW := LW_mem (lw_in5 _ (List.mem_of_getElem? (i := 143) (by decide +kernel))) rfl
theorem wH_46 : ((Jvm.Cond.methodLink "QueuewardLaw" (55 : Nat) ({ cls := "Queueward", name := "states", desc := "(II)I" } : Jvm.MethodName)) : Cond) ∈ LW := LW_mem (lw_in5 _ (List.mem_of_getElem? (i := 161) (by decide +kernel))) rfl
theorem wH_47 : ((Jvm.Cond.instanceMethod ({ cls := "Queueward", name := "states", desc := "(II)I" } : Jvm.MethodName)) : Cond) ∈ LW := LW_mem (lw_in5 _ (List.mem_of_getElem? (i := 162) (by decide +kernel))) rfl
theorem wH_48 : ((Jvm.Cond.selects "Queueward" ({ cls := "Queueward", name := "states", desc := "(II)I" } : Jvm.MethodName) ({ cls := "Queueward", name := "states", desc := "(II)I" } : Jvm.MethodName)) : Cond) ∈ LW := LW_mem (lw_in5 _ (List.mem_of_getElem? (i := 163) (by decide +kernel))) rfl
theorem wH_49 : ((Jvm.Cond.code ({ cls := "Queueward", name := "states", desc := "(II)I" } : Jvm.MethodName) prog_1_method_17_code (4 : Nat) (Option.some Jvm.ClassFile.FieldType.int)) : Cond) ∈ LW := LW_mem (lw_in5 _ (List.mem_of_getElem? (i := 164) (by decide +kernel))) rfl
theorem wH_50 : ((Jvm.Cond.methodLink "QueuewardLaw" (58 : Nat) ({ cls := "Queueward", name := "chance", desc := "(III)I" } : Jvm.MethodName)) : Cond) ∈ LW := LW_mem (lw_in5 _ (List.mem_of_getElem? (i := 173) (by decide +kernel))) rfl
theorem wH_51 : ((Jvm.Cond.instanceMethod ({ cls := "Queueward", name := "chance", desc := "(III)I" } : Jvm.MethodName)) : Cond) ∈ LW := LW_mem (lw_in5 _ (List.mem_of_getElem? (i := 174) (by decide +kernel))) rfl
theorem wH_52 : ((Jvm.Cond.selects "Queueward" ({ cls := "Queueward", name := "chance", desc := "(III)I" } : Jvm.MethodName) ({ cls := "Queueward", name := "chance", desc := "(III)I" } : Jvm.MethodName)) : Cond) ∈ LW := LW_mem (lw_in5 _ (List.mem_of_getElem? (i := 175) (by decide +kernel))) rfl
theorem wH_53 : ((Jvm.Cond.code ({ cls := "Queueward", name := "chance", desc := "(III)I" } : Jvm.MethodName) prog_1_method_18_code (4 : Nat) (Option.some Jvm.ClassFile.FieldType.int)) : Cond) ∈ LW := LW_mem (lw_in5 _ (List.mem_of_getElem? (i := 176) (by decide +kernel))) rfl
theorem wH_54 : ((Jvm.Cond.methodLink "QueuewardLaw" (62 : Nat) ({ cls := "Queueward", name := "group", desc := "(I)I" } : Jvm.MethodName)) : Cond) ∈ LW := LW_mem (lw_in5 _ (List.mem_of_getElem? (i := 187) (by decide +kernel))) rfl
theorem wH_55 : ((Jvm.Cond.instanceMethod ({ cls := "Queueward", name := "group", desc := "(I)I" } : Jvm.MethodName)) : Cond) ∈ LW := LW_mem (lw_in5 _ (List.mem_of_getElem? (i := 188) (by decide +kernel))) rfl
theorem wH_56 : ((Jvm.Cond.selects "Queueward" ({ cls := "Queueward", name := "group", desc := "(I)I" } : Jvm.MethodName) ({ cls := "Queueward", name := "group", desc := "(I)I" } : Jvm.MethodName)) : Cond) ∈ LW := LW_mem (lw_in5 _ (List.mem_of_getElem? (i := 189) (by decide +kernel))) rfl
theorem wH_57 : ((Jvm.Cond.code ({ cls := "Queueward", name := "group", desc := "(I)I" } : Jvm.MethodName) prog_1_method_19_code (2 : Nat) (Option.some Jvm.ClassFile.FieldType.int)) : Cond) ∈ LW := LW_mem (lw_in5 _ (List.mem_of_getElem? (i := 190) (by decide +kernel))) rfl
theorem wH_58 : ((Jvm.Cond.methodLink "QueuewardLaw" (65 : Nat) ({ cls := "Queueward", name := "longShare", desc := "(I)I" } : Jvm.MethodName)) : Cond) ∈ LW := LW_mem (lw_in5 _ (List.mem_of_getElem? (i := 209) (by decide +kernel))) rfl
theorem wH_59 : ((Jvm.Cond.instanceMethod ({ cls := "Queueward", name := "longShare", desc := "(I)I" } : Jvm.MethodName)) : Cond) ∈ LW := LW_mem (lw_in5 _ (List.mem_of_getElem? (i := 210) (by decide +kernel))) rfl
theorem wH_60 : ((Jvm.Cond.selects "Queueward" ({ cls := "Queueward", name := "longShare", desc := "(I)I" } : Jvm.MethodName) ({ cls := "Queueward", name := "longShare", desc := "(I)I" } : Jvm.MethodName)) : Cond) ∈ LW := LW_mem (lw_in5 _ (List.mem_of_getElem? (i := 211) (by decide +kernel))) rfl
theorem wH_61 : ((Jvm.Cond.code ({ cls := "Queueward", name := "longShare", desc := "(I)I" } : Jvm.MethodName) prog_1_method_20_code (2 : Nat) (Option.some Jvm.ClassFile.FieldType.int)) : Cond) ∈ LW := LW_mem (lw_in5 _ (List.mem_of_getElem? (i := 212) (by decide +kernel))) rfl
theorem wH_62 : ((Jvm.Cond.methodLink "QueuewardLaw" (68 : Nat) ({ cls := "Queueward", name := "reach", desc := "(II)I" } : Jvm.MethodName)) : Cond) ∈ LW := LW_mem (lw_in5 _ (List.mem_of_getElem? (i := 222) (by decide +kernel))) rfl
theorem wH_63 : ((Jvm.Cond.instanceMethod ({ cls := "Queueward", name := "reach", desc := "(II)I" } : Jvm.MethodName)) : Cond) ∈ LW := LW_mem (lw_in5 _ (List.mem_of_getElem? (i := 223) (by decide +kernel))) rfl
theorem wH_64 : ((Jvm.Cond.selects "Queueward" ({ cls := "Queueward", name := "reach", desc := "(II)I" } : Jvm.MethodName) ({ cls := "Queueward", name := "reach", desc := "(II)I" } : Jvm.MethodName)) : Cond) ∈ LW := LW_mem (lw_in5 _ (List.mem_of_getElem? (i := 224) (by decide +kernel))) rfl
theorem wH_65 : ((Jvm.Cond.code ({ cls := "Queueward", name := "reach", desc := "(II)I" } : Jvm.MethodName) prog_1_method_21_code (3 : Nat) (Option.some Jvm.ClassFile.FieldType.int)) : Cond) ∈ LW := LW_mem (lw_in5 _ (List.mem_of_getElem? (i := 225) (by decide +kernel))) rfl
theorem wH_66 : ((Jvm.Cond.methodLink "QueuewardLaw" (71 : Nat) ({ cls := "Queueward", name := "timeTo", desc := "(II)I" } : Jvm.MethodName)) : Cond) ∈ LW := LW_mem (lw_in5 _ (List.mem_of_getElem? (i := 237) (by decide +kernel))) rfl
theorem wH_67 : ((Jvm.Cond.instanceMethod ({ cls := "Queueward", name := "timeTo", desc := "(II)I" } : Jvm.MethodName)) : Cond) ∈ LW := LW_mem (lw_in5 _ (List.mem_of_getElem? (i := 238) (by decide +kernel))) rfl
theorem wH_68 : ((Jvm.Cond.selects "Queueward" ({ cls := "Queueward", name := "timeTo", desc := "(II)I" } : Jvm.MethodName) ({ cls := "Queueward", name := "timeTo", desc := "(II)I" } : Jvm.MethodName)) : Cond) ∈ LW := LW_mem (lw_in5 _ (List.mem_of_getElem? (i := 239) (by decide +kernel))) rfl
theorem wH_69 : ((Jvm.Cond.code ({ cls := "Queueward", name := "timeTo", desc := "(II)I" } : Jvm.MethodName) prog_1_method_22_code (3 : Nat) (Option.some Jvm.ClassFile.FieldType.int)) : Cond) ∈ LW := LW_mem (lw_in6 _ (List.mem_of_getElem? (i := 0) (by decide +kernel))) rfl
theorem wH_70 : ((Jvm.Cond.methodLink "QueuewardLaw" (74 : Nat) ({ cls := "Queueward", name := "behind", desc := "(III)I" } : Jvm.MethodName)) : Cond) ∈ LW := LW_mem (lw_in6 _ (List.mem_of_getElem? (i := 17) (by decide +kernel))) rfl
theorem wH_71 : ((Jvm.Cond.instanceMethod ({ cls := "Queueward", name := "behind", desc := "(III)I" } : Jvm.MethodName)) : Cond) ∈ LW := LW_mem (lw_in6 _ (List.mem_of_getElem? (i := 18) (by decide +kernel))) rfl
theorem wH_72 : ((Jvm.Cond.selects "Queueward" ({ cls := "Queueward", name := "behind", desc := "(III)I" } : Jvm.MethodName) ({ cls := "Queueward", name := "behind", desc := "(III)I" } : Jvm.MethodName)) : Cond) ∈ LW := LW_mem (lw_in6 _ (List.mem_of_getElem? (i := 19) (by decide +kernel))) rfl
theorem wH_73 : ((Jvm.Cond.code ({ cls := "Queueward", name := "behind", desc := "(III)I" } : Jvm.MethodName) prog_1_method_23_code (4 : Nat) (Option.some Jvm.ClassFile.FieldType.int)) : Cond) ∈ LW := LW_mem (lw_in6 _ (List.mem_of_getElem? (i := 20) (by decide +kernel))) rfl
theorem wH_74 : ((Jvm.Cond.methodLink "QueuewardLaw" (77 : Nat) ({ cls := "Queueward", name := "lostShare", desc := "(III)I" } : Jvm.MethodName)) : Cond) ∈ LW := LW_mem (lw_in6 _ (List.mem_of_getElem? (i := 79) (by decide +kernel))) rfl
theorem wH_75 : ((Jvm.Cond.instanceMethod ({ cls := "Queueward", name := "lostShare", desc := "(III)I" } : Jvm.MethodName)) : Cond) ∈ LW := LW_mem (lw_in6 _ (List.mem_of_getElem? (i := 80) (by decide +kernel))) rfl
theorem wH_76 : ((Jvm.Cond.selects "Queueward" ({ cls := "Queueward", name := "lostShare", desc := "(III)I" } : Jvm.MethodName) ({ cls := "Queueward", name := "lostShare", desc := "(III)I" } : Jvm.MethodName)) : Cond) ∈ LW := LW_mem (lw_in6 _ (List.mem_of_getElem? (i := 81) (by decide +kernel))) rfl
theorem wH_77 : ((Jvm.Cond.code ({ cls := "Queueward", name := "lostShare", desc := "(III)I" } : Jvm.MethodName) prog_1_method_26_code (5 : Nat) (Option.some Jvm.ClassFile.FieldType.int)) : Cond) ∈ LW := LW_mem (lw_in6 _ (List.mem_of_getElem? (i := 82) (by decide +kernel))) rfl
theorem wH_78 : ((Jvm.Cond.methodLink "QueuewardLaw" (80 : Nat) ({ cls := "Queueward", name := "serversFor", desc := "(IIII)I" } : Jvm.MethodName)) : Cond) ∈ LW := LW_mem (lw_in6 _ (List.mem_of_getElem? (i := 105) (by decide +kernel))) rfl
theorem wH_79 : ((Jvm.Cond.instanceMethod ({ cls := "Queueward", name := "serversFor", desc := "(IIII)I" } : Jvm.MethodName)) : Cond) ∈ LW := LW_mem (lw_in6 _ (List.mem_of_getElem? (i := 106) (by decide +kernel))) rfl
theorem wH_80 : ((Jvm.Cond.selects "Queueward" ({ cls := "Queueward", name := "serversFor", desc := "(IIII)I" } : Jvm.MethodName) ({ cls := "Queueward", name := "serversFor", desc := "(IIII)I" } : Jvm.MethodName)) : Cond) ∈ LW := LW_mem (lw_in6 _ (List.mem_of_getElem? (i := 107) (by decide +kernel))) rfl
theorem wH_81 : ((Jvm.Cond.code ({ cls := "Queueward", name := "serversFor", desc := "(IIII)I" } : Jvm.MethodName) prog_1_method_27_code (6 : Nat) (Option.some Jvm.ClassFile.FieldType.int)) : Cond) ∈ LW := LW_mem (lw_in6 _ (List.mem_of_getElem? (i := 108) (by decide +kernel))) rfl
theorem wH_82 : ((Jvm.Cond.methodLink "QueuewardLaw" (83 : Nat) ({ cls := "Queueward", name := "net", desc := "(I)I" } : Jvm.MethodName)) : Cond) ∈ LW := LW_mem (lw_in6 _ (List.mem_of_getElem? (i := 119) (by decide +kernel))) rfl
theorem wH_83 : ((Jvm.Cond.instanceMethod ({ cls := "Queueward", name := "net", desc := "(I)I" } : Jvm.MethodName)) : Cond) ∈ LW := LW_mem (lw_in6 _ (List.mem_of_getElem? (i := 120) (by decide +kernel))) rfl
theorem wH_84 : ((Jvm.Cond.selects "Queueward" ({ cls := "Queueward", name := "net", desc := "(I)I" } : Jvm.MethodName) ({ cls := "Queueward", name := "net", desc := "(I)I" } : Jvm.MethodName)) : Cond) ∈ LW := LW_mem (lw_in6 _ (List.mem_of_getElem? (i := 121) (by decide +kernel))) rfl
theorem wH_85 : ((Jvm.Cond.code ({ cls := "Queueward", name := "net", desc := "(I)I" } : Jvm.MethodName) prog_1_method_29_code (3 : Nat) (Option.some Jvm.ClassFile.FieldType.int)) : Cond) ∈ LW := LW_mem (lw_in6 _ (List.mem_of_getElem? (i := 122) (by decide +kernel))) rfl
theorem wH_86 : ((Jvm.Cond.methodLink "QueuewardLaw" (86 : Nat) ({ cls := "Queueward", name := "node", desc := "(III)I" } : Jvm.MethodName)) : Cond) ∈ LW := LW_mem (lw_in6 _ (List.mem_of_getElem? (i := 131) (by decide +kernel))) rfl
theorem wH_87 : ((Jvm.Cond.instanceMethod ({ cls := "Queueward", name := "node", desc := "(III)I" } : Jvm.MethodName)) : Cond) ∈ LW := LW_mem (lw_in6 _ (List.mem_of_getElem? (i := 132) (by decide +kernel))) rfl
theorem wH_88 : ((Jvm.Cond.selects "Queueward" ({ cls := "Queueward", name := "node", desc := "(III)I" } : Jvm.MethodName) ({ cls := "Queueward", name := "node", desc := "(III)I" } : Jvm.MethodName)) : Cond) ∈ LW := LW_mem (lw_in6 _ (List.mem_of_getElem? (i := 133) (by decide +kernel))) rfl
theorem wH_89 : ((Jvm.Cond.code ({ cls := "Queueward", name := "node", desc := "(III)I" } : Jvm.MethodName) prog_1_method_30_code (5 : Nat) (Option.some Jvm.ClassFile.FieldType.int)) : Cond) ∈ LW := LW_mem (lw_in6 _ (List.mem_of_getElem? (i := 134) (by decide +kernel))) rfl
theorem wH_90 : ((Jvm.Cond.methodLink "QueuewardLaw" (89 : Nat) ({ cls := "Queueward", name := "way", desc := "(III)I" } : Jvm.MethodName)) : Cond) ∈ LW := LW_mem (lw_in6 _ (List.mem_of_getElem? (i := 144) (by decide +kernel))) rfl
theorem wH_91 : ((Jvm.Cond.instanceMethod ({ cls := "Queueward", name := "way", desc := "(III)I" } : Jvm.MethodName)) : Cond) ∈ LW := LW_mem (lw_in6 _ (List.mem_of_getElem? (i := 145) (by decide +kernel))) rfl
theorem wH_92 : ((Jvm.Cond.selects "Queueward" ({ cls := "Queueward", name := "way", desc := "(III)I" } : Jvm.MethodName) ({ cls := "Queueward", name := "way", desc := "(III)I" } : Jvm.MethodName)) : Cond) ∈ LW := LW_mem (lw_in6 _ (List.mem_of_getElem? (i := 146) (by decide +kernel))) rfl
theorem wH_93 : ((Jvm.Cond.code ({ cls := "Queueward", name := "way", desc := "(III)I" } : Jvm.MethodName) prog_1_method_31_code (4 : Nat) (Option.some Jvm.ClassFile.FieldType.int)) : Cond) ∈ LW := LW_mem (lw_in6 _ (List.mem_of_getElem? (i := 147) (by decide +kernel))) rfl
theorem wH_94 : ((Jvm.Cond.methodLink "QueuewardLaw" (92 : Nat) ({ cls := "Queueward", name := "rate", desc := "(I)I" } : Jvm.MethodName)) : Cond) ∈ LW := LW_mem (lw_in6 _ (List.mem_of_getElem? (i := 152) (by decide +kernel))) rfl
theorem wH_95 : ((Jvm.Cond.instanceMethod ({ cls := "Queueward", name := "rate", desc := "(I)I" } : Jvm.MethodName)) : Cond) ∈ LW := LW_mem (lw_in6 _ (List.mem_of_getElem? (i := 153) (by decide +kernel))) rfl
theorem wH_96 : ((Jvm.Cond.selects "Queueward" ({ cls := "Queueward", name := "rate", desc := "(I)I" } : Jvm.MethodName) ({ cls := "Queueward", name := "rate", desc := "(I)I" } : Jvm.MethodName)) : Cond) ∈ LW := LW_mem (lw_in6 _ (List.mem_of_getElem? (i := 154) (by decide +kernel))) rfl
theorem wH_97 : ((Jvm.Cond.code ({ cls := "Queueward", name := "rate", desc := "(I)I" } : Jvm.MethodName) prog_1_method_32_code (2 : Nat) (Option.some Jvm.ClassFile.FieldType.int)) : Cond) ∈ LW := LW_mem (lw_in6 _ (List.mem_of_getElem? (i := 155) (by decide +kernel))) rfl
theorem wH_98 : ((Jvm.Cond.methodLink "QueuewardLaw" (95 : Nat) ({ cls := "Queueward", name := "isStable", desc := "(I)Z" } : Jvm.MethodName)) : Cond) ∈ LW := LW_mem (lw_in6 _ (List.mem_of_getElem? (i := 182) (by decide +kernel))) rfl
theorem wH_99 : ((Jvm.Cond.instanceMethod ({ cls := "Queueward", name := "isStable", desc := "(I)Z" } : Jvm.MethodName)) : Cond) ∈ LW := LW_mem (lw_in6 _ (List.mem_of_getElem? (i := 183) (by decide +kernel))) rfl
theorem wH_100 : ((Jvm.Cond.selects "Queueward" ({ cls := "Queueward", name := "isStable", desc := "(I)Z" } : Jvm.MethodName) ({ cls := "Queueward", name := "isStable", desc := "(I)Z" } : Jvm.MethodName)) : Cond) ∈ LW := LW_mem (lw_in6 _ (List.mem_of_getElem? (i := 184) (by decide +kernel))) rfl
theorem wH_101 : ((Jvm.Cond.code ({ cls := "Queueward", name := "isStable", desc := "(I)Z" } : Jvm.MethodName) prog_1_method_33_code (2 : Nat) (Option.some Jvm.ClassFile.FieldType.boolean)) : Cond) ∈ LW := LW_mem (lw_in6 _ (List.mem_of_getElem? (i := 185) (by decide +kernel))) rfl
theorem wH_102 : ((Jvm.Cond.methodLink "QueuewardLaw" (99 : Nat) ({ cls := "Queueward", name := "numbers", desc := "(II)I" } : Jvm.MethodName)) : Cond) ∈ LW := LW_mem (lw_in6 _ (List.mem_of_getElem? (i := 193) (by decide +kernel))) rfl
theorem wH_103 : ((Jvm.Cond.instanceMethod ({ cls := "Queueward", name := "numbers", desc := "(II)I" } : Jvm.MethodName)) : Cond) ∈ LW := LW_mem (lw_in6 _ (List.mem_of_getElem? (i := 194) (by decide +kernel))) rfl
theorem wH_104 : ((Jvm.Cond.selects "Queueward" ({ cls := "Queueward", name := "numbers", desc := "(II)I" } : Jvm.MethodName) ({ cls := "Queueward", name := "numbers", desc := "(II)I" } : Jvm.MethodName)) : Cond) ∈ LW := LW_mem (lw_in6 _ (List.mem_of_getElem? (i := 195) (by decide +kernel))) rfl
theorem wH_105 : ((Jvm.Cond.code ({ cls := "Queueward", name := "numbers", desc := "(II)I" } : Jvm.MethodName) prog_1_method_34_code (3 : Nat) (Option.some Jvm.ClassFile.FieldType.int)) : Cond) ∈ LW := LW_mem (lw_in6 _ (List.mem_of_getElem? (i := 196) (by decide +kernel))) rfl
theorem wH_106 : ((Jvm.Cond.methodLink "QueuewardLaw" (102 : Nat) ({ cls := "Queueward", name := "growth", desc := "(I)I" } : Jvm.MethodName)) : Cond) ∈ LW := LW_mem (lw_in6 _ (List.mem_of_getElem? (i := 212) (by decide +kernel))) rfl
theorem wH_107 : ((Jvm.Cond.instanceMethod ({ cls := "Queueward", name := "growth", desc := "(I)I" } : Jvm.MethodName)) : Cond) ∈ LW := LW_mem (lw_in6 _ (List.mem_of_getElem? (i := 213) (by decide +kernel))) rfl
theorem wH_108 : ((Jvm.Cond.selects "Queueward" ({ cls := "Queueward", name := "growth", desc := "(I)I" } : Jvm.MethodName) ({ cls := "Queueward", name := "growth", desc := "(I)I" } : Jvm.MethodName)) : Cond) ∈ LW := LW_mem (lw_in6 _ (List.mem_of_getElem? (i := 214) (by decide +kernel))) rfl
theorem wH_109 : ((Jvm.Cond.code ({ cls := "Queueward", name := "growth", desc := "(I)I" } : Jvm.MethodName) prog_1_method_35_code (4 : Nat) (Option.some Jvm.ClassFile.FieldType.int)) : Cond) ∈ LW := LW_mem (lw_in6 _ (List.mem_of_getElem? (i := 215) (by decide +kernel))) rfl
theorem wH_110 : ((Jvm.Cond.methodLink "QueuewardLaw" (105 : Nat) ({ cls := "Queueward", name := "closed", desc := "(II)I" } : Jvm.MethodName)) : Cond) ∈ LW := LW_mem (lw_in6 _ (List.mem_of_getElem? (i := 224) (by decide +kernel))) rfl
theorem wH_111 : ((Jvm.Cond.instanceMethod ({ cls := "Queueward", name := "closed", desc := "(II)I" } : Jvm.MethodName)) : Cond) ∈ LW := LW_mem (lw_in6 _ (List.mem_of_getElem? (i := 225) (by decide +kernel))) rfl
theorem wH_112 : ((Jvm.Cond.selects "Queueward" ({ cls := "Queueward", name := "closed", desc := "(II)I" } : Jvm.MethodName) ({ cls := "Queueward", name := "closed", desc := "(II)I" } : Jvm.MethodName)) : Cond) ∈ LW := LW_mem (lw_in6 _ (List.mem_of_getElem? (i := 226) (by decide +kernel))) rfl
theorem wH_113 : ((Jvm.Cond.code ({ cls := "Queueward", name := "closed", desc := "(II)I" } : Jvm.MethodName) prog_1_method_36_code (3 : Nat) (Option.some Jvm.ClassFile.FieldType.int)) : Cond) ∈ LW := LW_mem (lw_in6 _ (List.mem_of_getElem? (i := 227) (by decide +kernel))) rfl
theorem wH_114 : ((Jvm.Cond.methodLink "QueuewardLaw" (108 : Nat) ({ cls := "Queueward", name := "envelope", desc := "(III)I" } : Jvm.MethodName)) : Cond) ∈ LW := LW_mem (lw_in6 _ (List.mem_of_getElem? (i := 237) (by decide +kernel))) rfl
theorem wH_115 : ((Jvm.Cond.instanceMethod ({ cls := "Queueward", name := "envelope", desc := "(III)I" } : Jvm.MethodName)) : Cond) ∈ LW := LW_mem (lw_in6 _ (List.mem_of_getElem? (i := 238) (by decide +kernel))) rfl
theorem wH_116 : ((Jvm.Cond.selects "Queueward" ({ cls := "Queueward", name := "envelope", desc := "(III)I" } : Jvm.MethodName) ({ cls := "Queueward", name := "envelope", desc := "(III)I" } : Jvm.MethodName)) : Cond) ∈ LW := LW_mem (lw_in6 _ (List.mem_of_getElem? (i := 239) (by decide +kernel))) rfl
theorem wH_117 : ((Jvm.Cond.code ({ cls := "Queueward", name := "envelope", desc := "(III)I" } : Jvm.MethodName) prog_1_method_39_code (5 : Nat) (Option.some Jvm.ClassFile.FieldType.int)) : Cond) ∈ LW := LW_mem (lw_in7 _ (List.mem_of_getElem? (i := 0) (by decide +kernel))) rfl
theorem wH_118 : ((Jvm.Cond.methodLink "QueuewardLaw" (111 : Nat) ({ cls := "Queueward", name := "server", desc := "(III)I" } : Jvm.MethodName)) : Cond) ∈ LW := LW_mem (lw_in7 _ (List.mem_of_getElem? (i := 9) (by decide +kernel))) rfl
theorem wH_119 : ((Jvm.Cond.instanceMethod ({ cls := "Queueward", name := "server", desc := "(III)I" } : Jvm.MethodName)) : Cond) ∈ LW := LW_mem (lw_in7 _ (List.mem_of_getElem? (i := 10) (by decide +kernel))) rfl
theorem wH_120 : ((Jvm.Cond.selects "Queueward" ({ cls := "Queueward", name := "server", desc := "(III)I" } : Jvm.MethodName) ({ cls := "Queueward", name := "server", desc := "(III)I" } : Jvm.MethodName)) : Cond) ∈ LW := LW_mem (lw_in7 _ (List.mem_of_getElem? (i := 11) (by decide +kernel))) rfl
theorem wH_121 : ((Jvm.Cond.code ({ cls := "Queueward", name := "server", desc := "(III)I" } : Jvm.MethodName) prog_1_method_40_code (4 : Nat) (Option.some Jvm.ClassFile.FieldType.int)) : Cond) ∈ LW := LW_mem (lw_in7 _ (List.mem_of_getElem? (i := 12) (by decide +kernel))) rfl
theorem wH_122 : ((Jvm.Cond.methodLink "QueuewardLaw" (114 : Nat) ({ cls := "Queueward", name := "bound", desc := "(Z)I" } : Jvm.MethodName)) : Cond) ∈ LW := LW_mem (lw_in7 _ (List.mem_of_getElem? (i := 22) (by decide +kernel))) rfl
theorem wH_123 : ((Jvm.Cond.instanceMethod ({ cls := "Queueward", name := "bound", desc := "(Z)I" } : Jvm.MethodName)) : Cond) ∈ LW := LW_mem (lw_in7 _ (List.mem_of_getElem? (i := 23) (by decide +kernel))) rfl
theorem wH_124 : ((Jvm.Cond.selects "Queueward" ({ cls := "Queueward", name := "bound", desc := "(Z)I" } : Jvm.MethodName) ({ cls := "Queueward", name := "bound", desc := "(Z)I" } : Jvm.MethodName)) : Cond) ∈ LW := LW_mem (lw_in7 _ (List.mem_of_getElem? (i := 24) (by decide +kernel))) rfl
theorem wH_125 : ((Jvm.Cond.code ({ cls := "Queueward", name := "bound", desc := "(Z)I" } : Jvm.MethodName) prog_1_method_41_code (2 : Nat) (Option.some Jvm.ClassFile.FieldType.int)) : Cond) ∈ LW := LW_mem (lw_in7 _ (List.mem_of_getElem? (i := 25) (by decide +kernel))) rfl
theorem wH_126 : ((Jvm.Cond.methodLink "QueuewardLaw" (118 : Nat) ({ cls := "Queueward", name := "option", desc := "(III)I" } : Jvm.MethodName)) : Cond) ∈ LW := LW_mem (lw_in7 _ (List.mem_of_getElem? (i := 44) (by decide +kernel))) rfl
theorem wH_127 : ((Jvm.Cond.instanceMethod ({ cls := "Queueward", name := "option", desc := "(III)I" } : Jvm.MethodName)) : Cond) ∈ LW := LW_mem (lw_in7 _ (List.mem_of_getElem? (i := 45) (by decide +kernel))) rfl
theorem wH_128 : ((Jvm.Cond.selects "Queueward" ({ cls := "Queueward", name := "option", desc := "(III)I" } : Jvm.MethodName) ({ cls := "Queueward", name := "option", desc := "(III)I" } : Jvm.MethodName)) : Cond) ∈ LW := LW_mem (lw_in7 _ (List.mem_of_getElem? (i := 46) (by decide +kernel))) rfl
theorem wH_129 : ((Jvm.Cond.code ({ cls := "Queueward", name := "option", desc := "(III)I" } : Jvm.MethodName) prog_1_method_43_code (5 : Nat) (Option.some Jvm.ClassFile.FieldType.int)) : Cond) ∈ LW := LW_mem (lw_in7 _ (List.mem_of_getElem? (i := 47) (by decide +kernel))) rfl
theorem wH_130 : ((Jvm.Cond.methodLink "QueuewardLaw" (121 : Nat) ({ cls := "Queueward", name := "split", desc := "(IIZ)I" } : Jvm.MethodName)) : Cond) ∈ LW := LW_mem (lw_in7 _ (List.mem_of_getElem? (i := 51) (by decide +kernel))) rfl
theorem wH_131 : ((Jvm.Cond.instanceMethod ({ cls := "Queueward", name := "split", desc := "(IIZ)I" } : Jvm.MethodName)) : Cond) ∈ LW := LW_mem (lw_in7 _ (List.mem_of_getElem? (i := 52) (by decide +kernel))) rfl
theorem wH_132 : ((Jvm.Cond.selects "Queueward" ({ cls := "Queueward", name := "split", desc := "(IIZ)I" } : Jvm.MethodName) ({ cls := "Queueward", name := "split", desc := "(IIZ)I" } : Jvm.MethodName)) : Cond) ∈ LW := LW_mem (lw_in7 _ (List.mem_of_getElem? (i := 53) (by decide +kernel))) rfl
theorem wH_133 : ((Jvm.Cond.code ({ cls := "Queueward", name := "split", desc := "(IIZ)I" } : Jvm.MethodName) prog_1_method_44_code (4 : Nat) (Option.some Jvm.ClassFile.FieldType.int)) : Cond) ∈ LW := LW_mem (lw_in7 _ (List.mem_of_getElem? (i := 54) (by decide +kernel))) rfl
theorem wH_134 : ((Jvm.Cond.methodLink "QueuewardLaw" (125 : Nat) ({ cls := "Queueward", name := "price", desc := "(I)I" } : Jvm.MethodName)) : Cond) ∈ LW := LW_mem (lw_in7 _ (List.mem_of_getElem? (i := 59) (by decide +kernel))) rfl
theorem wH_135 : ((Jvm.Cond.instanceMethod ({ cls := "Queueward", name := "price", desc := "(I)I" } : Jvm.MethodName)) : Cond) ∈ LW := LW_mem (lw_in7 _ (List.mem_of_getElem? (i := 60) (by decide +kernel))) rfl
theorem wH_136 : ((Jvm.Cond.selects "Queueward" ({ cls := "Queueward", name := "price", desc := "(I)I" } : Jvm.MethodName) ({ cls := "Queueward", name := "price", desc := "(I)I" } : Jvm.MethodName)) : Cond) ∈ LW := LW_mem (lw_in7 _ (List.mem_of_getElem? (i := 61) (by decide +kernel))) rfl
theorem wH_137 : ((Jvm.Cond.code ({ cls := "Queueward", name := "price", desc := "(I)I" } : Jvm.MethodName) prog_1_method_45_code (6 : Nat) (Option.some Jvm.ClassFile.FieldType.int)) : Cond) ∈ LW := LW_mem (lw_in7 _ (List.mem_of_getElem? (i := 62) (by decide +kernel))) rfl
theorem dL_result_0 : decode cL_result 0 = .ok (.aload_n 2, 1) := by decide +kernel
theorem dL_result_1 : decode cL_result 1 = .ok (.iconst 0, 1) := by decide +kernel
theorem dL_result_2 : decode cL_result 2 = .ok (.aload_n 0, 1) := by decide +kernel
theorem dL_result_3 : decode cL_result 3 = .ok (.iload_n 1, 1) := by decide +kernel
theorem dL_result_4 : decode cL_result 4 = .ok (.invokevirtual 7, 3) := by decide +kernel
theorem dL_result_7 : decode cL_result 7 = .ok (.lastore, 1) := by decide +kernel
theorem dL_result_8 : decode cL_result 8 = .ok (.goto 6, 3) := by decide +kernel
theorem dL_result_11 : decode cL_result 11 = .ok (.astore_n 3, 1) := by decide +kernel
theorem dL_result_12 : decode cL_result 12 = .ok (.iconst 1, 1) := by decide +kernel
theorem dL_result_13 : decode cL_result 13 = .ok (.ireturn, 1) := by decide +kernel
theorem dL_result_14 : decode cL_result 14 = .ok (.iconst 0, 1) := by decide +kernel
theorem dL_result_15 : decode cL_result 15 = .ok (.ireturn, 1) := by decide +kernel
set_option maxHeartbeats 4000000 in
set_option maxRecDepth 100000 in
theorem hp_result {l : Launch} (htr : l.stackTraces = false) {sg : Nat → Nat} {cA : Nat → ClassId} {D : va_G} {sz0 : Nat} {a1 : Int} {z : Int64} {M : Mem} {Q : Rs → Mem → Prop} (hcal : cald 8 cQ_result [oQ, .inl a1] M Q) (hes : ∀ e M', Q (.inr e) M' → e ∈ [1]) : Met l yL_result (wWh yL_result cL_result 4 (some .int) [(0, 8, 11, 13)]) ({ frames := 17, cells := 1, slots := 6, locals := 750 }) (va_Pc [.ref (rho sz0 149), .int (Int32.ofInt a1), .ref (sz0 + 176)] (lPre sg cA D sz0 M z)) (va_Qi (lPost [1] cvL Q) (lW cA D sz0) (Al sz0)) 1 6 (Al sz0) := by
  refine met_ofWH (cc := cL_result) (maxL := 4) (ret := some .int) (hh := [(0, 8, 11, 13)]) (by decide) rfl ?_
  intro p e s m args below meth c s₁ B9 hml htab hv
  obtain ⟨rfl, ⟨hP, hD, hsz, hfix⟩, hO, hnc⟩ := hv
  have hx := B9.exec
  have hb := B9.bytes
  have hr := B9.returns
  have hts0 := atoms_spec (ws := wWh yL_result cL_result 4 (some .int) [(0, 8, 11, 13)]) B9.pre
  have hts : ∀ w ∈ LW, w.before _ s = true := fun w hw => hts0 w (List.mem_cons_of_mem _ hw)
  have hown : s.vm.findClass RL = some m.cls := findClass_of_methodNamed B9.named
  have hlocks := B9.notSynchronized
  have hK := hfix.1
  have hS : va_S (Al sz0) s.heap s.heap [] := va_S.rf
  have hM := snd (ρ := rho sz0) (sg := sg) (cA := cA) (D := D) (sz0 := sz0) htr 8 cQ_result _ M Q hcal nQ_result rfl
  have hrv := va_recv hfix.1 hP (gCl_at 11 (by decide)) (wWs_ob (show wOb 149 = 11 + 1 from by decide +kernel))
  have hl := lv_entry ([.ref (rho sz0 149), .int (Int32.ofInt a1), .ref (sz0 + 176)]) (n := 4) (Nat.le_of_ble_eq_true rfl)
  rw [lg_entry_eq]
  generalize (lg_sl ([.ref (rho sz0 149), .int (Int32.ofInt a1), .ref (sz0 + 176)]) ++ List.replicate (4 - (lg_sl ([.ref (rho sz0 149), .int (Int32.ofInt a1), .ref (sz0 + 176)])).length) Slot.unset).toArray = ls at hl ⊢
  have hl : lv_has ls 4 [(0, .ref (rho sz0 149)), (1, .int (Int32.ofInt a1)), (2, .ref (sz0 + 176))] := hl
  refine lv_aload_n hx hb dL_result_0 rfl (lv_at hl 2 rfl) ?_
  refine lv_iconst (v := 0) hx hb dL_result_1 (by decide) ?_
  refine lv_aload_n hx hb dL_result_2 rfl (lv_at hl 0 rfl) ?_
  refine lv_iload_n hx hb dL_result_3 rfl (lv_at hl 1 rfl) ?_
  refine vx_calll (vx_runV (As := [.int (Int32.ofInt a1)]) (rest := [.int 0, .ref (sz0 + 176)]) ⟨hx, hb, hml, hown, hts⟩ hM (cwV 1 hts (wsV_good wH_0 wH_1 wH_2 wH_3 wH_4) rfl rfl rfl (by decide +kernel) ⟨Nat.le_of_ble_eq_true rfl, Nat.le_of_ble_eq_true rfl⟩) ⟨wPic_blind, hrv, fun U hU hW => ⟨rfl, (by rw [hU]; exact hP), hD, (by rw [hU]; exact hsz), hfix.warm hW (fun q _ _ => by rw [hU])⟩⟩ rfl rfl hl.1 rfl (lv_room (Nat.le_of_ble_eq_true rfl)) dL_result_4 ⟨Nat.le_of_ble_eq_true rfl, Nat.le_of_ble_eq_true rfl⟩) hS (fun q _ h => h.1) (fun q h => h.1) (fun q _ h => h.1) (fun E ce q9 u t H1 locs1 ht hal hp hB hz1 hfr hS hce hv hcl => ?_) (fun r u t H1 locs1 ht hal hp hB hz1 hfr hS => ?_)
  · obtain ⟨e9, M1⟩ := u
    obtain ⟨hE, hB⟩ := hB
    dsimp only at hE hp hB
    subst hE
    rw [ht] at hB
    have hO1 := hO.kept hfr
    have hm := hes _ _ hp
    simp only [List.mem_cons, List.not_mem_nil, or_false] at hm
    subst hm
    refine vx_catch hown [] ⟨0, 8, 11, 13⟩ [] htab (fun z hz => absurd hz List.not_mem_nil) (by decide) (by decide) (hts _ wH_5) (va_Nw.use rfl (hfix.2.2.2.2.2.2.2.2.1 _ _ (lw_in4 _ (List.mem_of_getElem? (i := 143) (by decide +kernel))))) hce hv hcl ?_
    refine lv_astore_n (lv' := [(3, .ref q9), (0, .ref (rho sz0 149)), (1, .int (Int32.ofInt a1)), (2, .ref (sz0 + 176))]) hx hb dL_result_11 rfl hl (by decide) rfl (fun ls hl => ?_)
    refine lv_iconst (v := Int32.ofInt ((0 + 1 : Nat) : Int)) hx hb dL_result_12 (by decide) ?_
    exact W.iret (v := Int32.ofInt ((0 + 1 : Nat) : Int)) hx hb hr (fun t2 ht2 hW => ⟨⟨_, (M1, z), rfl, Or.inr ⟨0, 1, rfl, rfl, hp⟩, (by rw [ht2]; exact hB), (by rw [ht2]; exact hO1)⟩, hS.F ht2⟩) hS.2.2 dL_result_13
  · obtain ⟨x, rfl, hq⟩ := hp
    rw [ht] at hB
    have hO1 := hO.kept hfr
    refine out_last hx hb hK hO1 hB hS dL_result_7 (fun H1 locs1 hO1 hB hS => ?_)
    refine lv_goto (tgt := 14) hx hb dL_result_8 (by decide) ?_
    refine lv_iconst (v := 0) hx hb dL_result_14 (by decide) ?_
    exact W.iret (v := 0) hx hb hr (fun t2 ht2 hW => ⟨⟨_, (u, cvL x), rfl, Or.inl ⟨x, rfl, hq, rfl⟩, (by rw [ht2]; exact hB), (by rw [ht2]; exact hO1)⟩, hS.F ht2⟩) hS.2.2 dL_result_15
theorem dL_write_0 : decode cL_write 0 = .ok (.aload_n 1, 1) := by decide +kernel
theorem dL_write_1 : decode cL_write 1 = .ok (.iconst 0, 1) := by decide +kernel
theorem dL_write_2 : decode cL_write 2 = .ok (.aload_n 0, 1) := by decide +kernel
theorem dL_write_3 : decode cL_write 3 = .ok (.invokevirtual 15, 3) := by decide +kernel
theorem dL_write_6 : decode cL_write 6 = .ok (.i2l, 1) := by decide +kernel
theorem dL_write_7 : decode cL_write 7 = .ok (.lastore, 1) := by decide +kernel
theorem dL_write_8 : decode cL_write 8 = .ok (.goto 6, 3) := by decide +kernel
theorem dL_write_11 : decode cL_write 11 = .ok (.astore_n 2, 1) := by decide +kernel
theorem dL_write_12 : decode cL_write 12 = .ok (.iconst 1, 1) := by decide +kernel
theorem dL_write_13 : decode cL_write 13 = .ok (.ireturn, 1) := by decide +kernel
theorem dL_write_14 : decode cL_write 14 = .ok (.iconst 0, 1) := by decide +kernel
theorem dL_write_15 : decode cL_write 15 = .ok (.ireturn, 1) := by decide +kernel
set_option maxHeartbeats 4000000 in
set_option maxRecDepth 100000 in
theorem hp_write {l : Launch} (htr : l.stackTraces = false) {sg : Nat → Nat} {cA : Nat → ClassId} {D : va_G} {sz0 : Nat} {z : Int64} {M : Mem} {Q : Rs → Mem → Prop} (hcal : cald 8 cQ_write [oQ] M Q) (hes : ∀ e M', Q (.inr e) M' → e ∈ [3]) : Met l yL_write (wWh yL_write cL_write 3 (some .int) [(0, 8, 11, 19)]) ({ frames := 17, cells := 1, slots := 6, locals := 750 }) (va_Pc [.ref (rho sz0 149), .ref (sz0 + 176)] (lPre sg cA D sz0 M z)) (va_Qi (lPost [3] cvI Q) (lW cA D sz0) (Al sz0)) 1 6 (Al sz0) := by
  refine met_ofWH (cc := cL_write) (maxL := 3) (ret := some .int) (hh := [(0, 8, 11, 19)]) (by decide) rfl ?_
  intro p e s m args below meth c s₁ B9 hml htab hv
  obtain ⟨rfl, ⟨hP, hD, hsz, hfix⟩, hO, hnc⟩ := hv
  have hx := B9.exec
  have hb := B9.bytes
  have hr := B9.returns
  have hts0 := atoms_spec (ws := wWh yL_write cL_write 3 (some .int) [(0, 8, 11, 19)]) B9.pre
  have hts : ∀ w ∈ LW, w.before _ s = true := fun w hw => hts0 w (List.mem_cons_of_mem _ hw)
  have hown : s.vm.findClass RL = some m.cls := findClass_of_methodNamed B9.named
  have hlocks := B9.notSynchronized
  have hK := hfix.1
  have hS : va_S (Al sz0) s.heap s.heap [] := va_S.rf
  have hM := snd (ρ := rho sz0) (sg := sg) (cA := cA) (D := D) (sz0 := sz0) htr 8 cQ_write _ M Q hcal nQ_write rfl
  have hrv := va_recv hfix.1 hP (gCl_at 11 (by decide)) (wWs_ob (show wOb 149 = 11 + 1 from by decide +kernel))
  have hl := lv_entry ([.ref (rho sz0 149), .ref (sz0 + 176)]) (n := 3) (Nat.le_of_ble_eq_true rfl)
  rw [lg_entry_eq]
  generalize (lg_sl ([.ref (rho sz0 149), .ref (sz0 + 176)]) ++ List.replicate (3 - (lg_sl ([.ref (rho sz0 149), .ref (sz0 + 176)])).length) Slot.unset).toArray = ls at hl ⊢
  have hl : lv_has ls 3 [(0, .ref (rho sz0 149)), (1, .ref (sz0 + 176))] := hl
  refine lv_aload_n hx hb dL_write_0 rfl (lv_at hl 1 rfl) ?_
  refine lv_iconst (v := 0) hx hb dL_write_1 (by decide) ?_
  refine lv_aload_n hx hb dL_write_2 rfl (lv_at hl 0 rfl) ?_
  refine vx_calli (vx_runV (As := []) (rest := [.int 0, .ref (sz0 + 176)]) ⟨hx, hb, hml, hown, hts⟩ hM (cwV 0 hts (wsV_good wH_6 wH_7 wH_8 wH_3 wH_9) rfl rfl rfl (by decide +kernel) ⟨Nat.le_of_ble_eq_true rfl, Nat.le_of_ble_eq_true rfl⟩) ⟨wPic_blind, hrv, fun U hU hW => ⟨rfl, (by rw [hU]; exact hP), hD, (by rw [hU]; exact hsz), hfix.warm hW (fun q _ _ => by rw [hU])⟩⟩ rfl rfl hl.1 rfl (lv_room (Nat.le_of_ble_eq_true rfl)) dL_write_3 ⟨Nat.le_of_ble_eq_true rfl, Nat.le_of_ble_eq_true rfl⟩) hS (fun q _ h => h.1) (fun q h => h.1) (fun q _ h => h.1) (fun E ce q9 u t H1 locs1 ht hal hp hB hz1 hfr hS hce hv hcl => ?_) (fun r u t H1 locs1 ht hal hp hB hz1 hfr hS => ?_)
  · obtain ⟨e9, M1⟩ := u
    obtain ⟨hE, hB⟩ := hB
    dsimp only at hE hp hB
    subst hE
    rw [ht] at hB
    have hO1 := hO.kept hfr
    have hm := hes _ _ hp
    simp only [List.mem_cons, List.not_mem_nil, or_false] at hm
    subst hm
    refine vx_catch hown [] ⟨0, 8, 11, 19⟩ [] htab (fun z hz => absurd hz List.not_mem_nil) (by decide) (by decide) (hts _ wH_10) (va_Nw.use rfl (hfix.2.2.2.2.2.2.2.2.1 _ _ (lw_in4 _ (List.mem_of_getElem? (i := 198) (by decide +kernel))))) hce hv hcl ?_
    refine lv_astore_n (lv' := [(2, .ref q9), (0, .ref (rho sz0 149)), (1, .ref (sz0 + 176))]) hx hb dL_write_11 rfl hl (by decide) rfl (fun ls hl => ?_)
    refine lv_iconst (v := Int32.ofInt ((0 + 1 : Nat) : Int)) hx hb dL_write_12 (by decide) ?_
    exact W.iret (v := Int32.ofInt ((0 + 1 : Nat) : Int)) hx hb hr (fun t2 ht2 hW => ⟨⟨_, (M1, z), rfl, Or.inr ⟨0, 3, rfl, rfl, hp⟩, (by rw [ht2]; exact hB), (by rw [ht2]; exact hO1)⟩, hS.F ht2⟩) hS.2.2 dL_write_13
  · obtain ⟨x, rfl, hq⟩ := hp
    rw [ht] at hB
    have hO1 := hO.kept hfr
    refine lv_i2l hx hb dL_write_6 rfl ?_
    refine out_last hx hb hK hO1 hB hS dL_write_7 (fun H1 locs1 hO1 hB hS => ?_)
    refine lv_goto (tgt := 14) hx hb dL_write_8 (by decide) ?_
    refine lv_iconst (v := 0) hx hb dL_write_14 (by decide) ?_
    exact W.iret (v := 0) hx hb hr (fun t2 ht2 hW => ⟨⟨_, (u, cvI x), rfl, Or.inl ⟨x, rfl, hq, rfl⟩, (by rw [ht2]; exact hB), (by rw [ht2]; exact hO1)⟩, hS.F ht2⟩) hS.2.2 dL_write_15
theorem dL_type_0 : decode cL_type 0 = .ok (.aload_n 3, 1) := by decide +kernel
theorem dL_type_1 : decode cL_type 1 = .ok (.iconst 0, 1) := by decide +kernel
theorem dL_type_2 : decode cL_type 2 = .ok (.aload_n 0, 1) := by decide +kernel
theorem dL_type_3 : decode cL_type 3 = .ok (.lload_n 1, 1) := by decide +kernel
theorem dL_type_4 : decode cL_type 4 = .ok (.invokevirtual 21, 3) := by decide +kernel
theorem dL_type_7 : decode cL_type 7 = .ok (.i2l, 1) := by decide +kernel
theorem dL_type_8 : decode cL_type 8 = .ok (.lastore, 1) := by decide +kernel
theorem dL_type_9 : decode cL_type 9 = .ok (.goto 11, 3) := by decide +kernel
theorem dL_type_12 : decode cL_type 12 = .ok (.astore 4, 2) := by decide +kernel
theorem dL_type_14 : decode cL_type 14 = .ok (.iconst 1, 1) := by decide +kernel
theorem dL_type_15 : decode cL_type 15 = .ok (.ireturn, 1) := by decide +kernel
theorem dL_type_16 : decode cL_type 16 = .ok (.astore 4, 2) := by decide +kernel
theorem dL_type_18 : decode cL_type 18 = .ok (.iconst 2, 1) := by decide +kernel
theorem dL_type_19 : decode cL_type 19 = .ok (.ireturn, 1) := by decide +kernel
theorem dL_type_20 : decode cL_type 20 = .ok (.iconst 0, 1) := by decide +kernel
theorem dL_type_21 : decode cL_type 21 = .ok (.ireturn, 1) := by decide +kernel
set_option maxHeartbeats 4000000 in
set_option maxRecDepth 100000 in
theorem hp_type {l : Launch} (htr : l.stackTraces = false) {sg : Nat → Nat} {cA : Nat → ClassId} {D : va_G} {sz0 : Nat} {a1 : Int} {z : Int64} {M : Mem} {Q : Rs → Mem → Prop} (hcal : cald 8 cQ_type [oQ, .inr (.inl a1)] M Q) (hes : ∀ e M', Q (.inr e) M' → e ∈ [2, 3]) : Met l yL_type (wWh yL_type cL_type 5 (some .int) [(0, 9, 12, 25), (0, 9, 16, 19)]) ({ frames := 17, cells := 1, slots := 6, locals := 750 }) (va_Pc [.ref (rho sz0 149), .long (Int64.ofInt a1), .ref (sz0 + 176)] (lPre sg cA D sz0 M z)) (va_Qi (lPost [2, 3] cvI Q) (lW cA D sz0) (Al sz0)) 1 6 (Al sz0) := by
  refine met_ofWH (cc := cL_type) (maxL := 5) (ret := some .int) (hh := [(0, 9, 12, 25), (0, 9, 16, 19)]) (by decide) rfl ?_
  intro p e s m args below meth c s₁ B9 hml htab hv
  obtain ⟨rfl, ⟨hP, hD, hsz, hfix⟩, hO, hnc⟩ := hv
  have hx := B9.exec
  have hb := B9.bytes
  have hr := B9.returns
  have hts0 := atoms_spec (ws := wWh yL_type cL_type 5 (some .int) [(0, 9, 12, 25), (0, 9, 16, 19)]) B9.pre
  have hts : ∀ w ∈ LW, w.before _ s = true := fun w hw => hts0 w (List.mem_cons_of_mem _ hw)
  have hown : s.vm.findClass RL = some m.cls := findClass_of_methodNamed B9.named
  have hlocks := B9.notSynchronized
  have hK := hfix.1
  have hS : va_S (Al sz0) s.heap s.heap [] := va_S.rf
  have hM := snd (ρ := rho sz0) (sg := sg) (cA := cA) (D := D) (sz0 := sz0) htr 8 cQ_type _ M Q hcal nQ_type rfl
  have hrv := va_recv hfix.1 hP (gCl_at 11 (by decide)) (wWs_ob (show wOb 149 = 11 + 1 from by decide +kernel))
  have hl := lv_entry ([.ref (rho sz0 149), .long (Int64.ofInt a1), .ref (sz0 + 176)]) (n := 5) (Nat.le_of_ble_eq_true rfl)
  rw [lg_entry_eq]
  generalize (lg_sl ([.ref (rho sz0 149), .long (Int64.ofInt a1), .ref (sz0 + 176)]) ++ List.replicate (5 - (lg_sl ([.ref (rho sz0 149), .long (Int64.ofInt a1), .ref (sz0 + 176)])).length) Slot.unset).toArray = ls at hl ⊢
  have hl : lv_has ls 5 [(0, .ref (rho sz0 149)), (1, .long (Int64.ofInt a1)), (3, .ref (sz0 + 176))] := hl
  refine lv_aload_n hx hb dL_type_0 rfl (lv_at hl 2 rfl) ?_
  refine lv_iconst (v := 0) hx hb dL_type_1 (by decide) ?_
  refine lv_aload_n hx hb dL_type_2 rfl (lv_at hl 0 rfl) ?_
  refine lv_lload_n hx hb dL_type_3 rfl (lv_at hl 1 rfl) ?_
  refine vx_calli (vx_runV (As := [.long (Int64.ofInt a1)]) (rest := [.int 0, .ref (sz0 + 176)]) ⟨hx, hb, hml, hown, hts⟩ hM (cwV 1 hts (wsV_good wH_11 wH_12 wH_13 wH_3 wH_14) rfl rfl rfl (by decide +kernel) ⟨Nat.le_of_ble_eq_true rfl, Nat.le_of_ble_eq_true rfl⟩) ⟨wPic_blind, hrv, fun U hU hW => ⟨rfl, (by rw [hU]; exact hP), hD, (by rw [hU]; exact hsz), hfix.warm hW (fun q _ _ => by rw [hU])⟩⟩ rfl rfl hl.1 rfl (lv_room (Nat.le_of_ble_eq_true rfl)) dL_type_4 ⟨Nat.le_of_ble_eq_true rfl, Nat.le_of_ble_eq_true rfl⟩) hS (fun q _ h => h.1) (fun q h => h.1) (fun q _ h => h.1) (fun E ce q9 u t H1 locs1 ht hal hp hB hz1 hfr hS hce hv hcl => ?_) (fun r u t H1 locs1 ht hal hp hB hz1 hfr hS => ?_)
  · obtain ⟨e9, M1⟩ := u
    obtain ⟨hE, hB⟩ := hB
    dsimp only at hE hp hB
    subst hE
    rw [ht] at hB
    have hO1 := hO.kept hfr
    have hm := hes _ _ hp
    simp only [List.mem_cons, List.not_mem_nil, or_false] at hm
    rcases hm with rfl | rfl
    · refine vx_catch hown [] ⟨0, 9, 12, 25⟩ [⟨0, 9, 16, 19⟩] htab (fun z hz => absurd hz List.not_mem_nil) (by decide) (by decide) (hts _ wH_15) (va_Nw.use rfl (hfix.2.2.2.2.2.2.2.2.1 _ _ (lw_in4 _ (List.mem_of_getElem? (i := 236) (by decide +kernel))))) hce hv hcl ?_
      refine lv_astore (lv' := [(4, .ref q9), (0, .ref (rho sz0 149)), (1, .long (Int64.ofInt a1)), (3, .ref (sz0 + 176))]) hx hb dL_type_12 hl (by decide) rfl (fun ls hl => ?_)
      refine lv_iconst (v := Int32.ofInt ((0 + 1 : Nat) : Int)) hx hb dL_type_14 (by decide) ?_
      exact W.iret (v := Int32.ofInt ((0 + 1 : Nat) : Int)) hx hb hr (fun t2 ht2 hW => ⟨⟨_, (M1, z), rfl, Or.inr ⟨0, 2, rfl, rfl, hp⟩, (by rw [ht2]; exact hB), (by rw [ht2]; exact hO1)⟩, hS.F ht2⟩) hS.2.2 dL_type_15
    · refine vx_catch hown [⟨0, 9, 12, 25⟩] ⟨0, 9, 16, 19⟩ [] htab (List.forall_mem_cons.mpr ⟨Or.inr ⟨by decide, "java/lang/IllegalArgumentException", hts _ wH_15, hnc ("java/lang/IllegalStateException", "java/lang/IllegalArgumentException") (by decide +kernel)⟩, fun _ h => absurd h List.not_mem_nil⟩) (by decide) (by decide) (hts _ wH_10) (va_Nw.use rfl (hfix.2.2.2.2.2.2.2.2.1 _ _ (lw_in4 _ (List.mem_of_getElem? (i := 198) (by decide +kernel))))) hce hv hcl ?_
      refine lv_astore (lv' := [(4, .ref q9), (0, .ref (rho sz0 149)), (1, .long (Int64.ofInt a1)), (3, .ref (sz0 + 176))]) hx hb dL_type_16 hl (by decide) rfl (fun ls hl => ?_)
      refine lv_iconst (v := Int32.ofInt ((1 + 1 : Nat) : Int)) hx hb dL_type_18 (by decide) ?_
      exact W.iret (v := Int32.ofInt ((1 + 1 : Nat) : Int)) hx hb hr (fun t2 ht2 hW => ⟨⟨_, (M1, z), rfl, Or.inr ⟨1, 3, rfl, rfl, hp⟩, (by rw [ht2]; exact hB), (by rw [ht2]; exact hO1)⟩, hS.F ht2⟩) hS.2.2 dL_type_19
  · obtain ⟨x, rfl, hq⟩ := hp
    rw [ht] at hB
    have hO1 := hO.kept hfr
    refine lv_i2l hx hb dL_type_7 rfl ?_
    refine out_last hx hb hK hO1 hB hS dL_type_8 (fun H1 locs1 hO1 hB hS => ?_)
    refine lv_goto (tgt := 20) hx hb dL_type_9 (by decide) ?_
    refine lv_iconst (v := 0) hx hb dL_type_20 (by decide) ?_
    exact W.iret (v := 0) hx hb hr (fun t2 ht2 hW => ⟨⟨_, (u, cvI x), rfl, Or.inl ⟨x, rfl, hq, rfl⟩, (by rw [ht2]; exact hB), (by rw [ht2]; exact hO1)⟩, hS.F ht2⟩) hS.2.2 dL_type_21
theorem dL_signAt_0 : decode cL_signAt 0 = .ok (.aload_n 2, 1) := by decide +kernel
theorem dL_signAt_1 : decode cL_signAt 1 = .ok (.iconst 0, 1) := by decide +kernel
theorem dL_signAt_2 : decode cL_signAt 2 = .ok (.aload_n 0, 1) := by decide +kernel
theorem dL_signAt_3 : decode cL_signAt 3 = .ok (.iload_n 1, 1) := by decide +kernel
theorem dL_signAt_4 : decode cL_signAt 4 = .ok (.invokevirtual 27, 3) := by decide +kernel
theorem dL_signAt_7 : decode cL_signAt 7 = .ok (.i2l, 1) := by decide +kernel
theorem dL_signAt_8 : decode cL_signAt 8 = .ok (.lastore, 1) := by decide +kernel
theorem dL_signAt_9 : decode cL_signAt 9 = .ok (.goto 6, 3) := by decide +kernel
theorem dL_signAt_12 : decode cL_signAt 12 = .ok (.astore_n 3, 1) := by decide +kernel
theorem dL_signAt_13 : decode cL_signAt 13 = .ok (.iconst 1, 1) := by decide +kernel
theorem dL_signAt_14 : decode cL_signAt 14 = .ok (.ireturn, 1) := by decide +kernel
theorem dL_signAt_15 : decode cL_signAt 15 = .ok (.iconst 0, 1) := by decide +kernel
theorem dL_signAt_16 : decode cL_signAt 16 = .ok (.ireturn, 1) := by decide +kernel
set_option maxHeartbeats 4000000 in
set_option maxRecDepth 100000 in
theorem hp_signAt {l : Launch} (htr : l.stackTraces = false) {sg : Nat → Nat} {cA : Nat → ClassId} {D : va_G} {sz0 : Nat} {a1 : Int} {z : Int64} {M : Mem} {Q : Rs → Mem → Prop} (hcal : cald 8 cQ_signAt [oQ, .inl a1] M Q) (hes : ∀ e M', Q (.inr e) M' → e ∈ [4]) : Met l yL_signAt (wWh yL_signAt cL_signAt 4 (some .int) [(0, 9, 12, 31)]) ({ frames := 17, cells := 1, slots := 6, locals := 750 }) (va_Pc [.ref (rho sz0 149), .int (Int32.ofInt a1), .ref (sz0 + 176)] (lPre sg cA D sz0 M z)) (va_Qi (lPost [4] cvI Q) (lW cA D sz0) (Al sz0)) 1 6 (Al sz0) := by
  refine met_ofWH (cc := cL_signAt) (maxL := 4) (ret := some .int) (hh := [(0, 9, 12, 31)]) (by decide) rfl ?_
  intro p e s m args below meth c s₁ B9 hml htab hv
  obtain ⟨rfl, ⟨hP, hD, hsz, hfix⟩, hO, hnc⟩ := hv
  have hx := B9.exec
  have hb := B9.bytes
  have hr := B9.returns
  have hts0 := atoms_spec (ws := wWh yL_signAt cL_signAt 4 (some .int) [(0, 9, 12, 31)]) B9.pre
  have hts : ∀ w ∈ LW, w.before _ s = true := fun w hw => hts0 w (List.mem_cons_of_mem _ hw)
  have hown : s.vm.findClass RL = some m.cls := findClass_of_methodNamed B9.named
  have hlocks := B9.notSynchronized
  have hK := hfix.1
  have hS : va_S (Al sz0) s.heap s.heap [] := va_S.rf
  have hM := snd (ρ := rho sz0) (sg := sg) (cA := cA) (D := D) (sz0 := sz0) htr 8 cQ_signAt _ M Q hcal nQ_signAt rfl
  have hrv := va_recv hfix.1 hP (gCl_at 11 (by decide)) (wWs_ob (show wOb 149 = 11 + 1 from by decide +kernel))
  have hl := lv_entry ([.ref (rho sz0 149), .int (Int32.ofInt a1), .ref (sz0 + 176)]) (n := 4) (Nat.le_of_ble_eq_true rfl)
  rw [lg_entry_eq]
  generalize (lg_sl ([.ref (rho sz0 149), .int (Int32.ofInt a1), .ref (sz0 + 176)]) ++ List.replicate (4 - (lg_sl ([.ref (rho sz0 149), .int (Int32.ofInt a1), .ref (sz0 + 176)])).length) Slot.unset).toArray = ls at hl ⊢
  have hl : lv_has ls 4 [(0, .ref (rho sz0 149)), (1, .int (Int32.ofInt a1)), (2, .ref (sz0 + 176))] := hl
  refine lv_aload_n hx hb dL_signAt_0 rfl (lv_at hl 2 rfl) ?_
  refine lv_iconst (v := 0) hx hb dL_signAt_1 (by decide) ?_
  refine lv_aload_n hx hb dL_signAt_2 rfl (lv_at hl 0 rfl) ?_
  refine lv_iload_n hx hb dL_signAt_3 rfl (lv_at hl 1 rfl) ?_
  refine vx_calli (vx_runV (As := [.int (Int32.ofInt a1)]) (rest := [.int 0, .ref (sz0 + 176)]) ⟨hx, hb, hml, hown, hts⟩ hM (cwV 1 hts (wsV_good wH_16 wH_17 wH_18 wH_3 wH_19) rfl rfl rfl (by decide +kernel) ⟨Nat.le_of_ble_eq_true rfl, Nat.le_of_ble_eq_true rfl⟩) ⟨wPic_blind, hrv, fun U hU hW => ⟨rfl, (by rw [hU]; exact hP), hD, (by rw [hU]; exact hsz), hfix.warm hW (fun q _ _ => by rw [hU])⟩⟩ rfl rfl hl.1 rfl (lv_room (Nat.le_of_ble_eq_true rfl)) dL_signAt_4 ⟨Nat.le_of_ble_eq_true rfl, Nat.le_of_ble_eq_true rfl⟩) hS (fun q _ h => h.1) (fun q h => h.1) (fun q _ h => h.1) (fun E ce q9 u t H1 locs1 ht hal hp hB hz1 hfr hS hce hv hcl => ?_) (fun r u t H1 locs1 ht hal hp hB hz1 hfr hS => ?_)
  · obtain ⟨e9, M1⟩ := u
    obtain ⟨hE, hB⟩ := hB
    dsimp only at hE hp hB
    subst hE
    rw [ht] at hB
    have hO1 := hO.kept hfr
    have hm := hes _ _ hp
    simp only [List.mem_cons, List.not_mem_nil, or_false] at hm
    subst hm
    refine vx_catch hown [] ⟨0, 9, 12, 31⟩ [] htab (fun z hz => absurd hz List.not_mem_nil) (by decide) (by decide) (hts _ wH_20) (va_Nw.use rfl (hfix.2.2.2.2.2.2.2.2.1 _ _ (lw_in5 _ (List.mem_of_getElem? (i := 38) (by decide +kernel))))) hce hv hcl ?_
    refine lv_astore_n (lv' := [(3, .ref q9), (0, .ref (rho sz0 149)), (1, .int (Int32.ofInt a1)), (2, .ref (sz0 + 176))]) hx hb dL_signAt_12 rfl hl (by decide) rfl (fun ls hl => ?_)
    refine lv_iconst (v := Int32.ofInt ((0 + 1 : Nat) : Int)) hx hb dL_signAt_13 (by decide) ?_
    exact W.iret (v := Int32.ofInt ((0 + 1 : Nat) : Int)) hx hb hr (fun t2 ht2 hW => ⟨⟨_, (M1, z), rfl, Or.inr ⟨0, 4, rfl, rfl, hp⟩, (by rw [ht2]; exact hB), (by rw [ht2]; exact hO1)⟩, hS.F ht2⟩) hS.2.2 dL_signAt_14
  · obtain ⟨x, rfl, hq⟩ := hp
    rw [ht] at hB
    have hO1 := hO.kept hfr
    refine lv_i2l hx hb dL_signAt_7 rfl ?_
    refine out_last hx hb hK hO1 hB hS dL_signAt_8 (fun H1 locs1 hO1 hB hS => ?_)
    refine lv_goto (tgt := 15) hx hb dL_signAt_9 (by decide) ?_
    refine lv_iconst (v := 0) hx hb dL_signAt_15 (by decide) ?_
    exact W.iret (v := 0) hx hb hr (fun t2 ht2 hW => ⟨⟨_, (u, cvI x), rfl, Or.inl ⟨x, rfl, hq, rfl⟩, (by rw [ht2]; exact hB), (by rw [ht2]; exact hO1)⟩, hS.F ht2⟩) hS.2.2 dL_signAt_16
theorem dL_read_0 : decode cL_read 0 = .ok (.aload_n 1, 1) := by decide +kernel
theorem dL_read_1 : decode cL_read 1 = .ok (.iconst 0, 1) := by decide +kernel
theorem dL_read_2 : decode cL_read 2 = .ok (.aload_n 0, 1) := by decide +kernel
theorem dL_read_3 : decode cL_read 3 = .ok (.invokevirtual 33, 3) := by decide +kernel
theorem dL_read_6 : decode cL_read 6 = .ok (.i2l, 1) := by decide +kernel
theorem dL_read_7 : decode cL_read 7 = .ok (.lastore, 1) := by decide +kernel
theorem dL_read_8 : decode cL_read 8 = .ok (.goto 9, 3) := by decide +kernel
theorem dL_read_11 : decode cL_read 11 = .ok (.astore_n 2, 1) := by decide +kernel
theorem dL_read_12 : decode cL_read 12 = .ok (.iconst 1, 1) := by decide +kernel
theorem dL_read_13 : decode cL_read 13 = .ok (.ireturn, 1) := by decide +kernel
theorem dL_read_14 : decode cL_read 14 = .ok (.astore_n 2, 1) := by decide +kernel
theorem dL_read_15 : decode cL_read 15 = .ok (.iconst 2, 1) := by decide +kernel
theorem dL_read_16 : decode cL_read 16 = .ok (.ireturn, 1) := by decide +kernel
theorem dL_read_17 : decode cL_read 17 = .ok (.iconst 0, 1) := by decide +kernel
theorem dL_read_18 : decode cL_read 18 = .ok (.ireturn, 1) := by decide +kernel
set_option maxHeartbeats 4000000 in
set_option maxRecDepth 100000 in
theorem hp_read {l : Launch} (htr : l.stackTraces = false) {sg : Nat → Nat} {cA : Nat → ClassId} {D : va_G} {sz0 : Nat} {z : Int64} {M : Mem} {Q : Rs → Mem → Prop} (hcal : cald 8 cQ_read [oQ] M Q) (hes : ∀ e M', Q (.inr e) M' → e ∈ [2, 3]) : Met l yL_read (wWh yL_read cL_read 3 (some .int) [(0, 8, 11, 25), (0, 8, 14, 19)]) ({ frames := 17, cells := 1, slots := 6, locals := 750 }) (va_Pc [.ref (rho sz0 149), .ref (sz0 + 176)] (lPre sg cA D sz0 M z)) (va_Qi (lPost [2, 3] cvI Q) (lW cA D sz0) (Al sz0)) 1 6 (Al sz0) := by
  refine met_ofWH (cc := cL_read) (maxL := 3) (ret := some .int) (hh := [(0, 8, 11, 25), (0, 8, 14, 19)]) (by decide) rfl ?_
  intro p e s m args below meth c s₁ B9 hml htab hv
  obtain ⟨rfl, ⟨hP, hD, hsz, hfix⟩, hO, hnc⟩ := hv
  have hx := B9.exec
  have hb := B9.bytes
  have hr := B9.returns
  have hts0 := atoms_spec (ws := wWh yL_read cL_read 3 (some .int) [(0, 8, 11, 25), (0, 8, 14, 19)]) B9.pre
  have hts : ∀ w ∈ LW, w.before _ s = true := fun w hw => hts0 w (List.mem_cons_of_mem _ hw)
  have hown : s.vm.findClass RL = some m.cls := findClass_of_methodNamed B9.named
  have hlocks := B9.notSynchronized
  have hK := hfix.1
  have hS : va_S (Al sz0) s.heap s.heap [] := va_S.rf
  have hM := snd (ρ := rho sz0) (sg := sg) (cA := cA) (D := D) (sz0 := sz0) htr 8 cQ_read _ M Q hcal nQ_read rfl
  have hrv := va_recv hfix.1 hP (gCl_at 11 (by decide)) (wWs_ob (show wOb 149 = 11 + 1 from by decide +kernel))
  have hl := lv_entry ([.ref (rho sz0 149), .ref (sz0 + 176)]) (n := 3) (Nat.le_of_ble_eq_true rfl)
  rw [lg_entry_eq]
  generalize (lg_sl ([.ref (rho sz0 149), .ref (sz0 + 176)]) ++ List.replicate (3 - (lg_sl ([.ref (rho sz0 149), .ref (sz0 + 176)])).length) Slot.unset).toArray = ls at hl ⊢
  have hl : lv_has ls 3 [(0, .ref (rho sz0 149)), (1, .ref (sz0 + 176))] := hl
  refine lv_aload_n hx hb dL_read_0 rfl (lv_at hl 1 rfl) ?_
  refine lv_iconst (v := 0) hx hb dL_read_1 (by decide) ?_
  refine lv_aload_n hx hb dL_read_2 rfl (lv_at hl 0 rfl) ?_
  refine vx_calli (vx_runV (As := []) (rest := [.int 0, .ref (sz0 + 176)]) ⟨hx, hb, hml, hown, hts⟩ hM (cwV 0 hts (wsV_good wH_21 wH_22 wH_23 wH_3 wH_24) rfl rfl rfl (by decide +kernel) ⟨Nat.le_of_ble_eq_true rfl, Nat.le_of_ble_eq_true rfl⟩) ⟨wPic_blind, hrv, fun U hU hW => ⟨rfl, (by rw [hU]; exact hP), hD, (by rw [hU]; exact hsz), hfix.warm hW (fun q _ _ => by rw [hU])⟩⟩ rfl rfl hl.1 rfl (lv_room (Nat.le_of_ble_eq_true rfl)) dL_read_3 ⟨Nat.le_of_ble_eq_true rfl, Nat.le_of_ble_eq_true rfl⟩) hS (fun q _ h => h.1) (fun q h => h.1) (fun q _ h => h.1) (fun E ce q9 u t H1 locs1 ht hal hp hB hz1 hfr hS hce hv hcl => ?_) (fun r u t H1 locs1 ht hal hp hB hz1 hfr hS => ?_)
  · obtain ⟨e9, M1⟩ := u
    obtain ⟨hE, hB⟩ := hB
    dsimp only at hE hp hB
    subst hE
    rw [ht] at hB
    have hO1 := hO.kept hfr
    have hm := hes _ _ hp
    simp only [List.mem_cons, List.not_mem_nil, or_false] at hm
    rcases hm with rfl | rfl
    · refine vx_catch hown [] ⟨0, 8, 11, 25⟩ [⟨0, 8, 14, 19⟩] htab (fun z hz => absurd hz List.not_mem_nil) (by decide) (by decide) (hts _ wH_15) (va_Nw.use rfl (hfix.2.2.2.2.2.2.2.2.1 _ _ (lw_in4 _ (List.mem_of_getElem? (i := 236) (by decide +kernel))))) hce hv hcl ?_
      refine lv_astore_n (lv' := [(2, .ref q9), (0, .ref (rho sz0 149)), (1, .ref (sz0 + 176))]) hx hb dL_read_11 rfl hl (by decide) rfl (fun ls hl => ?_)
      refine lv_iconst (v := Int32.ofInt ((0 + 1 : Nat) : Int)) hx hb dL_read_12 (by decide) ?_
      exact W.iret (v := Int32.ofInt ((0 + 1 : Nat) : Int)) hx hb hr (fun t2 ht2 hW => ⟨⟨_, (M1, z), rfl, Or.inr ⟨0, 2, rfl, rfl, hp⟩, (by rw [ht2]; exact hB), (by rw [ht2]; exact hO1)⟩, hS.F ht2⟩) hS.2.2 dL_read_13
    · refine vx_catch hown [⟨0, 8, 11, 25⟩] ⟨0, 8, 14, 19⟩ [] htab (List.forall_mem_cons.mpr ⟨Or.inr ⟨by decide, "java/lang/IllegalArgumentException", hts _ wH_15, hnc ("java/lang/IllegalStateException", "java/lang/IllegalArgumentException") (by decide +kernel)⟩, fun _ h => absurd h List.not_mem_nil⟩) (by decide) (by decide) (hts _ wH_10) (va_Nw.use rfl (hfix.2.2.2.2.2.2.2.2.1 _ _ (lw_in4 _ (List.mem_of_getElem? (i := 198) (by decide +kernel))))) hce hv hcl ?_
      refine lv_astore_n (lv' := [(2, .ref q9), (0, .ref (rho sz0 149)), (1, .ref (sz0 + 176))]) hx hb dL_read_14 rfl hl (by decide) rfl (fun ls hl => ?_)
      refine lv_iconst (v := Int32.ofInt ((1 + 1 : Nat) : Int)) hx hb dL_read_15 (by decide) ?_
      exact W.iret (v := Int32.ofInt ((1 + 1 : Nat) : Int)) hx hb hr (fun t2 ht2 hW => ⟨⟨_, (M1, z), rfl, Or.inr ⟨1, 3, rfl, rfl, hp⟩, (by rw [ht2]; exact hB), (by rw [ht2]; exact hO1)⟩, hS.F ht2⟩) hS.2.2 dL_read_16
  · obtain ⟨x, rfl, hq⟩ := hp
    rw [ht] at hB
    have hO1 := hO.kept hfr
    refine lv_i2l hx hb dL_read_6 rfl ?_
    refine out_last hx hb hK hO1 hB hS dL_read_7 (fun H1 locs1 hO1 hB hS => ?_)
    refine lv_goto (tgt := 17) hx hb dL_read_8 (by decide) ?_
    refine lv_iconst (v := 0) hx hb dL_read_17 (by decide) ?_
    exact W.iret (v := 0) hx hb hr (fun t2 ht2 hW => ⟨⟨_, (u, cvI x), rfl, Or.inl ⟨x, rfl, hq, rfl⟩, (by rw [ht2]; exact hB), (by rw [ht2]; exact hO1)⟩, hS.F ht2⟩) hS.2.2 dL_read_18
theorem dL_come_0 : decode cL_come 0 = .ok (.aload 5, 2) := by decide +kernel
theorem dL_come_2 : decode cL_come 2 = .ok (.iconst 0, 1) := by decide +kernel
theorem dL_come_3 : decode cL_come 3 = .ok (.aload_n 0, 1) := by decide +kernel
theorem dL_come_4 : decode cL_come 4 = .ok (.iload_n 1, 1) := by decide +kernel
theorem dL_come_5 : decode cL_come 5 = .ok (.iload_n 2, 1) := by decide +kernel
theorem dL_come_6 : decode cL_come 6 = .ok (.iload_n 3, 1) := by decide +kernel
theorem dL_come_7 : decode cL_come 7 = .ok (.iload 4, 2) := by decide +kernel
theorem dL_come_9 : decode cL_come 9 = .ok (.invokevirtual 36, 3) := by decide +kernel
theorem dL_come_12 : decode cL_come 12 = .ok (.i2l, 1) := by decide +kernel
theorem dL_come_13 : decode cL_come 13 = .ok (.lastore, 1) := by decide +kernel
theorem dL_come_14 : decode cL_come 14 = .ok (.goto 11, 3) := by decide +kernel
theorem dL_come_17 : decode cL_come 17 = .ok (.astore 6, 2) := by decide +kernel
theorem dL_come_19 : decode cL_come 19 = .ok (.iconst 1, 1) := by decide +kernel
theorem dL_come_20 : decode cL_come 20 = .ok (.ireturn, 1) := by decide +kernel
theorem dL_come_21 : decode cL_come 21 = .ok (.astore 6, 2) := by decide +kernel
theorem dL_come_23 : decode cL_come 23 = .ok (.iconst 2, 1) := by decide +kernel
theorem dL_come_24 : decode cL_come 24 = .ok (.ireturn, 1) := by decide +kernel
theorem dL_come_25 : decode cL_come 25 = .ok (.iconst 0, 1) := by decide +kernel
theorem dL_come_26 : decode cL_come 26 = .ok (.ireturn, 1) := by decide +kernel
set_option maxHeartbeats 4000000 in
set_option maxRecDepth 100000 in
theorem hp_come {l : Launch} (htr : l.stackTraces = false) {sg : Nat → Nat} {cA : Nat → ClassId} {D : va_G} {sz0 : Nat} {a1 a2 a3 a4 : Int} {z : Int64} {M : Mem} {Q : Rs → Mem → Prop} (hcal : cald 8 cQ_come [oQ, .inl a1, .inl a2, .inl a3, .inl a4] M Q) (hes : ∀ e M', Q (.inr e) M' → e ∈ [2, 3]) : Met l yL_come (wWh yL_come cL_come 7 (some .int) [(0, 14, 17, 25), (0, 14, 21, 19)]) ({ frames := 17, cells := 1, slots := 6, locals := 750 }) (va_Pc [.ref (rho sz0 149), .int (Int32.ofInt a1), .int (Int32.ofInt a2), .int (Int32.ofInt a3), .int (Int32.ofInt a4), .ref (sz0 + 176)] (lPre sg cA D sz0 M z)) (va_Qi (lPost [2, 3] cvI Q) (lW cA D sz0) (Al sz0)) 1 6 (Al sz0) := by
  refine met_ofWH (cc := cL_come) (maxL := 7) (ret := some .int) (hh := [(0, 14, 17, 25), (0, 14, 21, 19)]) (by decide) rfl ?_
  intro p e s m args below meth c s₁ B9 hml htab hv
  obtain ⟨rfl, ⟨hP, hD, hsz, hfix⟩, hO, hnc⟩ := hv
  have hx := B9.exec
  have hb := B9.bytes
  have hr := B9.returns
  have hts0 := atoms_spec (ws := wWh yL_come cL_come 7 (some .int) [(0, 14, 17, 25), (0, 14, 21, 19)]) B9.pre
  have hts : ∀ w ∈ LW, w.before _ s = true := fun w hw => hts0 w (List.mem_cons_of_mem _ hw)
  have hown : s.vm.findClass RL = some m.cls := findClass_of_methodNamed B9.named
  have hlocks := B9.notSynchronized
  have hK := hfix.1
  have hS : va_S (Al sz0) s.heap s.heap [] := va_S.rf
  have hM := snd (ρ := rho sz0) (sg := sg) (cA := cA) (D := D) (sz0 := sz0) htr 8 cQ_come _ M Q hcal nQ_come rfl
  have hrv := va_recv hfix.1 hP (gCl_at 11 (by decide)) (wWs_ob (show wOb 149 = 11 + 1 from by decide +kernel))
  have hl := lv_entry ([.ref (rho sz0 149), .int (Int32.ofInt a1), .int (Int32.ofInt a2), .int (Int32.ofInt a3), .int (Int32.ofInt a4), .ref (sz0 + 176)]) (n := 7) (Nat.le_of_ble_eq_true rfl)
  rw [lg_entry_eq]
  generalize (lg_sl ([.ref (rho sz0 149), .int (Int32.ofInt a1), .int (Int32.ofInt a2), .int (Int32.ofInt a3), .int (Int32.ofInt a4), .ref (sz0 + 176)]) ++ List.replicate (7 - (lg_sl ([.ref (rho sz0 149), .int (Int32.ofInt a1), .int (Int32.ofInt a2), .int (Int32.ofInt a3), .int (Int32.ofInt a4), .ref (sz0 + 176)])).length) Slot.unset).toArray = ls at hl ⊢
  have hl : lv_has ls 7 [(0, .ref (rho sz0 149)), (1, .int (Int32.ofInt a1)), (2, .int (Int32.ofInt a2)), (3, .int (Int32.ofInt a3)), (4, .int (Int32.ofInt a4)), (5, .ref (sz0 + 176))] := hl
  refine lv_aload hx hb dL_come_0 (lv_at hl 5 rfl) ?_
  refine lv_iconst (v := 0) hx hb dL_come_2 (by decide) ?_
  refine lv_aload_n hx hb dL_come_3 rfl (lv_at hl 0 rfl) ?_
  refine lv_iload_n hx hb dL_come_4 rfl (lv_at hl 1 rfl) ?_
  refine lv_iload_n hx hb dL_come_5 rfl (lv_at hl 2 rfl) ?_
  refine lv_iload_n hx hb dL_come_6 rfl (lv_at hl 3 rfl) ?_
  refine lv_iload hx hb dL_come_7 (lv_at hl 4 rfl) ?_
  refine vx_calli (vx_runV (As := [.int (Int32.ofInt a1), .int (Int32.ofInt a2), .int (Int32.ofInt a3), .int (Int32.ofInt a4)]) (rest := [.int 0, .ref (sz0 + 176)]) ⟨hx, hb, hml, hown, hts⟩ hM (cwV 4 hts (wsV_good wH_25 wH_26 wH_27 wH_3 wH_28) rfl rfl rfl (by decide +kernel) ⟨Nat.le_of_ble_eq_true rfl, Nat.le_of_ble_eq_true rfl⟩) ⟨wPic_blind, hrv, fun U hU hW => ⟨rfl, (by rw [hU]; exact hP), hD, (by rw [hU]; exact hsz), hfix.warm hW (fun q _ _ => by rw [hU])⟩⟩ rfl rfl hl.1 rfl (lv_room (Nat.le_of_ble_eq_true rfl)) dL_come_9 ⟨Nat.le_of_ble_eq_true rfl, Nat.le_of_ble_eq_true rfl⟩) hS (fun q _ h => h.1) (fun q h => h.1) (fun q _ h => h.1) (fun E ce q9 u t H1 locs1 ht hal hp hB hz1 hfr hS hce hv hcl => ?_) (fun r u t H1 locs1 ht hal hp hB hz1 hfr hS => ?_)
  · obtain ⟨e9, M1⟩ := u
    obtain ⟨hE, hB⟩ := hB
    dsimp only at hE hp hB
    subst hE
    rw [ht] at hB
    have hO1 := hO.kept hfr
    have hm := hes _ _ hp
    simp only [List.mem_cons, List.not_mem_nil, or_false] at hm
    rcases hm with rfl | rfl
    · refine vx_catch hown [] ⟨0, 14, 17, 25⟩ [⟨0, 14, 21, 19⟩] htab (fun z hz => absurd hz List.not_mem_nil) (by decide) (by decide) (hts _ wH_15) (va_Nw.use rfl (hfix.2.2.2.2.2.2.2.2.1 _ _ (lw_in4 _ (List.mem_of_getElem? (i := 236) (by decide +kernel))))) hce hv hcl ?_
      refine lv_astore (lv' := [(6, .ref q9), (0, .ref (rho sz0 149)), (1, .int (Int32.ofInt a1)), (2, .int (Int32.ofInt a2)), (3, .int (Int32.ofInt a3)), (4, .int (Int32.ofInt a4)), (5, .ref (sz0 + 176))]) hx hb dL_come_17 hl (by decide) rfl (fun ls hl => ?_)
      refine lv_iconst (v := Int32.ofInt ((0 + 1 : Nat) : Int)) hx hb dL_come_19 (by decide) ?_
      exact W.iret (v := Int32.ofInt ((0 + 1 : Nat) : Int)) hx hb hr (fun t2 ht2 hW => ⟨⟨_, (M1, z), rfl, Or.inr ⟨0, 2, rfl, rfl, hp⟩, (by rw [ht2]; exact hB), (by rw [ht2]; exact hO1)⟩, hS.F ht2⟩) hS.2.2 dL_come_20
    · refine vx_catch hown [⟨0, 14, 17, 25⟩] ⟨0, 14, 21, 19⟩ [] htab (List.forall_mem_cons.mpr ⟨Or.inr ⟨by decide, "java/lang/IllegalArgumentException", hts _ wH_15, hnc ("java/lang/IllegalStateException", "java/lang/IllegalArgumentException") (by decide +kernel)⟩, fun _ h => absurd h List.not_mem_nil⟩) (by decide) (by decide) (hts _ wH_10) (va_Nw.use rfl (hfix.2.2.2.2.2.2.2.2.1 _ _ (lw_in4 _ (List.mem_of_getElem? (i := 198) (by decide +kernel))))) hce hv hcl ?_
      refine lv_astore (lv' := [(6, .ref q9), (0, .ref (rho sz0 149)), (1, .int (Int32.ofInt a1)), (2, .int (Int32.ofInt a2)), (3, .int (Int32.ofInt a3)), (4, .int (Int32.ofInt a4)), (5, .ref (sz0 + 176))]) hx hb dL_come_21 hl (by decide) rfl (fun ls hl => ?_)
      refine lv_iconst (v := Int32.ofInt ((1 + 1 : Nat) : Int)) hx hb dL_come_23 (by decide) ?_
      exact W.iret (v := Int32.ofInt ((1 + 1 : Nat) : Int)) hx hb hr (fun t2 ht2 hW => ⟨⟨_, (M1, z), rfl, Or.inr ⟨1, 3, rfl, rfl, hp⟩, (by rw [ht2]; exact hB), (by rw [ht2]; exact hO1)⟩, hS.F ht2⟩) hS.2.2 dL_come_24
  · obtain ⟨x, rfl, hq⟩ := hp
    rw [ht] at hB
    have hO1 := hO.kept hfr
    refine lv_i2l hx hb dL_come_12 rfl ?_
    refine out_last hx hb hK hO1 hB hS dL_come_13 (fun H1 locs1 hO1 hB hS => ?_)
    refine lv_goto (tgt := 25) hx hb dL_come_14 (by decide) ?_
    refine lv_iconst (v := 0) hx hb dL_come_25 (by decide) ?_
    exact W.iret (v := 0) hx hb hr (fun t2 ht2 hW => ⟨⟨_, (u, cvI x), rfl, Or.inl ⟨x, rfl, hq, rfl⟩, (by rw [ht2]; exact hB), (by rw [ht2]; exact hO1)⟩, hS.F ht2⟩) hS.2.2 dL_come_26
theorem dL_undo_0 : decode cL_undo 0 = .ok (.aload_n 1, 1) := by decide +kernel
theorem dL_undo_1 : decode cL_undo 1 = .ok (.iconst 0, 1) := by decide +kernel
theorem dL_undo_2 : decode cL_undo 2 = .ok (.aload_n 0, 1) := by decide +kernel
theorem dL_undo_3 : decode cL_undo 3 = .ok (.invokevirtual 40, 3) := by decide +kernel
theorem dL_undo_6 : decode cL_undo 6 = .ok (.i2l, 1) := by decide +kernel
theorem dL_undo_7 : decode cL_undo 7 = .ok (.lastore, 1) := by decide +kernel
theorem dL_undo_8 : decode cL_undo 8 = .ok (.goto 6, 3) := by decide +kernel
theorem dL_undo_11 : decode cL_undo 11 = .ok (.astore_n 2, 1) := by decide +kernel
theorem dL_undo_12 : decode cL_undo 12 = .ok (.iconst 1, 1) := by decide +kernel
theorem dL_undo_13 : decode cL_undo 13 = .ok (.ireturn, 1) := by decide +kernel
theorem dL_undo_14 : decode cL_undo 14 = .ok (.iconst 0, 1) := by decide +kernel
theorem dL_undo_15 : decode cL_undo 15 = .ok (.ireturn, 1) := by decide +kernel
set_option maxHeartbeats 4000000 in
set_option maxRecDepth 100000 in
theorem hp_undo {l : Launch} (htr : l.stackTraces = false) {sg : Nat → Nat} {cA : Nat → ClassId} {D : va_G} {sz0 : Nat} {z : Int64} {M : Mem} {Q : Rs → Mem → Prop} (hcal : cald 8 cQ_undo [oQ] M Q) (hes : ∀ e M', Q (.inr e) M' → e ∈ [5]) : Met l yL_undo (wWh yL_undo cL_undo 3 (some .int) [(0, 8, 11, 43)]) ({ frames := 17, cells := 1, slots := 6, locals := 750 }) (va_Pc [.ref (rho sz0 149), .ref (sz0 + 176)] (lPre sg cA D sz0 M z)) (va_Qi (lPost [5] cvI Q) (lW cA D sz0) (Al sz0)) 1 6 (Al sz0) := by
  refine met_ofWH (cc := cL_undo) (maxL := 3) (ret := some .int) (hh := [(0, 8, 11, 43)]) (by decide) rfl ?_
  intro p e s m args below meth c s₁ B9 hml htab hv
  obtain ⟨rfl, ⟨hP, hD, hsz, hfix⟩, hO, hnc⟩ := hv
  have hx := B9.exec
  have hb := B9.bytes
  have hr := B9.returns
  have hts0 := atoms_spec (ws := wWh yL_undo cL_undo 3 (some .int) [(0, 8, 11, 43)]) B9.pre
  have hts : ∀ w ∈ LW, w.before _ s = true := fun w hw => hts0 w (List.mem_cons_of_mem _ hw)
  have hown : s.vm.findClass RL = some m.cls := findClass_of_methodNamed B9.named
  have hlocks := B9.notSynchronized
  have hK := hfix.1
  have hS : va_S (Al sz0) s.heap s.heap [] := va_S.rf
  have hM := snd (ρ := rho sz0) (sg := sg) (cA := cA) (D := D) (sz0 := sz0) htr 8 cQ_undo _ M Q hcal nQ_undo rfl
  have hrv := va_recv hfix.1 hP (gCl_at 11 (by decide)) (wWs_ob (show wOb 149 = 11 + 1 from by decide +kernel))
  have hl := lv_entry ([.ref (rho sz0 149), .ref (sz0 + 176)]) (n := 3) (Nat.le_of_ble_eq_true rfl)
  rw [lg_entry_eq]
  generalize (lg_sl ([.ref (rho sz0 149), .ref (sz0 + 176)]) ++ List.replicate (3 - (lg_sl ([.ref (rho sz0 149), .ref (sz0 + 176)])).length) Slot.unset).toArray = ls at hl ⊢
  have hl : lv_has ls 3 [(0, .ref (rho sz0 149)), (1, .ref (sz0 + 176))] := hl
  refine lv_aload_n hx hb dL_undo_0 rfl (lv_at hl 1 rfl) ?_
  refine lv_iconst (v := 0) hx hb dL_undo_1 (by decide) ?_
  refine lv_aload_n hx hb dL_undo_2 rfl (lv_at hl 0 rfl) ?_
  refine vx_calli (vx_runV (As := []) (rest := [.int 0, .ref (sz0 + 176)]) ⟨hx, hb, hml, hown, hts⟩ hM (cwV 0 hts (wsV_good wH_29 wH_30 wH_31 wH_3 wH_32) rfl rfl rfl (by decide +kernel) ⟨Nat.le_of_ble_eq_true rfl, Nat.le_of_ble_eq_true rfl⟩) ⟨wPic_blind, hrv, fun U hU hW => ⟨rfl, (by rw [hU]; exact hP), hD, (by rw [hU]; exact hsz), hfix.warm hW (fun q _ _ => by rw [hU])⟩⟩ rfl rfl hl.1 rfl (lv_room (Nat.le_of_ble_eq_true rfl)) dL_undo_3 ⟨Nat.le_of_ble_eq_true rfl, Nat.le_of_ble_eq_true rfl⟩) hS (fun q _ h => h.1) (fun q h => h.1) (fun q _ h => h.1) (fun E ce q9 u t H1 locs1 ht hal hp hB hz1 hfr hS hce hv hcl => ?_) (fun r u t H1 locs1 ht hal hp hB hz1 hfr hS => ?_)
  · obtain ⟨e9, M1⟩ := u
    obtain ⟨hE, hB⟩ := hB
    dsimp only at hE hp hB
    subst hE
    rw [ht] at hB
    have hO1 := hO.kept hfr
    have hm := hes _ _ hp
    simp only [List.mem_cons, List.not_mem_nil, or_false] at hm
    subst hm
    refine vx_catch hown [] ⟨0, 8, 11, 43⟩ [] htab (fun z hz => absurd hz List.not_mem_nil) (by decide) (by decide) (hts _ wH_33) (va_Nw.use rfl (hfix.2.2.2.2.2.2.2.2.1 _ _ (lw_in5 _ (List.mem_of_getElem? (i := 100) (by decide +kernel))))) hce hv hcl ?_
    refine lv_astore_n (lv' := [(2, .ref q9), (0, .ref (rho sz0 149)), (1, .ref (sz0 + 176))]) hx hb dL_undo_11 rfl hl (by decide) rfl (fun ls hl => ?_)
    refine lv_iconst (v := Int32.ofInt ((0 + 1 : Nat) : Int)) hx hb dL_undo_12 (by decide) ?_
    exact W.iret (v := Int32.ofInt ((0 + 1 : Nat) : Int)) hx hb hr (fun t2 ht2 hW => ⟨⟨_, (M1, z), rfl, Or.inr ⟨0, 5, rfl, rfl, hp⟩, (by rw [ht2]; exact hB), (by rw [ht2]; exact hO1)⟩, hS.F ht2⟩) hS.2.2 dL_undo_13
  · obtain ⟨x, rfl, hq⟩ := hp
    rw [ht] at hB
    have hO1 := hO.kept hfr
    refine lv_i2l hx hb dL_undo_6 rfl ?_
    refine out_last hx hb hK hO1 hB hS dL_undo_7 (fun H1 locs1 hO1 hB hS => ?_)
    refine lv_goto (tgt := 14) hx hb dL_undo_8 (by decide) ?_
    refine lv_iconst (v := 0) hx hb dL_undo_14 (by decide) ?_
    exact W.iret (v := 0) hx hb hr (fun t2 ht2 hW => ⟨⟨_, (u, cvI x), rfl, Or.inl ⟨x, rfl, hq, rfl⟩, (by rw [ht2]; exact hB), (by rw [ht2]; exact hO1)⟩, hS.F ht2⟩) hS.2.2 dL_undo_15
theorem dL_line_0 : decode cL_line 0 = .ok (.aload 5, 2) := by decide +kernel
theorem dL_line_2 : decode cL_line 2 = .ok (.iconst 0, 1) := by decide +kernel
theorem dL_line_3 : decode cL_line 3 = .ok (.aload_n 0, 1) := by decide +kernel
theorem dL_line_4 : decode cL_line 4 = .ok (.iload_n 1, 1) := by decide +kernel
theorem dL_line_5 : decode cL_line 5 = .ok (.iload_n 2, 1) := by decide +kernel
theorem dL_line_6 : decode cL_line 6 = .ok (.iload_n 3, 1) := by decide +kernel
theorem dL_line_7 : decode cL_line 7 = .ok (.iload 4, 2) := by decide +kernel
theorem dL_line_9 : decode cL_line 9 = .ok (.invokevirtual 45, 3) := by decide +kernel
theorem dL_line_12 : decode cL_line 12 = .ok (.i2l, 1) := by decide +kernel
theorem dL_line_13 : decode cL_line 13 = .ok (.lastore, 1) := by decide +kernel
theorem dL_line_14 : decode cL_line 14 = .ok (.goto 7, 3) := by decide +kernel
theorem dL_line_17 : decode cL_line 17 = .ok (.astore 6, 2) := by decide +kernel
theorem dL_line_19 : decode cL_line 19 = .ok (.iconst 1, 1) := by decide +kernel
theorem dL_line_20 : decode cL_line 20 = .ok (.ireturn, 1) := by decide +kernel
theorem dL_line_21 : decode cL_line 21 = .ok (.iconst 0, 1) := by decide +kernel
theorem dL_line_22 : decode cL_line 22 = .ok (.ireturn, 1) := by decide +kernel
set_option maxHeartbeats 4000000 in
set_option maxRecDepth 100000 in
theorem hp_line {l : Launch} (htr : l.stackTraces = false) {sg : Nat → Nat} {cA : Nat → ClassId} {D : va_G} {sz0 : Nat} {a1 a2 a3 a4 : Int} {z : Int64} {M : Mem} {Q : Rs → Mem → Prop} (hcal : cald 8 cQ_line [oQ, .inl a1, .inl a2, .inl a3, .inl a4] M Q) (hes : ∀ e M', Q (.inr e) M' → e ∈ [2]) : Met l yL_line (wWh yL_line cL_line 7 (some .int) [(0, 14, 17, 25)]) ({ frames := 17, cells := 1, slots := 6, locals := 750 }) (va_Pc [.ref (rho sz0 149), .int (Int32.ofInt a1), .int (Int32.ofInt a2), .int (Int32.ofInt a3), .int (Int32.ofInt a4), .ref (sz0 + 176)] (lPre sg cA D sz0 M z)) (va_Qi (lPost [2] cvI Q) (lW cA D sz0) (Al sz0)) 1 6 (Al sz0) := by
  refine met_ofWH (cc := cL_line) (maxL := 7) (ret := some .int) (hh := [(0, 14, 17, 25)]) (by decide) rfl ?_
  intro p e s m args below meth c s₁ B9 hml htab hv
  obtain ⟨rfl, ⟨hP, hD, hsz, hfix⟩, hO, hnc⟩ := hv
  have hx := B9.exec
  have hb := B9.bytes
  have hr := B9.returns
  have hts0 := atoms_spec (ws := wWh yL_line cL_line 7 (some .int) [(0, 14, 17, 25)]) B9.pre
  have hts : ∀ w ∈ LW, w.before _ s = true := fun w hw => hts0 w (List.mem_cons_of_mem _ hw)
  have hown : s.vm.findClass RL = some m.cls := findClass_of_methodNamed B9.named
  have hlocks := B9.notSynchronized
  have hK := hfix.1
  have hS : va_S (Al sz0) s.heap s.heap [] := va_S.rf
  have hM := snd (ρ := rho sz0) (sg := sg) (cA := cA) (D := D) (sz0 := sz0) htr 8 cQ_line _ M Q hcal nQ_line rfl
  have hrv := va_recv hfix.1 hP (gCl_at 11 (by decide)) (wWs_ob (show wOb 149 = 11 + 1 from by decide +kernel))
  have hl := lv_entry ([.ref (rho sz0 149), .int (Int32.ofInt a1), .int (Int32.ofInt a2), .int (Int32.ofInt a3), .int (Int32.ofInt a4), .ref (sz0 + 176)]) (n := 7) (Nat.le_of_ble_eq_true rfl)
  rw [lg_entry_eq]
  generalize (lg_sl ([.ref (rho sz0 149), .int (Int32.ofInt a1), .int (Int32.ofInt a2), .int (Int32.ofInt a3), .int (Int32.ofInt a4), .ref (sz0 + 176)]) ++ List.replicate (7 - (lg_sl ([.ref (rho sz0 149), .int (Int32.ofInt a1), .int (Int32.ofInt a2), .int (Int32.ofInt a3), .int (Int32.ofInt a4), .ref (sz0 + 176)])).length) Slot.unset).toArray = ls at hl ⊢
  have hl : lv_has ls 7 [(0, .ref (rho sz0 149)), (1, .int (Int32.ofInt a1)), (2, .int (Int32.ofInt a2)), (3, .int (Int32.ofInt a3)), (4, .int (Int32.ofInt a4)), (5, .ref (sz0 + 176))] := hl
  refine lv_aload hx hb dL_line_0 (lv_at hl 5 rfl) ?_
  refine lv_iconst (v := 0) hx hb dL_line_2 (by decide) ?_
  refine lv_aload_n hx hb dL_line_3 rfl (lv_at hl 0 rfl) ?_
  refine lv_iload_n hx hb dL_line_4 rfl (lv_at hl 1 rfl) ?_
  refine lv_iload_n hx hb dL_line_5 rfl (lv_at hl 2 rfl) ?_
  refine lv_iload_n hx hb dL_line_6 rfl (lv_at hl 3 rfl) ?_
  refine lv_iload hx hb dL_line_7 (lv_at hl 4 rfl) ?_
  refine vx_calli (vx_runV (As := [.int (Int32.ofInt a1), .int (Int32.ofInt a2), .int (Int32.ofInt a3), .int (Int32.ofInt a4)]) (rest := [.int 0, .ref (sz0 + 176)]) ⟨hx, hb, hml, hown, hts⟩ hM (cwV 4 hts (wsV_good wH_34 wH_35 wH_36 wH_3 wH_37) rfl rfl rfl (by decide +kernel) ⟨Nat.le_of_ble_eq_true rfl, Nat.le_of_ble_eq_true rfl⟩) ⟨wPic_blind, hrv, fun U hU hW => ⟨rfl, (by rw [hU]; exact hP), hD, (by rw [hU]; exact hsz), hfix.warm hW (fun q _ _ => by rw [hU])⟩⟩ rfl rfl hl.1 rfl (lv_room (Nat.le_of_ble_eq_true rfl)) dL_line_9 ⟨Nat.le_of_ble_eq_true rfl, Nat.le_of_ble_eq_true rfl⟩) hS (fun q _ h => h.1) (fun q h => h.1) (fun q _ h => h.1) (fun E ce q9 u t H1 locs1 ht hal hp hB hz1 hfr hS hce hv hcl => ?_) (fun r u t H1 locs1 ht hal hp hB hz1 hfr hS => ?_)
  · obtain ⟨e9, M1⟩ := u
    obtain ⟨hE, hB⟩ := hB
    dsimp only at hE hp hB
    subst hE
    rw [ht] at hB
    have hO1 := hO.kept hfr
    have hm := hes _ _ hp
    simp only [List.mem_cons, List.not_mem_nil, or_false] at hm
    subst hm
    refine vx_catch hown [] ⟨0, 14, 17, 25⟩ [] htab (fun z hz => absurd hz List.not_mem_nil) (by decide) (by decide) (hts _ wH_15) (va_Nw.use rfl (hfix.2.2.2.2.2.2.2.2.1 _ _ (lw_in4 _ (List.mem_of_getElem? (i := 236) (by decide +kernel))))) hce hv hcl ?_
    refine lv_astore (lv' := [(6, .ref q9), (0, .ref (rho sz0 149)), (1, .int (Int32.ofInt a1)), (2, .int (Int32.ofInt a2)), (3, .int (Int32.ofInt a3)), (4, .int (Int32.ofInt a4)), (5, .ref (sz0 + 176))]) hx hb dL_line_17 hl (by decide) rfl (fun ls hl => ?_)
    refine lv_iconst (v := Int32.ofInt ((0 + 1 : Nat) : Int)) hx hb dL_line_19 (by decide) ?_
    exact W.iret (v := Int32.ofInt ((0 + 1 : Nat) : Int)) hx hb hr (fun t2 ht2 hW => ⟨⟨_, (M1, z), rfl, Or.inr ⟨0, 2, rfl, rfl, hp⟩, (by rw [ht2]; exact hB), (by rw [ht2]; exact hO1)⟩, hS.F ht2⟩) hS.2.2 dL_line_20
  · obtain ⟨x, rfl, hq⟩ := hp
    rw [ht] at hB
    have hO1 := hO.kept hfr
    refine lv_i2l hx hb dL_line_12 rfl ?_
    refine out_last hx hb hK hO1 hB hS dL_line_13 (fun H1 locs1 hO1 hB hS => ?_)
    refine lv_goto (tgt := 21) hx hb dL_line_14 (by decide) ?_
    refine lv_iconst (v := 0) hx hb dL_line_21 (by decide) ?_
    exact W.iret (v := 0) hx hb hr (fun t2 ht2 hW => ⟨⟨_, (u, cvI x), rfl, Or.inl ⟨x, rfl, hq, rfl⟩, (by rw [ht2]; exact hB), (by rw [ht2]; exact hO1)⟩, hS.F ht2⟩) hS.2.2 dL_line_22
theorem dL_jobAt_0 : decode cL_jobAt 0 = .ok (.aload_n 3, 1) := by decide +kernel
theorem dL_jobAt_1 : decode cL_jobAt 1 = .ok (.iconst 0, 1) := by decide +kernel
theorem dL_jobAt_2 : decode cL_jobAt 2 = .ok (.aload_n 0, 1) := by decide +kernel
theorem dL_jobAt_3 : decode cL_jobAt 3 = .ok (.iload_n 1, 1) := by decide +kernel
theorem dL_jobAt_4 : decode cL_jobAt 4 = .ok (.iload_n 2, 1) := by decide +kernel
theorem dL_jobAt_5 : decode cL_jobAt 5 = .ok (.invokevirtual 48, 3) := by decide +kernel
theorem dL_jobAt_8 : decode cL_jobAt 8 = .ok (.i2l, 1) := by decide +kernel
theorem dL_jobAt_9 : decode cL_jobAt 9 = .ok (.lastore, 1) := by decide +kernel
theorem dL_jobAt_10 : decode cL_jobAt 10 = .ok (.goto 11, 3) := by decide +kernel
theorem dL_jobAt_13 : decode cL_jobAt 13 = .ok (.astore 4, 2) := by decide +kernel
theorem dL_jobAt_15 : decode cL_jobAt 15 = .ok (.iconst 1, 1) := by decide +kernel
theorem dL_jobAt_16 : decode cL_jobAt 16 = .ok (.ireturn, 1) := by decide +kernel
theorem dL_jobAt_17 : decode cL_jobAt 17 = .ok (.astore 4, 2) := by decide +kernel
theorem dL_jobAt_19 : decode cL_jobAt 19 = .ok (.iconst 2, 1) := by decide +kernel
theorem dL_jobAt_20 : decode cL_jobAt 20 = .ok (.ireturn, 1) := by decide +kernel
theorem dL_jobAt_21 : decode cL_jobAt 21 = .ok (.iconst 0, 1) := by decide +kernel
theorem dL_jobAt_22 : decode cL_jobAt 22 = .ok (.ireturn, 1) := by decide +kernel
set_option maxHeartbeats 4000000 in
set_option maxRecDepth 100000 in
theorem hp_jobAt {l : Launch} (htr : l.stackTraces = false) {sg : Nat → Nat} {cA : Nat → ClassId} {D : va_G} {sz0 : Nat} {a1 a2 : Int} {z : Int64} {M : Mem} {Q : Rs → Mem → Prop} (hcal : cald 8 cQ_jobAt [oQ, .inl a1, .inl a2] M Q) (hes : ∀ e M', Q (.inr e) M' → e ∈ [4, 2]) : Met l yL_jobAt (wWh yL_jobAt cL_jobAt 5 (some .int) [(0, 10, 13, 31), (0, 10, 17, 25)]) ({ frames := 17, cells := 1, slots := 6, locals := 750 }) (va_Pc [.ref (rho sz0 149), .int (Int32.ofInt a1), .int (Int32.ofInt a2), .ref (sz0 + 176)] (lPre sg cA D sz0 M z)) (va_Qi (lPost [4, 2] cvI Q) (lW cA D sz0) (Al sz0)) 1 6 (Al sz0) := by
  refine met_ofWH (cc := cL_jobAt) (maxL := 5) (ret := some .int) (hh := [(0, 10, 13, 31), (0, 10, 17, 25)]) (by decide) rfl ?_
  intro p e s m args below meth c s₁ B9 hml htab hv
  obtain ⟨rfl, ⟨hP, hD, hsz, hfix⟩, hO, hnc⟩ := hv
  have hx := B9.exec
  have hb := B9.bytes
  have hr := B9.returns
  have hts0 := atoms_spec (ws := wWh yL_jobAt cL_jobAt 5 (some .int) [(0, 10, 13, 31), (0, 10, 17, 25)]) B9.pre
  have hts : ∀ w ∈ LW, w.before _ s = true := fun w hw => hts0 w (List.mem_cons_of_mem _ hw)
  have hown : s.vm.findClass RL = some m.cls := findClass_of_methodNamed B9.named
  have hlocks := B9.notSynchronized
  have hK := hfix.1
  have hS : va_S (Al sz0) s.heap s.heap [] := va_S.rf
  have hM := snd (ρ := rho sz0) (sg := sg) (cA := cA) (D := D) (sz0 := sz0) htr 8 cQ_jobAt _ M Q hcal nQ_jobAt rfl
  have hrv := va_recv hfix.1 hP (gCl_at 11 (by decide)) (wWs_ob (show wOb 149 = 11 + 1 from by decide +kernel))
  have hl := lv_entry ([.ref (rho sz0 149), .int (Int32.ofInt a1), .int (Int32.ofInt a2), .ref (sz0 + 176)]) (n := 5) (Nat.le_of_ble_eq_true rfl)
  rw [lg_entry_eq]
  generalize (lg_sl ([.ref (rho sz0 149), .int (Int32.ofInt a1), .int (Int32.ofInt a2), .ref (sz0 + 176)]) ++ List.replicate (5 - (lg_sl ([.ref (rho sz0 149), .int (Int32.ofInt a1), .int (Int32.ofInt a2), .ref (sz0 + 176)])).length) Slot.unset).toArray = ls at hl ⊢
  have hl : lv_has ls 5 [(0, .ref (rho sz0 149)), (1, .int (Int32.ofInt a1)), (2, .int (Int32.ofInt a2)), (3, .ref (sz0 + 176))] := hl
  refine lv_aload_n hx hb dL_jobAt_0 rfl (lv_at hl 3 rfl) ?_
  refine lv_iconst (v := 0) hx hb dL_jobAt_1 (by decide) ?_
  refine lv_aload_n hx hb dL_jobAt_2 rfl (lv_at hl 0 rfl) ?_
  refine lv_iload_n hx hb dL_jobAt_3 rfl (lv_at hl 1 rfl) ?_
  refine lv_iload_n hx hb dL_jobAt_4 rfl (lv_at hl 2 rfl) ?_
  refine vx_calli (vx_runV (As := [.int (Int32.ofInt a1), .int (Int32.ofInt a2)]) (rest := [.int 0, .ref (sz0 + 176)]) ⟨hx, hb, hml, hown, hts⟩ hM (cwV 2 hts (wsV_good wH_38 wH_39 wH_40 wH_3 wH_41) rfl rfl rfl (by decide +kernel) ⟨Nat.le_of_ble_eq_true rfl, Nat.le_of_ble_eq_true rfl⟩) ⟨wPic_blind, hrv, fun U hU hW => ⟨rfl, (by rw [hU]; exact hP), hD, (by rw [hU]; exact hsz), hfix.warm hW (fun q _ _ => by rw [hU])⟩⟩ rfl rfl hl.1 rfl (lv_room (Nat.le_of_ble_eq_true rfl)) dL_jobAt_5 ⟨Nat.le_of_ble_eq_true rfl, Nat.le_of_ble_eq_true rfl⟩) hS (fun q _ h => h.1) (fun q h => h.1) (fun q _ h => h.1) (fun E ce q9 u t H1 locs1 ht hal hp hB hz1 hfr hS hce hv hcl => ?_) (fun r u t H1 locs1 ht hal hp hB hz1 hfr hS => ?_)
  · obtain ⟨e9, M1⟩ := u
    obtain ⟨hE, hB⟩ := hB
    dsimp only at hE hp hB
    subst hE
    rw [ht] at hB
    have hO1 := hO.kept hfr
    have hm := hes _ _ hp
    simp only [List.mem_cons, List.not_mem_nil, or_false] at hm
    rcases hm with rfl | rfl
    · refine vx_catch hown [] ⟨0, 10, 13, 31⟩ [⟨0, 10, 17, 25⟩] htab (fun z hz => absurd hz List.not_mem_nil) (by decide) (by decide) (hts _ wH_20) (va_Nw.use rfl (hfix.2.2.2.2.2.2.2.2.1 _ _ (lw_in5 _ (List.mem_of_getElem? (i := 38) (by decide +kernel))))) hce hv hcl ?_
      refine lv_astore (lv' := [(4, .ref q9), (0, .ref (rho sz0 149)), (1, .int (Int32.ofInt a1)), (2, .int (Int32.ofInt a2)), (3, .ref (sz0 + 176))]) hx hb dL_jobAt_13 hl (by decide) rfl (fun ls hl => ?_)
      refine lv_iconst (v := Int32.ofInt ((0 + 1 : Nat) : Int)) hx hb dL_jobAt_15 (by decide) ?_
      exact W.iret (v := Int32.ofInt ((0 + 1 : Nat) : Int)) hx hb hr (fun t2 ht2 hW => ⟨⟨_, (M1, z), rfl, Or.inr ⟨0, 4, rfl, rfl, hp⟩, (by rw [ht2]; exact hB), (by rw [ht2]; exact hO1)⟩, hS.F ht2⟩) hS.2.2 dL_jobAt_16
    · refine vx_catch hown [⟨0, 10, 13, 31⟩] ⟨0, 10, 17, 25⟩ [] htab (List.forall_mem_cons.mpr ⟨Or.inr ⟨by decide, "java/lang/IndexOutOfBoundsException", hts _ wH_20, hnc ("java/lang/IllegalArgumentException", "java/lang/IndexOutOfBoundsException") (by decide +kernel)⟩, fun _ h => absurd h List.not_mem_nil⟩) (by decide) (by decide) (hts _ wH_15) (va_Nw.use rfl (hfix.2.2.2.2.2.2.2.2.1 _ _ (lw_in4 _ (List.mem_of_getElem? (i := 236) (by decide +kernel))))) hce hv hcl ?_
      refine lv_astore (lv' := [(4, .ref q9), (0, .ref (rho sz0 149)), (1, .int (Int32.ofInt a1)), (2, .int (Int32.ofInt a2)), (3, .ref (sz0 + 176))]) hx hb dL_jobAt_17 hl (by decide) rfl (fun ls hl => ?_)
      refine lv_iconst (v := Int32.ofInt ((1 + 1 : Nat) : Int)) hx hb dL_jobAt_19 (by decide) ?_
      exact W.iret (v := Int32.ofInt ((1 + 1 : Nat) : Int)) hx hb hr (fun t2 ht2 hW => ⟨⟨_, (M1, z), rfl, Or.inr ⟨1, 2, rfl, rfl, hp⟩, (by rw [ht2]; exact hB), (by rw [ht2]; exact hO1)⟩, hS.F ht2⟩) hS.2.2 dL_jobAt_20
  · obtain ⟨x, rfl, hq⟩ := hp
    rw [ht] at hB
    have hO1 := hO.kept hfr
    refine lv_i2l hx hb dL_jobAt_8 rfl ?_
    refine out_last hx hb hK hO1 hB hS dL_jobAt_9 (fun H1 locs1 hO1 hB hS => ?_)
    refine lv_goto (tgt := 21) hx hb dL_jobAt_10 (by decide) ?_
    refine lv_iconst (v := 0) hx hb dL_jobAt_21 (by decide) ?_
    exact W.iret (v := 0) hx hb hr (fun t2 ht2 hW => ⟨⟨_, (u, cvI x), rfl, Or.inl ⟨x, rfl, hq, rfl⟩, (by rw [ht2]; exact hB), (by rw [ht2]; exact hO1)⟩, hS.F ht2⟩) hS.2.2 dL_jobAt_22
theorem dL_meanTime_0 : decode cL_meanTime 0 = .ok (.aload_n 2, 1) := by decide +kernel
theorem dL_meanTime_1 : decode cL_meanTime 1 = .ok (.iconst 0, 1) := by decide +kernel
theorem dL_meanTime_2 : decode cL_meanTime 2 = .ok (.aload_n 0, 1) := by decide +kernel
theorem dL_meanTime_3 : decode cL_meanTime 3 = .ok (.iload_n 1, 1) := by decide +kernel
theorem dL_meanTime_4 : decode cL_meanTime 4 = .ok (.invokevirtual 52, 3) := by decide +kernel
theorem dL_meanTime_7 : decode cL_meanTime 7 = .ok (.i2l, 1) := by decide +kernel
theorem dL_meanTime_8 : decode cL_meanTime 8 = .ok (.lastore, 1) := by decide +kernel
theorem dL_meanTime_9 : decode cL_meanTime 9 = .ok (.goto 6, 3) := by decide +kernel
theorem dL_meanTime_12 : decode cL_meanTime 12 = .ok (.astore_n 3, 1) := by decide +kernel
theorem dL_meanTime_13 : decode cL_meanTime 13 = .ok (.iconst 1, 1) := by decide +kernel
theorem dL_meanTime_14 : decode cL_meanTime 14 = .ok (.ireturn, 1) := by decide +kernel
theorem dL_meanTime_15 : decode cL_meanTime 15 = .ok (.iconst 0, 1) := by decide +kernel
theorem dL_meanTime_16 : decode cL_meanTime 16 = .ok (.ireturn, 1) := by decide +kernel
set_option maxHeartbeats 4000000 in
set_option maxRecDepth 100000 in
theorem hp_meanTime {l : Launch} (htr : l.stackTraces = false) {sg : Nat → Nat} {cA : Nat → ClassId} {D : va_G} {sz0 : Nat} {a1 : Int} {z : Int64} {M : Mem} {Q : Rs → Mem → Prop} (hcal : cald 8 cQ_meanTime [oQ, .inl a1] M Q) (hes : ∀ e M', Q (.inr e) M' → e ∈ [2]) : Met l yL_meanTime (wWh yL_meanTime cL_meanTime 4 (some .int) [(0, 9, 12, 25)]) ({ frames := 17, cells := 1, slots := 6, locals := 750 }) (va_Pc [.ref (rho sz0 149), .int (Int32.ofInt a1), .ref (sz0 + 176)] (lPre sg cA D sz0 M z)) (va_Qi (lPost [2] cvI Q) (lW cA D sz0) (Al sz0)) 1 6 (Al sz0) := by
  refine met_ofWH (cc := cL_meanTime) (maxL := 4) (ret := some .int) (hh := [(0, 9, 12, 25)]) (by decide) rfl ?_
  intro p e s m args below meth c s₁ B9 hml htab hv
  obtain ⟨rfl, ⟨hP, hD, hsz, hfix⟩, hO, hnc⟩ := hv
  have hx := B9.exec
  have hb := B9.bytes
  have hr := B9.returns
  have hts0 := atoms_spec (ws := wWh yL_meanTime cL_meanTime 4 (some .int) [(0, 9, 12, 25)]) B9.pre
  have hts : ∀ w ∈ LW, w.before _ s = true := fun w hw => hts0 w (List.mem_cons_of_mem _ hw)
  have hown : s.vm.findClass RL = some m.cls := findClass_of_methodNamed B9.named
  have hlocks := B9.notSynchronized
  have hK := hfix.1
  have hS : va_S (Al sz0) s.heap s.heap [] := va_S.rf
  have hM := snd (ρ := rho sz0) (sg := sg) (cA := cA) (D := D) (sz0 := sz0) htr 8 cQ_meanTime _ M Q hcal nQ_meanTime rfl
  have hrv := va_recv hfix.1 hP (gCl_at 11 (by decide)) (wWs_ob (show wOb 149 = 11 + 1 from by decide +kernel))
  have hl := lv_entry ([.ref (rho sz0 149), .int (Int32.ofInt a1), .ref (sz0 + 176)]) (n := 4) (Nat.le_of_ble_eq_true rfl)
  rw [lg_entry_eq]
  generalize (lg_sl ([.ref (rho sz0 149), .int (Int32.ofInt a1), .ref (sz0 + 176)]) ++ List.replicate (4 - (lg_sl ([.ref (rho sz0 149), .int (Int32.ofInt a1), .ref (sz0 + 176)])).length) Slot.unset).toArray = ls at hl ⊢
  have hl : lv_has ls 4 [(0, .ref (rho sz0 149)), (1, .int (Int32.ofInt a1)), (2, .ref (sz0 + 176))] := hl
  refine lv_aload_n hx hb dL_meanTime_0 rfl (lv_at hl 2 rfl) ?_
  refine lv_iconst (v := 0) hx hb dL_meanTime_1 (by decide) ?_
  refine lv_aload_n hx hb dL_meanTime_2 rfl (lv_at hl 0 rfl) ?_
  refine lv_iload_n hx hb dL_meanTime_3 rfl (lv_at hl 1 rfl) ?_
  refine vx_calli (vx_runV (As := [.int (Int32.ofInt a1)]) (rest := [.int 0, .ref (sz0 + 176)]) ⟨hx, hb, hml, hown, hts⟩ hM (cwV 1 hts (wsV_good wH_42 wH_43 wH_44 wH_3 wH_45) rfl rfl rfl (by decide +kernel) ⟨Nat.le_of_ble_eq_true rfl, Nat.le_of_ble_eq_true rfl⟩) ⟨wPic_blind, hrv, fun U hU hW => ⟨rfl, (by rw [hU]; exact hP), hD, (by rw [hU]; exact hsz), hfix.warm hW (fun q _ _ => by rw [hU])⟩⟩ rfl rfl hl.1 rfl (lv_room (Nat.le_of_ble_eq_true rfl)) dL_meanTime_4 ⟨Nat.le_of_ble_eq_true rfl, Nat.le_of_ble_eq_true rfl⟩) hS (fun q _ h => h.1) (fun q h => h.1) (fun q _ h => h.1) (fun E ce q9 u t H1 locs1 ht hal hp hB hz1 hfr hS hce hv hcl => ?_) (fun r u t H1 locs1 ht hal hp hB hz1 hfr hS => ?_)
  · obtain ⟨e9, M1⟩ := u
    obtain ⟨hE, hB⟩ := hB
    dsimp only at hE hp hB
    subst hE
    rw [ht] at hB
    have hO1 := hO.kept hfr
    have hm := hes _ _ hp
    simp only [List.mem_cons, List.not_mem_nil, or_false] at hm
    subst hm
    refine vx_catch hown [] ⟨0, 9, 12, 25⟩ [] htab (fun z hz => absurd hz List.not_mem_nil) (by decide) (by decide) (hts _ wH_15) (va_Nw.use rfl (hfix.2.2.2.2.2.2.2.2.1 _ _ (lw_in4 _ (List.mem_of_getElem? (i := 236) (by decide +kernel))))) hce hv hcl ?_
    refine lv_astore_n (lv' := [(3, .ref q9), (0, .ref (rho sz0 149)), (1, .int (Int32.ofInt a1)), (2, .ref (sz0 + 176))]) hx hb dL_meanTime_12 rfl hl (by decide) rfl (fun ls hl => ?_)
    refine lv_iconst (v := Int32.ofInt ((0 + 1 : Nat) : Int)) hx hb dL_meanTime_13 (by decide) ?_
    exact W.iret (v := Int32.ofInt ((0 + 1 : Nat) : Int)) hx hb hr (fun t2 ht2 hW => ⟨⟨_, (M1, z), rfl, Or.inr ⟨0, 2, rfl, rfl, hp⟩, (by rw [ht2]; exact hB), (by rw [ht2]; exact hO1)⟩, hS.F ht2⟩) hS.2.2 dL_meanTime_14
  · obtain ⟨x, rfl, hq⟩ := hp
    rw [ht] at hB
    have hO1 := hO.kept hfr
    refine lv_i2l hx hb dL_meanTime_7 rfl ?_
    refine out_last hx hb hK hO1 hB hS dL_meanTime_8 (fun H1 locs1 hO1 hB hS => ?_)
    refine lv_goto (tgt := 15) hx hb dL_meanTime_9 (by decide) ?_
    refine lv_iconst (v := 0) hx hb dL_meanTime_15 (by decide) ?_
    exact W.iret (v := 0) hx hb hr (fun t2 ht2 hW => ⟨⟨_, (u, cvI x), rfl, Or.inl ⟨x, rfl, hq, rfl⟩, (by rw [ht2]; exact hB), (by rw [ht2]; exact hO1)⟩, hS.F ht2⟩) hS.2.2 dL_meanTime_16
theorem dL_states_0 : decode cL_states 0 = .ok (.aload_n 3, 1) := by decide +kernel
theorem dL_states_1 : decode cL_states 1 = .ok (.iconst 0, 1) := by decide +kernel
theorem dL_states_2 : decode cL_states 2 = .ok (.aload_n 0, 1) := by decide +kernel
theorem dL_states_3 : decode cL_states 3 = .ok (.iload_n 1, 1) := by decide +kernel
theorem dL_states_4 : decode cL_states 4 = .ok (.iload_n 2, 1) := by decide +kernel
theorem dL_states_5 : decode cL_states 5 = .ok (.invokevirtual 55, 3) := by decide +kernel
theorem dL_states_8 : decode cL_states 8 = .ok (.i2l, 1) := by decide +kernel
theorem dL_states_9 : decode cL_states 9 = .ok (.lastore, 1) := by decide +kernel
theorem dL_states_10 : decode cL_states 10 = .ok (.goto 7, 3) := by decide +kernel
theorem dL_states_13 : decode cL_states 13 = .ok (.astore 4, 2) := by decide +kernel
theorem dL_states_15 : decode cL_states 15 = .ok (.iconst 1, 1) := by decide +kernel
theorem dL_states_16 : decode cL_states 16 = .ok (.ireturn, 1) := by decide +kernel
theorem dL_states_17 : decode cL_states 17 = .ok (.iconst 0, 1) := by decide +kernel
theorem dL_states_18 : decode cL_states 18 = .ok (.ireturn, 1) := by decide +kernel
set_option maxHeartbeats 4000000 in
set_option maxRecDepth 100000 in
theorem hp_states {l : Launch} (htr : l.stackTraces = false) {sg : Nat → Nat} {cA : Nat → ClassId} {D : va_G} {sz0 : Nat} {a1 a2 : Int} {z : Int64} {M : Mem} {Q : Rs → Mem → Prop} (hcal : cald 8 cQ_states [oQ, .inl a1, .inl a2] M Q) (hes : ∀ e M', Q (.inr e) M' → e ∈ [2]) : Met l yL_states (wWh yL_states cL_states 5 (some .int) [(0, 10, 13, 25)]) ({ frames := 17, cells := 1, slots := 6, locals := 750 }) (va_Pc [.ref (rho sz0 149), .int (Int32.ofInt a1), .int (Int32.ofInt a2), .ref (sz0 + 176)] (lPre sg cA D sz0 M z)) (va_Qi (lPost [2] cvI Q) (lW cA D sz0) (Al sz0)) 1 6 (Al sz0) := by
  refine met_ofWH (cc := cL_states) (maxL := 5) (ret := some .int) (hh := [(0, 10, 13, 25)]) (by decide) rfl ?_
  intro p e s m args below meth c s₁ B9 hml htab hv
  obtain ⟨rfl, ⟨hP, hD, hsz, hfix⟩, hO, hnc⟩ := hv
  have hx := B9.exec
  have hb := B9.bytes
  have hr := B9.returns
  have hts0 := atoms_spec (ws := wWh yL_states cL_states 5 (some .int) [(0, 10, 13, 25)]) B9.pre
  have hts : ∀ w ∈ LW, w.before _ s = true := fun w hw => hts0 w (List.mem_cons_of_mem _ hw)
  have hown : s.vm.findClass RL = some m.cls := findClass_of_methodNamed B9.named
  have hlocks := B9.notSynchronized
  have hK := hfix.1
  have hS : va_S (Al sz0) s.heap s.heap [] := va_S.rf
  have hM := snd (ρ := rho sz0) (sg := sg) (cA := cA) (D := D) (sz0 := sz0) htr 8 cQ_states _ M Q hcal nQ_states rfl
  have hrv := va_recv hfix.1 hP (gCl_at 11 (by decide)) (wWs_ob (show wOb 149 = 11 + 1 from by decide +kernel))
  have hl := lv_entry ([.ref (rho sz0 149), .int (Int32.ofInt a1), .int (Int32.ofInt a2), .ref (sz0 + 176)]) (n := 5) (Nat.le_of_ble_eq_true rfl)
  rw [lg_entry_eq]
  generalize (lg_sl ([.ref (rho sz0 149), .int (Int32.ofInt a1), .int (Int32.ofInt a2), .ref (sz0 + 176)]) ++ List.replicate (5 - (lg_sl ([.ref (rho sz0 149), .int (Int32.ofInt a1), .int (Int32.ofInt a2), .ref (sz0 + 176)])).length) Slot.unset).toArray = ls at hl ⊢
  have hl : lv_has ls 5 [(0, .ref (rho sz0 149)), (1, .int (Int32.ofInt a1)), (2, .int (Int32.ofInt a2)), (3, .ref (sz0 + 176))] := hl
  refine lv_aload_n hx hb dL_states_0 rfl (lv_at hl 3 rfl) ?_
  refine lv_iconst (v := 0) hx hb dL_states_1 (by decide) ?_
  refine lv_aload_n hx hb dL_states_2 rfl (lv_at hl 0 rfl) ?_
  refine lv_iload_n hx hb dL_states_3 rfl (lv_at hl 1 rfl) ?_
  refine lv_iload_n hx hb dL_states_4 rfl (lv_at hl 2 rfl) ?_
  refine vx_calli (vx_runV (As := [.int (Int32.ofInt a1), .int (Int32.ofInt a2)]) (rest := [.int 0, .ref (sz0 + 176)]) ⟨hx, hb, hml, hown, hts⟩ hM (cwV 2 hts (wsV_good wH_46 wH_47 wH_48 wH_3 wH_49) rfl rfl rfl (by decide +kernel) ⟨Nat.le_of_ble_eq_true rfl, Nat.le_of_ble_eq_true rfl⟩) ⟨wPic_blind, hrv, fun U hU hW => ⟨rfl, (by rw [hU]; exact hP), hD, (by rw [hU]; exact hsz), hfix.warm hW (fun q _ _ => by rw [hU])⟩⟩ rfl rfl hl.1 rfl (lv_room (Nat.le_of_ble_eq_true rfl)) dL_states_5 ⟨Nat.le_of_ble_eq_true rfl, Nat.le_of_ble_eq_true rfl⟩) hS (fun q _ h => h.1) (fun q h => h.1) (fun q _ h => h.1) (fun E ce q9 u t H1 locs1 ht hal hp hB hz1 hfr hS hce hv hcl => ?_) (fun r u t H1 locs1 ht hal hp hB hz1 hfr hS => ?_)
  · obtain ⟨e9, M1⟩ := u
    obtain ⟨hE, hB⟩ := hB
    dsimp only at hE hp hB
    subst hE
    rw [ht] at hB
    have hO1 := hO.kept hfr
    have hm := hes _ _ hp
    simp only [List.mem_cons, List.not_mem_nil, or_false] at hm
    subst hm
    refine vx_catch hown [] ⟨0, 10, 13, 25⟩ [] htab (fun z hz => absurd hz List.not_mem_nil) (by decide) (by decide) (hts _ wH_15) (va_Nw.use rfl (hfix.2.2.2.2.2.2.2.2.1 _ _ (lw_in4 _ (List.mem_of_getElem? (i := 236) (by decide +kernel))))) hce hv hcl ?_
    refine lv_astore (lv' := [(4, .ref q9), (0, .ref (rho sz0 149)), (1, .int (Int32.ofInt a1)), (2, .int (Int32.ofInt a2)), (3, .ref (sz0 + 176))]) hx hb dL_states_13 hl (by decide) rfl (fun ls hl => ?_)
    refine lv_iconst (v := Int32.ofInt ((0 + 1 : Nat) : Int)) hx hb dL_states_15 (by decide) ?_
    exact W.iret (v := Int32.ofInt ((0 + 1 : Nat) : Int)) hx hb hr (fun t2 ht2 hW => ⟨⟨_, (M1, z), rfl, Or.inr ⟨0, 2, rfl, rfl, hp⟩, (by rw [ht2]; exact hB), (by rw [ht2]; exact hO1)⟩, hS.F ht2⟩) hS.2.2 dL_states_16
  · obtain ⟨x, rfl, hq⟩ := hp
    rw [ht] at hB
    have hO1 := hO.kept hfr
    refine lv_i2l hx hb dL_states_8 rfl ?_
    refine out_last hx hb hK hO1 hB hS dL_states_9 (fun H1 locs1 hO1 hB hS => ?_)
    refine lv_goto (tgt := 17) hx hb dL_states_10 (by decide) ?_
    refine lv_iconst (v := 0) hx hb dL_states_17 (by decide) ?_
    exact W.iret (v := 0) hx hb hr (fun t2 ht2 hW => ⟨⟨_, (u, cvI x), rfl, Or.inl ⟨x, rfl, hq, rfl⟩, (by rw [ht2]; exact hB), (by rw [ht2]; exact hO1)⟩, hS.F ht2⟩) hS.2.2 dL_states_18
theorem dL_chance_0 : decode cL_chance 0 = .ok (.aload 4, 2) := by decide +kernel
theorem dL_chance_2 : decode cL_chance 2 = .ok (.iconst 0, 1) := by decide +kernel
theorem dL_chance_3 : decode cL_chance 3 = .ok (.aload_n 0, 1) := by decide +kernel
theorem dL_chance_4 : decode cL_chance 4 = .ok (.iload_n 1, 1) := by decide +kernel
theorem dL_chance_5 : decode cL_chance 5 = .ok (.iload_n 2, 1) := by decide +kernel
theorem dL_chance_6 : decode cL_chance 6 = .ok (.iload_n 3, 1) := by decide +kernel
theorem dL_chance_7 : decode cL_chance 7 = .ok (.invokevirtual 58, 3) := by decide +kernel
theorem dL_chance_10 : decode cL_chance 10 = .ok (.i2l, 1) := by decide +kernel
theorem dL_chance_11 : decode cL_chance 11 = .ok (.lastore, 1) := by decide +kernel
theorem dL_chance_12 : decode cL_chance 12 = .ok (.goto 11, 3) := by decide +kernel
theorem dL_chance_15 : decode cL_chance 15 = .ok (.astore 5, 2) := by decide +kernel
theorem dL_chance_17 : decode cL_chance 17 = .ok (.iconst 1, 1) := by decide +kernel
theorem dL_chance_18 : decode cL_chance 18 = .ok (.ireturn, 1) := by decide +kernel
theorem dL_chance_19 : decode cL_chance 19 = .ok (.astore 5, 2) := by decide +kernel
theorem dL_chance_21 : decode cL_chance 21 = .ok (.iconst 2, 1) := by decide +kernel
theorem dL_chance_22 : decode cL_chance 22 = .ok (.ireturn, 1) := by decide +kernel
theorem dL_chance_23 : decode cL_chance 23 = .ok (.iconst 0, 1) := by decide +kernel
theorem dL_chance_24 : decode cL_chance 24 = .ok (.ireturn, 1) := by decide +kernel
set_option maxHeartbeats 4000000 in
set_option maxRecDepth 100000 in
theorem hp_chance {l : Launch} (htr : l.stackTraces = false) {sg : Nat → Nat} {cA : Nat → ClassId} {D : va_G} {sz0 : Nat} {a1 a2 a3 : Int} {z : Int64} {M : Mem} {Q : Rs → Mem → Prop} (hcal : cald 8 cQ_chance [oQ, .inl a1, .inl a2, .inl a3] M Q) (hes : ∀ e M', Q (.inr e) M' → e ∈ [4, 2]) : Met l yL_chance (wWh yL_chance cL_chance 6 (some .int) [(0, 12, 15, 31), (0, 12, 19, 25)]) ({ frames := 17, cells := 2, slots := 12, locals := 750 }) (va_Pc [.ref (rho sz0 149), .int (Int32.ofInt a1), .int (Int32.ofInt a2), .int (Int32.ofInt a3), .ref (sz0 + 176)] (lPre sg cA D sz0 M z)) (va_Qi (lPost [4, 2] cvI Q) (lW cA D sz0) (Al sz0)) 2 12 (Al sz0) := by
  refine met_ofWH (cc := cL_chance) (maxL := 6) (ret := some .int) (hh := [(0, 12, 15, 31), (0, 12, 19, 25)]) (by decide) rfl ?_
  intro p e s m args below meth c s₁ B9 hml htab hv
  obtain ⟨rfl, ⟨hP, hD, hsz, hfix⟩, hO, hnc⟩ := hv
  have hx := B9.exec
  have hb := B9.bytes
  have hr := B9.returns
  have hts0 := atoms_spec (ws := wWh yL_chance cL_chance 6 (some .int) [(0, 12, 15, 31), (0, 12, 19, 25)]) B9.pre
  have hts : ∀ w ∈ LW, w.before _ s = true := fun w hw => hts0 w (List.mem_cons_of_mem _ hw)
  have hown : s.vm.findClass RL = some m.cls := findClass_of_methodNamed B9.named
  have hlocks := B9.notSynchronized
  have hK := hfix.1
  have hS : va_S (Al sz0) s.heap s.heap [] := va_S.rf
  have hM := snd (ρ := rho sz0) (sg := sg) (cA := cA) (D := D) (sz0 := sz0) htr 8 cQ_chance _ M Q hcal nQ_chance rfl
  have hrv := va_recv hfix.1 hP (gCl_at 11 (by decide)) (wWs_ob (show wOb 149 = 11 + 1 from by decide +kernel))
  have hl := lv_entry ([.ref (rho sz0 149), .int (Int32.ofInt a1), .int (Int32.ofInt a2), .int (Int32.ofInt a3), .ref (sz0 + 176)]) (n := 6) (Nat.le_of_ble_eq_true rfl)
  rw [lg_entry_eq]
  generalize (lg_sl ([.ref (rho sz0 149), .int (Int32.ofInt a1), .int (Int32.ofInt a2), .int (Int32.ofInt a3), .ref (sz0 + 176)]) ++ List.replicate (6 - (lg_sl ([.ref (rho sz0 149), .int (Int32.ofInt a1), .int (Int32.ofInt a2), .int (Int32.ofInt a3), .ref (sz0 + 176)])).length) Slot.unset).toArray = ls at hl ⊢
  have hl : lv_has ls 6 [(0, .ref (rho sz0 149)), (1, .int (Int32.ofInt a1)), (2, .int (Int32.ofInt a2)), (3, .int (Int32.ofInt a3)), (4, .ref (sz0 + 176))] := hl
  refine lv_aload hx hb dL_chance_0 (lv_at hl 4 rfl) ?_
  refine lv_iconst (v := 0) hx hb dL_chance_2 (by decide) ?_
  refine lv_aload_n hx hb dL_chance_3 rfl (lv_at hl 0 rfl) ?_
  refine lv_iload_n hx hb dL_chance_4 rfl (lv_at hl 1 rfl) ?_
  refine lv_iload_n hx hb dL_chance_5 rfl (lv_at hl 2 rfl) ?_
  refine lv_iload_n hx hb dL_chance_6 rfl (lv_at hl 3 rfl) ?_
  refine vx_calli (vx_runV (As := [.int (Int32.ofInt a1), .int (Int32.ofInt a2), .int (Int32.ofInt a3)]) (rest := [.int 0, .ref (sz0 + 176)]) ⟨hx, hb, hml, hown, hts⟩ hM (cwV 3 hts (wsV_good wH_50 wH_51 wH_52 wH_3 wH_53) rfl rfl rfl (by decide +kernel) ⟨Nat.le_of_ble_eq_true rfl, Nat.le_of_ble_eq_true rfl⟩) ⟨wPic_blind, hrv, fun U hU hW => ⟨rfl, (by rw [hU]; exact hP), hD, (by rw [hU]; exact hsz), hfix.warm hW (fun q _ _ => by rw [hU])⟩⟩ rfl rfl hl.1 rfl (lv_room (Nat.le_of_ble_eq_true rfl)) dL_chance_7 ⟨Nat.le_of_ble_eq_true rfl, Nat.le_of_ble_eq_true rfl⟩) hS (fun q _ h => h.1) (fun q h => h.1) (fun q _ h => h.1) (fun E ce q9 u t H1 locs1 ht hal hp hB hz1 hfr hS hce hv hcl => ?_) (fun r u t H1 locs1 ht hal hp hB hz1 hfr hS => ?_)
  · obtain ⟨e9, M1⟩ := u
    obtain ⟨hE, hB⟩ := hB
    dsimp only at hE hp hB
    subst hE
    rw [ht] at hB
    have hO1 := hO.kept hfr
    have hm := hes _ _ hp
    simp only [List.mem_cons, List.not_mem_nil, or_false] at hm
    rcases hm with rfl | rfl
    · refine vx_catch hown [] ⟨0, 12, 15, 31⟩ [⟨0, 12, 19, 25⟩] htab (fun z hz => absurd hz List.not_mem_nil) (by decide) (by decide) (hts _ wH_20) (va_Nw.use rfl (hfix.2.2.2.2.2.2.2.2.1 _ _ (lw_in5 _ (List.mem_of_getElem? (i := 38) (by decide +kernel))))) hce hv hcl ?_
      refine lv_astore (lv' := [(5, .ref q9), (0, .ref (rho sz0 149)), (1, .int (Int32.ofInt a1)), (2, .int (Int32.ofInt a2)), (3, .int (Int32.ofInt a3)), (4, .ref (sz0 + 176))]) hx hb dL_chance_15 hl (by decide) rfl (fun ls hl => ?_)
      refine lv_iconst (v := Int32.ofInt ((0 + 1 : Nat) : Int)) hx hb dL_chance_17 (by decide) ?_
      exact W.iret (v := Int32.ofInt ((0 + 1 : Nat) : Int)) hx hb hr (fun t2 ht2 hW => ⟨⟨_, (M1, z), rfl, Or.inr ⟨0, 4, rfl, rfl, hp⟩, (by rw [ht2]; exact hB), (by rw [ht2]; exact hO1)⟩, hS.F ht2⟩) hS.2.2 dL_chance_18
    · refine vx_catch hown [⟨0, 12, 15, 31⟩] ⟨0, 12, 19, 25⟩ [] htab (List.forall_mem_cons.mpr ⟨Or.inr ⟨by decide, "java/lang/IndexOutOfBoundsException", hts _ wH_20, hnc ("java/lang/IllegalArgumentException", "java/lang/IndexOutOfBoundsException") (by decide +kernel)⟩, fun _ h => absurd h List.not_mem_nil⟩) (by decide) (by decide) (hts _ wH_15) (va_Nw.use rfl (hfix.2.2.2.2.2.2.2.2.1 _ _ (lw_in4 _ (List.mem_of_getElem? (i := 236) (by decide +kernel))))) hce hv hcl ?_
      refine lv_astore (lv' := [(5, .ref q9), (0, .ref (rho sz0 149)), (1, .int (Int32.ofInt a1)), (2, .int (Int32.ofInt a2)), (3, .int (Int32.ofInt a3)), (4, .ref (sz0 + 176))]) hx hb dL_chance_19 hl (by decide) rfl (fun ls hl => ?_)
      refine lv_iconst (v := Int32.ofInt ((1 + 1 : Nat) : Int)) hx hb dL_chance_21 (by decide) ?_
      exact W.iret (v := Int32.ofInt ((1 + 1 : Nat) : Int)) hx hb hr (fun t2 ht2 hW => ⟨⟨_, (M1, z), rfl, Or.inr ⟨1, 2, rfl, rfl, hp⟩, (by rw [ht2]; exact hB), (by rw [ht2]; exact hO1)⟩, hS.F ht2⟩) hS.2.2 dL_chance_22
  · obtain ⟨x, rfl, hq⟩ := hp
    rw [ht] at hB
    have hO1 := hO.kept hfr
    refine lv_i2l hx hb dL_chance_10 rfl ?_
    refine out_last hx hb hK hO1 hB hS dL_chance_11 (fun H1 locs1 hO1 hB hS => ?_)
    refine lv_goto (tgt := 23) hx hb dL_chance_12 (by decide) ?_
    refine lv_iconst (v := 0) hx hb dL_chance_23 (by decide) ?_
    exact W.iret (v := 0) hx hb hr (fun t2 ht2 hW => ⟨⟨_, (u, cvI x), rfl, Or.inl ⟨x, rfl, hq, rfl⟩, (by rw [ht2]; exact hB), (by rw [ht2]; exact hO1)⟩, hS.F ht2⟩) hS.2.2 dL_chance_24
theorem dL_group_0 : decode cL_group 0 = .ok (.aload_n 2, 1) := by decide +kernel
theorem dL_group_1 : decode cL_group 1 = .ok (.iconst 0, 1) := by decide +kernel
theorem dL_group_2 : decode cL_group 2 = .ok (.aload_n 0, 1) := by decide +kernel
theorem dL_group_3 : decode cL_group 3 = .ok (.iload_n 1, 1) := by decide +kernel
theorem dL_group_4 : decode cL_group 4 = .ok (.invokevirtual 62, 3) := by decide +kernel
theorem dL_group_7 : decode cL_group 7 = .ok (.i2l, 1) := by decide +kernel
theorem dL_group_8 : decode cL_group 8 = .ok (.lastore, 1) := by decide +kernel
theorem dL_group_9 : decode cL_group 9 = .ok (.goto 9, 3) := by decide +kernel
theorem dL_group_12 : decode cL_group 12 = .ok (.astore_n 3, 1) := by decide +kernel
theorem dL_group_13 : decode cL_group 13 = .ok (.iconst 1, 1) := by decide +kernel
theorem dL_group_14 : decode cL_group 14 = .ok (.ireturn, 1) := by decide +kernel
theorem dL_group_15 : decode cL_group 15 = .ok (.astore_n 3, 1) := by decide +kernel
theorem dL_group_16 : decode cL_group 16 = .ok (.iconst 2, 1) := by decide +kernel
theorem dL_group_17 : decode cL_group 17 = .ok (.ireturn, 1) := by decide +kernel
theorem dL_group_18 : decode cL_group 18 = .ok (.iconst 0, 1) := by decide +kernel
theorem dL_group_19 : decode cL_group 19 = .ok (.ireturn, 1) := by decide +kernel
set_option maxHeartbeats 4000000 in
set_option maxRecDepth 100000 in
theorem hp_group {l : Launch} (htr : l.stackTraces = false) {sg : Nat → Nat} {cA : Nat → ClassId} {D : va_G} {sz0 : Nat} {a1 : Int} {z : Int64} {M : Mem} {Q : Rs → Mem → Prop} (hcal : cald 8 cQ_group [oQ, .inl a1] M Q) (hes : ∀ e M', Q (.inr e) M' → e ∈ [4, 5]) : Met l yL_group (wWh yL_group cL_group 4 (some .int) [(0, 9, 12, 31), (0, 9, 15, 43)]) ({ frames := 17, cells := 2, slots := 12, locals := 750 }) (va_Pc [.ref (rho sz0 149), .int (Int32.ofInt a1), .ref (sz0 + 176)] (lPre sg cA D sz0 M z)) (va_Qi (lPost [4, 5] cvI Q) (lW cA D sz0) (Al sz0)) 2 12 (Al sz0) := by
  refine met_ofWH (cc := cL_group) (maxL := 4) (ret := some .int) (hh := [(0, 9, 12, 31), (0, 9, 15, 43)]) (by decide) rfl ?_
  intro p e s m args below meth c s₁ B9 hml htab hv
  obtain ⟨rfl, ⟨hP, hD, hsz, hfix⟩, hO, hnc⟩ := hv
  have hx := B9.exec
  have hb := B9.bytes
  have hr := B9.returns
  have hts0 := atoms_spec (ws := wWh yL_group cL_group 4 (some .int) [(0, 9, 12, 31), (0, 9, 15, 43)]) B9.pre
  have hts : ∀ w ∈ LW, w.before _ s = true := fun w hw => hts0 w (List.mem_cons_of_mem _ hw)
  have hown : s.vm.findClass RL = some m.cls := findClass_of_methodNamed B9.named
  have hlocks := B9.notSynchronized
  have hK := hfix.1
  have hS : va_S (Al sz0) s.heap s.heap [] := va_S.rf
  have hM := snd (ρ := rho sz0) (sg := sg) (cA := cA) (D := D) (sz0 := sz0) htr 8 cQ_group _ M Q hcal nQ_group rfl
  have hrv := va_recv hfix.1 hP (gCl_at 11 (by decide)) (wWs_ob (show wOb 149 = 11 + 1 from by decide +kernel))
  have hl := lv_entry ([.ref (rho sz0 149), .int (Int32.ofInt a1), .ref (sz0 + 176)]) (n := 4) (Nat.le_of_ble_eq_true rfl)
  rw [lg_entry_eq]
  generalize (lg_sl ([.ref (rho sz0 149), .int (Int32.ofInt a1), .ref (sz0 + 176)]) ++ List.replicate (4 - (lg_sl ([.ref (rho sz0 149), .int (Int32.ofInt a1), .ref (sz0 + 176)])).length) Slot.unset).toArray = ls at hl ⊢
  have hl : lv_has ls 4 [(0, .ref (rho sz0 149)), (1, .int (Int32.ofInt a1)), (2, .ref (sz0 + 176))] := hl
  refine lv_aload_n hx hb dL_group_0 rfl (lv_at hl 2 rfl) ?_
  refine lv_iconst (v := 0) hx hb dL_group_1 (by decide) ?_
  refine lv_aload_n hx hb dL_group_2 rfl (lv_at hl 0 rfl) ?_
  refine lv_iload_n hx hb dL_group_3 rfl (lv_at hl 1 rfl) ?_
  refine vx_calli (vx_runV (As := [.int (Int32.ofInt a1)]) (rest := [.int 0, .ref (sz0 + 176)]) ⟨hx, hb, hml, hown, hts⟩ hM (cwV 1 hts (wsV_good wH_54 wH_55 wH_56 wH_3 wH_57) rfl rfl rfl (by decide +kernel) ⟨Nat.le_of_ble_eq_true rfl, Nat.le_of_ble_eq_true rfl⟩) ⟨wPic_blind, hrv, fun U hU hW => ⟨rfl, (by rw [hU]; exact hP), hD, (by rw [hU]; exact hsz), hfix.warm hW (fun q _ _ => by rw [hU])⟩⟩ rfl rfl hl.1 rfl (lv_room (Nat.le_of_ble_eq_true rfl)) dL_group_4 ⟨Nat.le_of_ble_eq_true rfl, Nat.le_of_ble_eq_true rfl⟩) hS (fun q _ h => h.1) (fun q h => h.1) (fun q _ h => h.1) (fun E ce q9 u t H1 locs1 ht hal hp hB hz1 hfr hS hce hv hcl => ?_) (fun r u t H1 locs1 ht hal hp hB hz1 hfr hS => ?_)
  · obtain ⟨e9, M1⟩ := u
    obtain ⟨hE, hB⟩ := hB
    dsimp only at hE hp hB
    subst hE
    rw [ht] at hB
    have hO1 := hO.kept hfr
    have hm := hes _ _ hp
    simp only [List.mem_cons, List.not_mem_nil, or_false] at hm
    rcases hm with rfl | rfl
    · refine vx_catch hown [] ⟨0, 9, 12, 31⟩ [⟨0, 9, 15, 43⟩] htab (fun z hz => absurd hz List.not_mem_nil) (by decide) (by decide) (hts _ wH_20) (va_Nw.use rfl (hfix.2.2.2.2.2.2.2.2.1 _ _ (lw_in5 _ (List.mem_of_getElem? (i := 38) (by decide +kernel))))) hce hv hcl ?_
      refine lv_astore_n (lv' := [(3, .ref q9), (0, .ref (rho sz0 149)), (1, .int (Int32.ofInt a1)), (2, .ref (sz0 + 176))]) hx hb dL_group_12 rfl hl (by decide) rfl (fun ls hl => ?_)
      refine lv_iconst (v := Int32.ofInt ((0 + 1 : Nat) : Int)) hx hb dL_group_13 (by decide) ?_
      exact W.iret (v := Int32.ofInt ((0 + 1 : Nat) : Int)) hx hb hr (fun t2 ht2 hW => ⟨⟨_, (M1, z), rfl, Or.inr ⟨0, 4, rfl, rfl, hp⟩, (by rw [ht2]; exact hB), (by rw [ht2]; exact hO1)⟩, hS.F ht2⟩) hS.2.2 dL_group_14
    · refine vx_catch hown [⟨0, 9, 12, 31⟩] ⟨0, 9, 15, 43⟩ [] htab (List.forall_mem_cons.mpr ⟨Or.inr ⟨by decide, "java/lang/IndexOutOfBoundsException", hts _ wH_20, hnc ("java/util/NoSuchElementException", "java/lang/IndexOutOfBoundsException") (by decide +kernel)⟩, fun _ h => absurd h List.not_mem_nil⟩) (by decide) (by decide) (hts _ wH_33) (va_Nw.use rfl (hfix.2.2.2.2.2.2.2.2.1 _ _ (lw_in5 _ (List.mem_of_getElem? (i := 100) (by decide +kernel))))) hce hv hcl ?_
      refine lv_astore_n (lv' := [(3, .ref q9), (0, .ref (rho sz0 149)), (1, .int (Int32.ofInt a1)), (2, .ref (sz0 + 176))]) hx hb dL_group_15 rfl hl (by decide) rfl (fun ls hl => ?_)
      refine lv_iconst (v := Int32.ofInt ((1 + 1 : Nat) : Int)) hx hb dL_group_16 (by decide) ?_
      exact W.iret (v := Int32.ofInt ((1 + 1 : Nat) : Int)) hx hb hr (fun t2 ht2 hW => ⟨⟨_, (M1, z), rfl, Or.inr ⟨1, 5, rfl, rfl, hp⟩, (by rw [ht2]; exact hB), (by rw [ht2]; exact hO1)⟩, hS.F ht2⟩) hS.2.2 dL_group_17
  · obtain ⟨x, rfl, hq⟩ := hp
    rw [ht] at hB
    have hO1 := hO.kept hfr
    refine lv_i2l hx hb dL_group_7 rfl ?_
    refine out_last hx hb hK hO1 hB hS dL_group_8 (fun H1 locs1 hO1 hB hS => ?_)
    refine lv_goto (tgt := 18) hx hb dL_group_9 (by decide) ?_
    refine lv_iconst (v := 0) hx hb dL_group_18 (by decide) ?_
    exact W.iret (v := 0) hx hb hr (fun t2 ht2 hW => ⟨⟨_, (u, cvI x), rfl, Or.inl ⟨x, rfl, hq, rfl⟩, (by rw [ht2]; exact hB), (by rw [ht2]; exact hO1)⟩, hS.F ht2⟩) hS.2.2 dL_group_19
theorem dL_longShare_0 : decode cL_longShare 0 = .ok (.aload_n 2, 1) := by decide +kernel
theorem dL_longShare_1 : decode cL_longShare 1 = .ok (.iconst 0, 1) := by decide +kernel
theorem dL_longShare_2 : decode cL_longShare 2 = .ok (.aload_n 0, 1) := by decide +kernel
theorem dL_longShare_3 : decode cL_longShare 3 = .ok (.iload_n 1, 1) := by decide +kernel
theorem dL_longShare_4 : decode cL_longShare 4 = .ok (.invokevirtual 65, 3) := by decide +kernel
theorem dL_longShare_7 : decode cL_longShare 7 = .ok (.i2l, 1) := by decide +kernel
theorem dL_longShare_8 : decode cL_longShare 8 = .ok (.lastore, 1) := by decide +kernel
theorem dL_longShare_9 : decode cL_longShare 9 = .ok (.goto 9, 3) := by decide +kernel
theorem dL_longShare_12 : decode cL_longShare 12 = .ok (.astore_n 3, 1) := by decide +kernel
theorem dL_longShare_13 : decode cL_longShare 13 = .ok (.iconst 1, 1) := by decide +kernel
theorem dL_longShare_14 : decode cL_longShare 14 = .ok (.ireturn, 1) := by decide +kernel
theorem dL_longShare_15 : decode cL_longShare 15 = .ok (.astore_n 3, 1) := by decide +kernel
theorem dL_longShare_16 : decode cL_longShare 16 = .ok (.iconst 2, 1) := by decide +kernel
theorem dL_longShare_17 : decode cL_longShare 17 = .ok (.ireturn, 1) := by decide +kernel
theorem dL_longShare_18 : decode cL_longShare 18 = .ok (.iconst 0, 1) := by decide +kernel
theorem dL_longShare_19 : decode cL_longShare 19 = .ok (.ireturn, 1) := by decide +kernel
set_option maxHeartbeats 4000000 in
set_option maxRecDepth 100000 in
theorem hp_longShare {l : Launch} (htr : l.stackTraces = false) {sg : Nat → Nat} {cA : Nat → ClassId} {D : va_G} {sz0 : Nat} {a1 : Int} {z : Int64} {M : Mem} {Q : Rs → Mem → Prop} (hcal : cald 8 cQ_longShare [oQ, .inl a1] M Q) (hes : ∀ e M', Q (.inr e) M' → e ∈ [4, 5]) : Met l yL_longShare (wWh yL_longShare cL_longShare 4 (some .int) [(0, 9, 12, 31), (0, 9, 15, 43)]) ({ frames := 17, cells := 2, slots := 12, locals := 750 }) (va_Pc [.ref (rho sz0 149), .int (Int32.ofInt a1), .ref (sz0 + 176)] (lPre sg cA D sz0 M z)) (va_Qi (lPost [4, 5] cvI Q) (lW cA D sz0) (Al sz0)) 2 12 (Al sz0) := by
  refine met_ofWH (cc := cL_longShare) (maxL := 4) (ret := some .int) (hh := [(0, 9, 12, 31), (0, 9, 15, 43)]) (by decide) rfl ?_
  intro p e s m args below meth c s₁ B9 hml htab hv
  obtain ⟨rfl, ⟨hP, hD, hsz, hfix⟩, hO, hnc⟩ := hv
  have hx := B9.exec
  have hb := B9.bytes
  have hr := B9.returns
  have hts0 := atoms_spec (ws := wWh yL_longShare cL_longShare 4 (some .int) [(0, 9, 12, 31), (0, 9, 15, 43)]) B9.pre
  have hts : ∀ w ∈ LW, w.before _ s = true := fun w hw => hts0 w (List.mem_cons_of_mem _ hw)
  have hown : s.vm.findClass RL = some m.cls := findClass_of_methodNamed B9.named
  have hlocks := B9.notSynchronized
  have hK := hfix.1
  have hS : va_S (Al sz0) s.heap s.heap [] := va_S.rf
  have hM := snd (ρ := rho sz0) (sg := sg) (cA := cA) (D := D) (sz0 := sz0) htr 8 cQ_longShare _ M Q hcal nQ_longShare rfl
  have hrv := va_recv hfix.1 hP (gCl_at 11 (by decide)) (wWs_ob (show wOb 149 = 11 + 1 from by decide +kernel))
  have hl := lv_entry ([.ref (rho sz0 149), .int (Int32.ofInt a1), .ref (sz0 + 176)]) (n := 4) (Nat.le_of_ble_eq_true rfl)
  rw [lg_entry_eq]
  generalize (lg_sl ([.ref (rho sz0 149), .int (Int32.ofInt a1), .ref (sz0 + 176)]) ++ List.replicate (4 - (lg_sl ([.ref (rho sz0 149), .int (Int32.ofInt a1), .ref (sz0 + 176)])).length) Slot.unset).toArray = ls at hl ⊢
  have hl : lv_has ls 4 [(0, .ref (rho sz0 149)), (1, .int (Int32.ofInt a1)), (2, .ref (sz0 + 176))] := hl
  refine lv_aload_n hx hb dL_longShare_0 rfl (lv_at hl 2 rfl) ?_
  refine lv_iconst (v := 0) hx hb dL_longShare_1 (by decide) ?_
  refine lv_aload_n hx hb dL_longShare_2 rfl (lv_at hl 0 rfl) ?_
  refine lv_iload_n hx hb dL_longShare_3 rfl (lv_at hl 1 rfl) ?_
  refine vx_calli (vx_runV (As := [.int (Int32.ofInt a1)]) (rest := [.int 0, .ref (sz0 + 176)]) ⟨hx, hb, hml, hown, hts⟩ hM (cwV 1 hts (wsV_good wH_58 wH_59 wH_60 wH_3 wH_61) rfl rfl rfl (by decide +kernel) ⟨Nat.le_of_ble_eq_true rfl, Nat.le_of_ble_eq_true rfl⟩) ⟨wPic_blind, hrv, fun U hU hW => ⟨rfl, (by rw [hU]; exact hP), hD, (by rw [hU]; exact hsz), hfix.warm hW (fun q _ _ => by rw [hU])⟩⟩ rfl rfl hl.1 rfl (lv_room (Nat.le_of_ble_eq_true rfl)) dL_longShare_4 ⟨Nat.le_of_ble_eq_true rfl, Nat.le_of_ble_eq_true rfl⟩) hS (fun q _ h => h.1) (fun q h => h.1) (fun q _ h => h.1) (fun E ce q9 u t H1 locs1 ht hal hp hB hz1 hfr hS hce hv hcl => ?_) (fun r u t H1 locs1 ht hal hp hB hz1 hfr hS => ?_)
  · obtain ⟨e9, M1⟩ := u
    obtain ⟨hE, hB⟩ := hB
    dsimp only at hE hp hB
    subst hE
    rw [ht] at hB
    have hO1 := hO.kept hfr
    have hm := hes _ _ hp
    simp only [List.mem_cons, List.not_mem_nil, or_false] at hm
    rcases hm with rfl | rfl
    · refine vx_catch hown [] ⟨0, 9, 12, 31⟩ [⟨0, 9, 15, 43⟩] htab (fun z hz => absurd hz List.not_mem_nil) (by decide) (by decide) (hts _ wH_20) (va_Nw.use rfl (hfix.2.2.2.2.2.2.2.2.1 _ _ (lw_in5 _ (List.mem_of_getElem? (i := 38) (by decide +kernel))))) hce hv hcl ?_
      refine lv_astore_n (lv' := [(3, .ref q9), (0, .ref (rho sz0 149)), (1, .int (Int32.ofInt a1)), (2, .ref (sz0 + 176))]) hx hb dL_longShare_12 rfl hl (by decide) rfl (fun ls hl => ?_)
      refine lv_iconst (v := Int32.ofInt ((0 + 1 : Nat) : Int)) hx hb dL_longShare_13 (by decide) ?_
      exact W.iret (v := Int32.ofInt ((0 + 1 : Nat) : Int)) hx hb hr (fun t2 ht2 hW => ⟨⟨_, (M1, z), rfl, Or.inr ⟨0, 4, rfl, rfl, hp⟩, (by rw [ht2]; exact hB), (by rw [ht2]; exact hO1)⟩, hS.F ht2⟩) hS.2.2 dL_longShare_14
    · refine vx_catch hown [⟨0, 9, 12, 31⟩] ⟨0, 9, 15, 43⟩ [] htab (List.forall_mem_cons.mpr ⟨Or.inr ⟨by decide, "java/lang/IndexOutOfBoundsException", hts _ wH_20, hnc ("java/util/NoSuchElementException", "java/lang/IndexOutOfBoundsException") (by decide +kernel)⟩, fun _ h => absurd h List.not_mem_nil⟩) (by decide) (by decide) (hts _ wH_33) (va_Nw.use rfl (hfix.2.2.2.2.2.2.2.2.1 _ _ (lw_in5 _ (List.mem_of_getElem? (i := 100) (by decide +kernel))))) hce hv hcl ?_
      refine lv_astore_n (lv' := [(3, .ref q9), (0, .ref (rho sz0 149)), (1, .int (Int32.ofInt a1)), (2, .ref (sz0 + 176))]) hx hb dL_longShare_15 rfl hl (by decide) rfl (fun ls hl => ?_)
      refine lv_iconst (v := Int32.ofInt ((1 + 1 : Nat) : Int)) hx hb dL_longShare_16 (by decide) ?_
      exact W.iret (v := Int32.ofInt ((1 + 1 : Nat) : Int)) hx hb hr (fun t2 ht2 hW => ⟨⟨_, (M1, z), rfl, Or.inr ⟨1, 5, rfl, rfl, hp⟩, (by rw [ht2]; exact hB), (by rw [ht2]; exact hO1)⟩, hS.F ht2⟩) hS.2.2 dL_longShare_17
  · obtain ⟨x, rfl, hq⟩ := hp
    rw [ht] at hB
    have hO1 := hO.kept hfr
    refine lv_i2l hx hb dL_longShare_7 rfl ?_
    refine out_last hx hb hK hO1 hB hS dL_longShare_8 (fun H1 locs1 hO1 hB hS => ?_)
    refine lv_goto (tgt := 18) hx hb dL_longShare_9 (by decide) ?_
    refine lv_iconst (v := 0) hx hb dL_longShare_18 (by decide) ?_
    exact W.iret (v := 0) hx hb hr (fun t2 ht2 hW => ⟨⟨_, (u, cvI x), rfl, Or.inl ⟨x, rfl, hq, rfl⟩, (by rw [ht2]; exact hB), (by rw [ht2]; exact hO1)⟩, hS.F ht2⟩) hS.2.2 dL_longShare_19
theorem dL_reach_0 : decode cL_reach 0 = .ok (.aload_n 3, 1) := by decide +kernel
theorem dL_reach_1 : decode cL_reach 1 = .ok (.iconst 0, 1) := by decide +kernel
theorem dL_reach_2 : decode cL_reach 2 = .ok (.aload_n 0, 1) := by decide +kernel
theorem dL_reach_3 : decode cL_reach 3 = .ok (.iload_n 1, 1) := by decide +kernel
theorem dL_reach_4 : decode cL_reach 4 = .ok (.iload_n 2, 1) := by decide +kernel
theorem dL_reach_5 : decode cL_reach 5 = .ok (.invokevirtual 68, 3) := by decide +kernel
theorem dL_reach_8 : decode cL_reach 8 = .ok (.i2l, 1) := by decide +kernel
theorem dL_reach_9 : decode cL_reach 9 = .ok (.lastore, 1) := by decide +kernel
theorem dL_reach_10 : decode cL_reach 10 = .ok (.goto 11, 3) := by decide +kernel
theorem dL_reach_13 : decode cL_reach 13 = .ok (.astore 4, 2) := by decide +kernel
theorem dL_reach_15 : decode cL_reach 15 = .ok (.iconst 1, 1) := by decide +kernel
theorem dL_reach_16 : decode cL_reach 16 = .ok (.ireturn, 1) := by decide +kernel
theorem dL_reach_17 : decode cL_reach 17 = .ok (.astore 4, 2) := by decide +kernel
theorem dL_reach_19 : decode cL_reach 19 = .ok (.iconst 2, 1) := by decide +kernel
theorem dL_reach_20 : decode cL_reach 20 = .ok (.ireturn, 1) := by decide +kernel
theorem dL_reach_21 : decode cL_reach 21 = .ok (.iconst 0, 1) := by decide +kernel
theorem dL_reach_22 : decode cL_reach 22 = .ok (.ireturn, 1) := by decide +kernel
set_option maxHeartbeats 4000000 in
set_option maxRecDepth 100000 in
theorem hp_reach {l : Launch} (htr : l.stackTraces = false) {sg : Nat → Nat} {cA : Nat → ClassId} {D : va_G} {sz0 : Nat} {a1 a2 : Int} {z : Int64} {M : Mem} {Q : Rs → Mem → Prop} (hcal : cald 8 cQ_reach [oQ, .inl a1, .inl a2] M Q) (hes : ∀ e M', Q (.inr e) M' → e ∈ [4, 5]) : Met l yL_reach (wWh yL_reach cL_reach 5 (some .int) [(0, 10, 13, 31), (0, 10, 17, 43)]) ({ frames := 17, cells := 2, slots := 12, locals := 750 }) (va_Pc [.ref (rho sz0 149), .int (Int32.ofInt a1), .int (Int32.ofInt a2), .ref (sz0 + 176)] (lPre sg cA D sz0 M z)) (va_Qi (lPost [4, 5] cvI Q) (lW cA D sz0) (Al sz0)) 2 12 (Al sz0) := by
  refine met_ofWH (cc := cL_reach) (maxL := 5) (ret := some .int) (hh := [(0, 10, 13, 31), (0, 10, 17, 43)]) (by decide) rfl ?_
  intro p e s m args below meth c s₁ B9 hml htab hv
  obtain ⟨rfl, ⟨hP, hD, hsz, hfix⟩, hO, hnc⟩ := hv
  have hx := B9.exec
  have hb := B9.bytes
  have hr := B9.returns
  have hts0 := atoms_spec (ws := wWh yL_reach cL_reach 5 (some .int) [(0, 10, 13, 31), (0, 10, 17, 43)]) B9.pre
  have hts : ∀ w ∈ LW, w.before _ s = true := fun w hw => hts0 w (List.mem_cons_of_mem _ hw)
  have hown : s.vm.findClass RL = some m.cls := findClass_of_methodNamed B9.named
  have hlocks := B9.notSynchronized
  have hK := hfix.1
  have hS : va_S (Al sz0) s.heap s.heap [] := va_S.rf
  have hM := snd (ρ := rho sz0) (sg := sg) (cA := cA) (D := D) (sz0 := sz0) htr 8 cQ_reach _ M Q hcal nQ_reach rfl
  have hrv := va_recv hfix.1 hP (gCl_at 11 (by decide)) (wWs_ob (show wOb 149 = 11 + 1 from by decide +kernel))
  have hl := lv_entry ([.ref (rho sz0 149), .int (Int32.ofInt a1), .int (Int32.ofInt a2), .ref (sz0 + 176)]) (n := 5) (Nat.le_of_ble_eq_true rfl)
  rw [lg_entry_eq]
  generalize (lg_sl ([.ref (rho sz0 149), .int (Int32.ofInt a1), .int (Int32.ofInt a2), .ref (sz0 + 176)]) ++ List.replicate (5 - (lg_sl ([.ref (rho sz0 149), .int (Int32.ofInt a1), .int (Int32.ofInt a2), .ref (sz0 + 176)])).length) Slot.unset).toArray = ls at hl ⊢
  have hl : lv_has ls 5 [(0, .ref (rho sz0 149)), (1, .int (Int32.ofInt a1)), (2, .int (Int32.ofInt a2)), (3, .ref (sz0 + 176))] := hl
  refine lv_aload_n hx hb dL_reach_0 rfl (lv_at hl 3 rfl) ?_
  refine lv_iconst (v := 0) hx hb dL_reach_1 (by decide) ?_
  refine lv_aload_n hx hb dL_reach_2 rfl (lv_at hl 0 rfl) ?_
  refine lv_iload_n hx hb dL_reach_3 rfl (lv_at hl 1 rfl) ?_
  refine lv_iload_n hx hb dL_reach_4 rfl (lv_at hl 2 rfl) ?_
  refine vx_calli (vx_runV (As := [.int (Int32.ofInt a1), .int (Int32.ofInt a2)]) (rest := [.int 0, .ref (sz0 + 176)]) ⟨hx, hb, hml, hown, hts⟩ hM (cwV 2 hts (wsV_good wH_62 wH_63 wH_64 wH_3 wH_65) rfl rfl rfl (by decide +kernel) ⟨Nat.le_of_ble_eq_true rfl, Nat.le_of_ble_eq_true rfl⟩) ⟨wPic_blind, hrv, fun U hU hW => ⟨rfl, (by rw [hU]; exact hP), hD, (by rw [hU]; exact hsz), hfix.warm hW (fun q _ _ => by rw [hU])⟩⟩ rfl rfl hl.1 rfl (lv_room (Nat.le_of_ble_eq_true rfl)) dL_reach_5 ⟨Nat.le_of_ble_eq_true rfl, Nat.le_of_ble_eq_true rfl⟩) hS (fun q _ h => h.1) (fun q h => h.1) (fun q _ h => h.1) (fun E ce q9 u t H1 locs1 ht hal hp hB hz1 hfr hS hce hv hcl => ?_) (fun r u t H1 locs1 ht hal hp hB hz1 hfr hS => ?_)
  · obtain ⟨e9, M1⟩ := u
    obtain ⟨hE, hB⟩ := hB
    dsimp only at hE hp hB
    subst hE
    rw [ht] at hB
    have hO1 := hO.kept hfr
    have hm := hes _ _ hp
    simp only [List.mem_cons, List.not_mem_nil, or_false] at hm
    rcases hm with rfl | rfl
    · refine vx_catch hown [] ⟨0, 10, 13, 31⟩ [⟨0, 10, 17, 43⟩] htab (fun z hz => absurd hz List.not_mem_nil) (by decide) (by decide) (hts _ wH_20) (va_Nw.use rfl (hfix.2.2.2.2.2.2.2.2.1 _ _ (lw_in5 _ (List.mem_of_getElem? (i := 38) (by decide +kernel))))) hce hv hcl ?_
      refine lv_astore (lv' := [(4, .ref q9), (0, .ref (rho sz0 149)), (1, .int (Int32.ofInt a1)), (2, .int (Int32.ofInt a2)), (3, .ref (sz0 + 176))]) hx hb dL_reach_13 hl (by decide) rfl (fun ls hl => ?_)
      refine lv_iconst (v := Int32.ofInt ((0 + 1 : Nat) : Int)) hx hb dL_reach_15 (by decide) ?_
      exact W.iret (v := Int32.ofInt ((0 + 1 : Nat) : Int)) hx hb hr (fun t2 ht2 hW => ⟨⟨_, (M1, z), rfl, Or.inr ⟨0, 4, rfl, rfl, hp⟩, (by rw [ht2]; exact hB), (by rw [ht2]; exact hO1)⟩, hS.F ht2⟩) hS.2.2 dL_reach_16
    · refine vx_catch hown [⟨0, 10, 13, 31⟩] ⟨0, 10, 17, 43⟩ [] htab (List.forall_mem_cons.mpr ⟨Or.inr ⟨by decide, "java/lang/IndexOutOfBoundsException", hts _ wH_20, hnc ("java/util/NoSuchElementException", "java/lang/IndexOutOfBoundsException") (by decide +kernel)⟩, fun _ h => absurd h List.not_mem_nil⟩) (by decide) (by decide) (hts _ wH_33) (va_Nw.use rfl (hfix.2.2.2.2.2.2.2.2.1 _ _ (lw_in5 _ (List.mem_of_getElem? (i := 100) (by decide +kernel))))) hce hv hcl ?_
      refine lv_astore (lv' := [(4, .ref q9), (0, .ref (rho sz0 149)), (1, .int (Int32.ofInt a1)), (2, .int (Int32.ofInt a2)), (3, .ref (sz0 + 176))]) hx hb dL_reach_17 hl (by decide) rfl (fun ls hl => ?_)
      refine lv_iconst (v := Int32.ofInt ((1 + 1 : Nat) : Int)) hx hb dL_reach_19 (by decide) ?_
      exact W.iret (v := Int32.ofInt ((1 + 1 : Nat) : Int)) hx hb hr (fun t2 ht2 hW => ⟨⟨_, (M1, z), rfl, Or.inr ⟨1, 5, rfl, rfl, hp⟩, (by rw [ht2]; exact hB), (by rw [ht2]; exact hO1)⟩, hS.F ht2⟩) hS.2.2 dL_reach_20
  · obtain ⟨x, rfl, hq⟩ := hp
    rw [ht] at hB
    have hO1 := hO.kept hfr
    refine lv_i2l hx hb dL_reach_8 rfl ?_
    refine out_last hx hb hK hO1 hB hS dL_reach_9 (fun H1 locs1 hO1 hB hS => ?_)
    refine lv_goto (tgt := 21) hx hb dL_reach_10 (by decide) ?_
    refine lv_iconst (v := 0) hx hb dL_reach_21 (by decide) ?_
    exact W.iret (v := 0) hx hb hr (fun t2 ht2 hW => ⟨⟨_, (u, cvI x), rfl, Or.inl ⟨x, rfl, hq, rfl⟩, (by rw [ht2]; exact hB), (by rw [ht2]; exact hO1)⟩, hS.F ht2⟩) hS.2.2 dL_reach_22
theorem dL_timeTo_0 : decode cL_timeTo 0 = .ok (.aload_n 3, 1) := by decide +kernel
theorem dL_timeTo_1 : decode cL_timeTo 1 = .ok (.iconst 0, 1) := by decide +kernel
theorem dL_timeTo_2 : decode cL_timeTo 2 = .ok (.aload_n 0, 1) := by decide +kernel
theorem dL_timeTo_3 : decode cL_timeTo 3 = .ok (.iload_n 1, 1) := by decide +kernel
theorem dL_timeTo_4 : decode cL_timeTo 4 = .ok (.iload_n 2, 1) := by decide +kernel
theorem dL_timeTo_5 : decode cL_timeTo 5 = .ok (.invokevirtual 71, 3) := by decide +kernel
theorem dL_timeTo_8 : decode cL_timeTo 8 = .ok (.i2l, 1) := by decide +kernel
theorem dL_timeTo_9 : decode cL_timeTo 9 = .ok (.lastore, 1) := by decide +kernel
theorem dL_timeTo_10 : decode cL_timeTo 10 = .ok (.goto 11, 3) := by decide +kernel
theorem dL_timeTo_13 : decode cL_timeTo 13 = .ok (.astore 4, 2) := by decide +kernel
theorem dL_timeTo_15 : decode cL_timeTo 15 = .ok (.iconst 1, 1) := by decide +kernel
theorem dL_timeTo_16 : decode cL_timeTo 16 = .ok (.ireturn, 1) := by decide +kernel
theorem dL_timeTo_17 : decode cL_timeTo 17 = .ok (.astore 4, 2) := by decide +kernel
theorem dL_timeTo_19 : decode cL_timeTo 19 = .ok (.iconst 2, 1) := by decide +kernel
theorem dL_timeTo_20 : decode cL_timeTo 20 = .ok (.ireturn, 1) := by decide +kernel
theorem dL_timeTo_21 : decode cL_timeTo 21 = .ok (.iconst 0, 1) := by decide +kernel
theorem dL_timeTo_22 : decode cL_timeTo 22 = .ok (.ireturn, 1) := by decide +kernel
set_option maxHeartbeats 4000000 in
set_option maxRecDepth 100000 in
theorem hp_timeTo {l : Launch} (htr : l.stackTraces = false) {sg : Nat → Nat} {cA : Nat → ClassId} {D : va_G} {sz0 : Nat} {a1 a2 : Int} {z : Int64} {M : Mem} {Q : Rs → Mem → Prop} (hcal : cald 8 cQ_timeTo [oQ, .inl a1, .inl a2] M Q) (hes : ∀ e M', Q (.inr e) M' → e ∈ [4, 5]) : Met l yL_timeTo (wWh yL_timeTo cL_timeTo 5 (some .int) [(0, 10, 13, 31), (0, 10, 17, 43)]) ({ frames := 17, cells := 3, slots := 18, locals := 750 }) (va_Pc [.ref (rho sz0 149), .int (Int32.ofInt a1), .int (Int32.ofInt a2), .ref (sz0 + 176)] (lPre sg cA D sz0 M z)) (va_Qi (lPost [4, 5] cvI Q) (lW cA D sz0) (Al sz0)) 3 18 (Al sz0) := by
  refine met_ofWH (cc := cL_timeTo) (maxL := 5) (ret := some .int) (hh := [(0, 10, 13, 31), (0, 10, 17, 43)]) (by decide) rfl ?_
  intro p e s m args below meth c s₁ B9 hml htab hv
  obtain ⟨rfl, ⟨hP, hD, hsz, hfix⟩, hO, hnc⟩ := hv
  have hx := B9.exec
  have hb := B9.bytes
  have hr := B9.returns
  have hts0 := atoms_spec (ws := wWh yL_timeTo cL_timeTo 5 (some .int) [(0, 10, 13, 31), (0, 10, 17, 43)]) B9.pre
  have hts : ∀ w ∈ LW, w.before _ s = true := fun w hw => hts0 w (List.mem_cons_of_mem _ hw)
  have hown : s.vm.findClass RL = some m.cls := findClass_of_methodNamed B9.named
  have hlocks := B9.notSynchronized
  have hK := hfix.1
  have hS : va_S (Al sz0) s.heap s.heap [] := va_S.rf
  have hM := snd (ρ := rho sz0) (sg := sg) (cA := cA) (D := D) (sz0 := sz0) htr 8 cQ_timeTo _ M Q hcal nQ_timeTo rfl
  have hrv := va_recv hfix.1 hP (gCl_at 11 (by decide)) (wWs_ob (show wOb 149 = 11 + 1 from by decide +kernel))
  have hl := lv_entry ([.ref (rho sz0 149), .int (Int32.ofInt a1), .int (Int32.ofInt a2), .ref (sz0 + 176)]) (n := 5) (Nat.le_of_ble_eq_true rfl)
  rw [lg_entry_eq]
  generalize (lg_sl ([.ref (rho sz0 149), .int (Int32.ofInt a1), .int (Int32.ofInt a2), .ref (sz0 + 176)]) ++ List.replicate (5 - (lg_sl ([.ref (rho sz0 149), .int (Int32.ofInt a1), .int (Int32.ofInt a2), .ref (sz0 + 176)])).length) Slot.unset).toArray = ls at hl ⊢
  have hl : lv_has ls 5 [(0, .ref (rho sz0 149)), (1, .int (Int32.ofInt a1)), (2, .int (Int32.ofInt a2)), (3, .ref (sz0 + 176))] := hl
  refine lv_aload_n hx hb dL_timeTo_0 rfl (lv_at hl 3 rfl) ?_
  refine lv_iconst (v := 0) hx hb dL_timeTo_1 (by decide) ?_
  refine lv_aload_n hx hb dL_timeTo_2 rfl (lv_at hl 0 rfl) ?_
  refine lv_iload_n hx hb dL_timeTo_3 rfl (lv_at hl 1 rfl) ?_
  refine lv_iload_n hx hb dL_timeTo_4 rfl (lv_at hl 2 rfl) ?_
  refine vx_calli (vx_runV (As := [.int (Int32.ofInt a1), .int (Int32.ofInt a2)]) (rest := [.int 0, .ref (sz0 + 176)]) ⟨hx, hb, hml, hown, hts⟩ hM (cwV 2 hts (wsV_good wH_66 wH_67 wH_68 wH_3 wH_69) rfl rfl rfl (by decide +kernel) ⟨Nat.le_of_ble_eq_true rfl, Nat.le_of_ble_eq_true rfl⟩) ⟨wPic_blind, hrv, fun U hU hW => ⟨rfl, (by rw [hU]; exact hP), hD, (by rw [hU]; exact hsz), hfix.warm hW (fun q _ _ => by rw [hU])⟩⟩ rfl rfl hl.1 rfl (lv_room (Nat.le_of_ble_eq_true rfl)) dL_timeTo_5 ⟨Nat.le_of_ble_eq_true rfl, Nat.le_of_ble_eq_true rfl⟩) hS (fun q _ h => h.1) (fun q h => h.1) (fun q _ h => h.1) (fun E ce q9 u t H1 locs1 ht hal hp hB hz1 hfr hS hce hv hcl => ?_) (fun r u t H1 locs1 ht hal hp hB hz1 hfr hS => ?_)
  · obtain ⟨e9, M1⟩ := u
    obtain ⟨hE, hB⟩ := hB
    dsimp only at hE hp hB
    subst hE
    rw [ht] at hB
    have hO1 := hO.kept hfr
    have hm := hes _ _ hp
    simp only [List.mem_cons, List.not_mem_nil, or_false] at hm
    rcases hm with rfl | rfl
    · refine vx_catch hown [] ⟨0, 10, 13, 31⟩ [⟨0, 10, 17, 43⟩] htab (fun z hz => absurd hz List.not_mem_nil) (by decide) (by decide) (hts _ wH_20) (va_Nw.use rfl (hfix.2.2.2.2.2.2.2.2.1 _ _ (lw_in5 _ (List.mem_of_getElem? (i := 38) (by decide +kernel))))) hce hv hcl ?_
      refine lv_astore (lv' := [(4, .ref q9), (0, .ref (rho sz0 149)), (1, .int (Int32.ofInt a1)), (2, .int (Int32.ofInt a2)), (3, .ref (sz0 + 176))]) hx hb dL_timeTo_13 hl (by decide) rfl (fun ls hl => ?_)
      refine lv_iconst (v := Int32.ofInt ((0 + 1 : Nat) : Int)) hx hb dL_timeTo_15 (by decide) ?_
      exact W.iret (v := Int32.ofInt ((0 + 1 : Nat) : Int)) hx hb hr (fun t2 ht2 hW => ⟨⟨_, (M1, z), rfl, Or.inr ⟨0, 4, rfl, rfl, hp⟩, (by rw [ht2]; exact hB), (by rw [ht2]; exact hO1)⟩, hS.F ht2⟩) hS.2.2 dL_timeTo_16
    · refine vx_catch hown [⟨0, 10, 13, 31⟩] ⟨0, 10, 17, 43⟩ [] htab (List.forall_mem_cons.mpr ⟨Or.inr ⟨by decide, "java/lang/IndexOutOfBoundsException", hts _ wH_20, hnc ("java/util/NoSuchElementException", "java/lang/IndexOutOfBoundsException") (by decide +kernel)⟩, fun _ h => absurd h List.not_mem_nil⟩) (by decide) (by decide) (hts _ wH_33) (va_Nw.use rfl (hfix.2.2.2.2.2.2.2.2.1 _ _ (lw_in5 _ (List.mem_of_getElem? (i := 100) (by decide +kernel))))) hce hv hcl ?_
      refine lv_astore (lv' := [(4, .ref q9), (0, .ref (rho sz0 149)), (1, .int (Int32.ofInt a1)), (2, .int (Int32.ofInt a2)), (3, .ref (sz0 + 176))]) hx hb dL_timeTo_17 hl (by decide) rfl (fun ls hl => ?_)
      refine lv_iconst (v := Int32.ofInt ((1 + 1 : Nat) : Int)) hx hb dL_timeTo_19 (by decide) ?_
      exact W.iret (v := Int32.ofInt ((1 + 1 : Nat) : Int)) hx hb hr (fun t2 ht2 hW => ⟨⟨_, (M1, z), rfl, Or.inr ⟨1, 5, rfl, rfl, hp⟩, (by rw [ht2]; exact hB), (by rw [ht2]; exact hO1)⟩, hS.F ht2⟩) hS.2.2 dL_timeTo_20
  · obtain ⟨x, rfl, hq⟩ := hp
    rw [ht] at hB
    have hO1 := hO.kept hfr
    refine lv_i2l hx hb dL_timeTo_8 rfl ?_
    refine out_last hx hb hK hO1 hB hS dL_timeTo_9 (fun H1 locs1 hO1 hB hS => ?_)
    refine lv_goto (tgt := 21) hx hb dL_timeTo_10 (by decide) ?_
    refine lv_iconst (v := 0) hx hb dL_timeTo_21 (by decide) ?_
    exact W.iret (v := 0) hx hb hr (fun t2 ht2 hW => ⟨⟨_, (u, cvI x), rfl, Or.inl ⟨x, rfl, hq, rfl⟩, (by rw [ht2]; exact hB), (by rw [ht2]; exact hO1)⟩, hS.F ht2⟩) hS.2.2 dL_timeTo_22
theorem dL_behind_0 : decode cL_behind 0 = .ok (.aload 4, 2) := by decide +kernel
theorem dL_behind_2 : decode cL_behind 2 = .ok (.iconst 0, 1) := by decide +kernel
theorem dL_behind_3 : decode cL_behind 3 = .ok (.aload_n 0, 1) := by decide +kernel
theorem dL_behind_4 : decode cL_behind 4 = .ok (.iload_n 1, 1) := by decide +kernel
theorem dL_behind_5 : decode cL_behind 5 = .ok (.iload_n 2, 1) := by decide +kernel
theorem dL_behind_6 : decode cL_behind 6 = .ok (.iload_n 3, 1) := by decide +kernel
theorem dL_behind_7 : decode cL_behind 7 = .ok (.invokevirtual 74, 3) := by decide +kernel
theorem dL_behind_10 : decode cL_behind 10 = .ok (.i2l, 1) := by decide +kernel
theorem dL_behind_11 : decode cL_behind 11 = .ok (.lastore, 1) := by decide +kernel
theorem dL_behind_12 : decode cL_behind 12 = .ok (.goto 15, 3) := by decide +kernel
theorem dL_behind_15 : decode cL_behind 15 = .ok (.astore 5, 2) := by decide +kernel
theorem dL_behind_17 : decode cL_behind 17 = .ok (.iconst 1, 1) := by decide +kernel
theorem dL_behind_18 : decode cL_behind 18 = .ok (.ireturn, 1) := by decide +kernel
theorem dL_behind_19 : decode cL_behind 19 = .ok (.astore 5, 2) := by decide +kernel
theorem dL_behind_21 : decode cL_behind 21 = .ok (.iconst 2, 1) := by decide +kernel
theorem dL_behind_22 : decode cL_behind 22 = .ok (.ireturn, 1) := by decide +kernel
theorem dL_behind_23 : decode cL_behind 23 = .ok (.astore 5, 2) := by decide +kernel
theorem dL_behind_25 : decode cL_behind 25 = .ok (.iconst 3, 1) := by decide +kernel
theorem dL_behind_26 : decode cL_behind 26 = .ok (.ireturn, 1) := by decide +kernel
theorem dL_behind_27 : decode cL_behind 27 = .ok (.iconst 0, 1) := by decide +kernel
theorem dL_behind_28 : decode cL_behind 28 = .ok (.ireturn, 1) := by decide +kernel
set_option maxHeartbeats 4000000 in
set_option maxRecDepth 100000 in
theorem hp_behind {l : Launch} (htr : l.stackTraces = false) {sg : Nat → Nat} {cA : Nat → ClassId} {D : va_G} {sz0 : Nat} {a1 a2 a3 : Int} {z : Int64} {M : Mem} {Q : Rs → Mem → Prop} (hcal : cald 8 cQ_behind [oQ, .inl a1, .inl a2, .inl a3] M Q) (hes : ∀ e M', Q (.inr e) M' → e ∈ [4, 2, 5]) : Met l yL_behind (wWh yL_behind cL_behind 6 (some .int) [(0, 12, 15, 31), (0, 12, 19, 25), (0, 12, 23, 43)]) ({ frames := 17, cells := 3, slots := 18, locals := 750 }) (va_Pc [.ref (rho sz0 149), .int (Int32.ofInt a1), .int (Int32.ofInt a2), .int (Int32.ofInt a3), .ref (sz0 + 176)] (lPre sg cA D sz0 M z)) (va_Qi (lPost [4, 2, 5] cvI Q) (lW cA D sz0) (Al sz0)) 3 18 (Al sz0) := by
  refine met_ofWH (cc := cL_behind) (maxL := 6) (ret := some .int) (hh := [(0, 12, 15, 31), (0, 12, 19, 25), (0, 12, 23, 43)]) (by decide) rfl ?_
  intro p e s m args below meth c s₁ B9 hml htab hv
  obtain ⟨rfl, ⟨hP, hD, hsz, hfix⟩, hO, hnc⟩ := hv
  have hx := B9.exec
  have hb := B9.bytes
  have hr := B9.returns
  have hts0 := atoms_spec (ws := wWh yL_behind cL_behind 6 (some .int) [(0, 12, 15, 31), (0, 12, 19, 25), (0, 12, 23, 43)]) B9.pre
  have hts : ∀ w ∈ LW, w.before _ s = true := fun w hw => hts0 w (List.mem_cons_of_mem _ hw)
  have hown : s.vm.findClass RL = some m.cls := findClass_of_methodNamed B9.named
  have hlocks := B9.notSynchronized
  have hK := hfix.1
  have hS : va_S (Al sz0) s.heap s.heap [] := va_S.rf
  have hM := snd (ρ := rho sz0) (sg := sg) (cA := cA) (D := D) (sz0 := sz0) htr 8 cQ_behind _ M Q hcal nQ_behind rfl
  have hrv := va_recv hfix.1 hP (gCl_at 11 (by decide)) (wWs_ob (show wOb 149 = 11 + 1 from by decide +kernel))
  have hl := lv_entry ([.ref (rho sz0 149), .int (Int32.ofInt a1), .int (Int32.ofInt a2), .int (Int32.ofInt a3), .ref (sz0 + 176)]) (n := 6) (Nat.le_of_ble_eq_true rfl)
  rw [lg_entry_eq]
  generalize (lg_sl ([.ref (rho sz0 149), .int (Int32.ofInt a1), .int (Int32.ofInt a2), .int (Int32.ofInt a3), .ref (sz0 + 176)]) ++ List.replicate (6 - (lg_sl ([.ref (rho sz0 149), .int (Int32.ofInt a1), .int (Int32.ofInt a2), .int (Int32.ofInt a3), .ref (sz0 + 176)])).length) Slot.unset).toArray = ls at hl ⊢
  have hl : lv_has ls 6 [(0, .ref (rho sz0 149)), (1, .int (Int32.ofInt a1)), (2, .int (Int32.ofInt a2)), (3, .int (Int32.ofInt a3)), (4, .ref (sz0 + 176))] := hl
  refine lv_aload hx hb dL_behind_0 (lv_at hl 4 rfl) ?_
  refine lv_iconst (v := 0) hx hb dL_behind_2 (by decide) ?_
  refine lv_aload_n hx hb dL_behind_3 rfl (lv_at hl 0 rfl) ?_
  refine lv_iload_n hx hb dL_behind_4 rfl (lv_at hl 1 rfl) ?_
  refine lv_iload_n hx hb dL_behind_5 rfl (lv_at hl 2 rfl) ?_
  refine lv_iload_n hx hb dL_behind_6 rfl (lv_at hl 3 rfl) ?_
  refine vx_calli (vx_runV (As := [.int (Int32.ofInt a1), .int (Int32.ofInt a2), .int (Int32.ofInt a3)]) (rest := [.int 0, .ref (sz0 + 176)]) ⟨hx, hb, hml, hown, hts⟩ hM (cwV 3 hts (wsV_good wH_70 wH_71 wH_72 wH_3 wH_73) rfl rfl rfl (by decide +kernel) ⟨Nat.le_of_ble_eq_true rfl, Nat.le_of_ble_eq_true rfl⟩) ⟨wPic_blind, hrv, fun U hU hW => ⟨rfl, (by rw [hU]; exact hP), hD, (by rw [hU]; exact hsz), hfix.warm hW (fun q _ _ => by rw [hU])⟩⟩ rfl rfl hl.1 rfl (lv_room (Nat.le_of_ble_eq_true rfl)) dL_behind_7 ⟨Nat.le_of_ble_eq_true rfl, Nat.le_of_ble_eq_true rfl⟩) hS (fun q _ h => h.1) (fun q h => h.1) (fun q _ h => h.1) (fun E ce q9 u t H1 locs1 ht hal hp hB hz1 hfr hS hce hv hcl => ?_) (fun r u t H1 locs1 ht hal hp hB hz1 hfr hS => ?_)
  · obtain ⟨e9, M1⟩ := u
    obtain ⟨hE, hB⟩ := hB
    dsimp only at hE hp hB
    subst hE
    rw [ht] at hB
    have hO1 := hO.kept hfr
    have hm := hes _ _ hp
    simp only [List.mem_cons, List.not_mem_nil, or_false] at hm
    rcases hm with rfl | rfl | rfl
    · refine vx_catch hown [] ⟨0, 12, 15, 31⟩ [⟨0, 12, 19, 25⟩, ⟨0, 12, 23, 43⟩] htab (fun z hz => absurd hz List.not_mem_nil) (by decide) (by decide) (hts _ wH_20) (va_Nw.use rfl (hfix.2.2.2.2.2.2.2.2.1 _ _ (lw_in5 _ (List.mem_of_getElem? (i := 38) (by decide +kernel))))) hce hv hcl ?_
      refine lv_astore (lv' := [(5, .ref q9), (0, .ref (rho sz0 149)), (1, .int (Int32.ofInt a1)), (2, .int (Int32.ofInt a2)), (3, .int (Int32.ofInt a3)), (4, .ref (sz0 + 176))]) hx hb dL_behind_15 hl (by decide) rfl (fun ls hl => ?_)
      refine lv_iconst (v := Int32.ofInt ((0 + 1 : Nat) : Int)) hx hb dL_behind_17 (by decide) ?_
      exact W.iret (v := Int32.ofInt ((0 + 1 : Nat) : Int)) hx hb hr (fun t2 ht2 hW => ⟨⟨_, (M1, z), rfl, Or.inr ⟨0, 4, rfl, rfl, hp⟩, (by rw [ht2]; exact hB), (by rw [ht2]; exact hO1)⟩, hS.F ht2⟩) hS.2.2 dL_behind_18
    · refine vx_catch hown [⟨0, 12, 15, 31⟩] ⟨0, 12, 19, 25⟩ [⟨0, 12, 23, 43⟩] htab (List.forall_mem_cons.mpr ⟨Or.inr ⟨by decide, "java/lang/IndexOutOfBoundsException", hts _ wH_20, hnc ("java/lang/IllegalArgumentException", "java/lang/IndexOutOfBoundsException") (by decide +kernel)⟩, fun _ h => absurd h List.not_mem_nil⟩) (by decide) (by decide) (hts _ wH_15) (va_Nw.use rfl (hfix.2.2.2.2.2.2.2.2.1 _ _ (lw_in4 _ (List.mem_of_getElem? (i := 236) (by decide +kernel))))) hce hv hcl ?_
      refine lv_astore (lv' := [(5, .ref q9), (0, .ref (rho sz0 149)), (1, .int (Int32.ofInt a1)), (2, .int (Int32.ofInt a2)), (3, .int (Int32.ofInt a3)), (4, .ref (sz0 + 176))]) hx hb dL_behind_19 hl (by decide) rfl (fun ls hl => ?_)
      refine lv_iconst (v := Int32.ofInt ((1 + 1 : Nat) : Int)) hx hb dL_behind_21 (by decide) ?_
      exact W.iret (v := Int32.ofInt ((1 + 1 : Nat) : Int)) hx hb hr (fun t2 ht2 hW => ⟨⟨_, (M1, z), rfl, Or.inr ⟨1, 2, rfl, rfl, hp⟩, (by rw [ht2]; exact hB), (by rw [ht2]; exact hO1)⟩, hS.F ht2⟩) hS.2.2 dL_behind_22
    · refine vx_catch hown [⟨0, 12, 15, 31⟩, ⟨0, 12, 19, 25⟩] ⟨0, 12, 23, 43⟩ [] htab (List.forall_mem_cons.mpr ⟨Or.inr ⟨by decide, "java/lang/IndexOutOfBoundsException", hts _ wH_20, hnc ("java/util/NoSuchElementException", "java/lang/IndexOutOfBoundsException") (by decide +kernel)⟩, List.forall_mem_cons.mpr ⟨Or.inr ⟨by decide, "java/lang/IllegalArgumentException", hts _ wH_15, hnc ("java/util/NoSuchElementException", "java/lang/IllegalArgumentException") (by decide +kernel)⟩, fun _ h => absurd h List.not_mem_nil⟩⟩) (by decide) (by decide) (hts _ wH_33) (va_Nw.use rfl (hfix.2.2.2.2.2.2.2.2.1 _ _ (lw_in5 _ (List.mem_of_getElem? (i := 100) (by decide +kernel))))) hce hv hcl ?_
      refine lv_astore (lv' := [(5, .ref q9), (0, .ref (rho sz0 149)), (1, .int (Int32.ofInt a1)), (2, .int (Int32.ofInt a2)), (3, .int (Int32.ofInt a3)), (4, .ref (sz0 + 176))]) hx hb dL_behind_23 hl (by decide) rfl (fun ls hl => ?_)
      refine lv_iconst (v := Int32.ofInt ((2 + 1 : Nat) : Int)) hx hb dL_behind_25 (by decide) ?_
      exact W.iret (v := Int32.ofInt ((2 + 1 : Nat) : Int)) hx hb hr (fun t2 ht2 hW => ⟨⟨_, (M1, z), rfl, Or.inr ⟨2, 5, rfl, rfl, hp⟩, (by rw [ht2]; exact hB), (by rw [ht2]; exact hO1)⟩, hS.F ht2⟩) hS.2.2 dL_behind_26
  · obtain ⟨x, rfl, hq⟩ := hp
    rw [ht] at hB
    have hO1 := hO.kept hfr
    refine lv_i2l hx hb dL_behind_10 rfl ?_
    refine out_last hx hb hK hO1 hB hS dL_behind_11 (fun H1 locs1 hO1 hB hS => ?_)
    refine lv_goto (tgt := 27) hx hb dL_behind_12 (by decide) ?_
    refine lv_iconst (v := 0) hx hb dL_behind_27 (by decide) ?_
    exact W.iret (v := 0) hx hb hr (fun t2 ht2 hW => ⟨⟨_, (u, cvI x), rfl, Or.inl ⟨x, rfl, hq, rfl⟩, (by rw [ht2]; exact hB), (by rw [ht2]; exact hO1)⟩, hS.F ht2⟩) hS.2.2 dL_behind_28
theorem dL_lostShare_0 : decode cL_lostShare 0 = .ok (.aload 4, 2) := by decide +kernel
theorem dL_lostShare_2 : decode cL_lostShare 2 = .ok (.iconst 0, 1) := by decide +kernel
theorem dL_lostShare_3 : decode cL_lostShare 3 = .ok (.aload_n 0, 1) := by decide +kernel
theorem dL_lostShare_4 : decode cL_lostShare 4 = .ok (.iload_n 1, 1) := by decide +kernel
theorem dL_lostShare_5 : decode cL_lostShare 5 = .ok (.iload_n 2, 1) := by decide +kernel
theorem dL_lostShare_6 : decode cL_lostShare 6 = .ok (.iload_n 3, 1) := by decide +kernel
theorem dL_lostShare_7 : decode cL_lostShare 7 = .ok (.invokevirtual 77, 3) := by decide +kernel
theorem dL_lostShare_10 : decode cL_lostShare 10 = .ok (.i2l, 1) := by decide +kernel
theorem dL_lostShare_11 : decode cL_lostShare 11 = .ok (.lastore, 1) := by decide +kernel
theorem dL_lostShare_12 : decode cL_lostShare 12 = .ok (.goto 7, 3) := by decide +kernel
theorem dL_lostShare_15 : decode cL_lostShare 15 = .ok (.astore 5, 2) := by decide +kernel
theorem dL_lostShare_17 : decode cL_lostShare 17 = .ok (.iconst 1, 1) := by decide +kernel
theorem dL_lostShare_18 : decode cL_lostShare 18 = .ok (.ireturn, 1) := by decide +kernel
theorem dL_lostShare_19 : decode cL_lostShare 19 = .ok (.iconst 0, 1) := by decide +kernel
theorem dL_lostShare_20 : decode cL_lostShare 20 = .ok (.ireturn, 1) := by decide +kernel
set_option maxHeartbeats 4000000 in
set_option maxRecDepth 100000 in
theorem hp_lostShare {l : Launch} (htr : l.stackTraces = false) {sg : Nat → Nat} {cA : Nat → ClassId} {D : va_G} {sz0 : Nat} {a1 a2 a3 : Int} {z : Int64} {M : Mem} {Q : Rs → Mem → Prop} (hcal : cald 8 cQ_lostShare [oQ, .inl a1, .inl a2, .inl a3] M Q) (hes : ∀ e M', Q (.inr e) M' → e ∈ [2]) : Met l yL_lostShare (wWh yL_lostShare cL_lostShare 6 (some .int) [(0, 12, 15, 25)]) ({ frames := 17, cells := 2, slots := 12, locals := 750 }) (va_Pc [.ref (rho sz0 149), .int (Int32.ofInt a1), .int (Int32.ofInt a2), .int (Int32.ofInt a3), .ref (sz0 + 176)] (lPre sg cA D sz0 M z)) (va_Qi (lPost [2] cvI Q) (lW cA D sz0) (Al sz0)) 2 12 (Al sz0) := by
  refine met_ofWH (cc := cL_lostShare) (maxL := 6) (ret := some .int) (hh := [(0, 12, 15, 25)]) (by decide) rfl ?_
  intro p e s m args below meth c s₁ B9 hml htab hv
  obtain ⟨rfl, ⟨hP, hD, hsz, hfix⟩, hO, hnc⟩ := hv
  have hx := B9.exec
  have hb := B9.bytes
  have hr := B9.returns
  have hts0 := atoms_spec (ws := wWh yL_lostShare cL_lostShare 6 (some .int) [(0, 12, 15, 25)]) B9.pre
  have hts : ∀ w ∈ LW, w.before _ s = true := fun w hw => hts0 w (List.mem_cons_of_mem _ hw)
  have hown : s.vm.findClass RL = some m.cls := findClass_of_methodNamed B9.named
  have hlocks := B9.notSynchronized
  have hK := hfix.1
  have hS : va_S (Al sz0) s.heap s.heap [] := va_S.rf
  have hM := snd (ρ := rho sz0) (sg := sg) (cA := cA) (D := D) (sz0 := sz0) htr 8 cQ_lostShare _ M Q hcal nQ_lostShare rfl
  have hrv := va_recv hfix.1 hP (gCl_at 11 (by decide)) (wWs_ob (show wOb 149 = 11 + 1 from by decide +kernel))
  have hl := lv_entry ([.ref (rho sz0 149), .int (Int32.ofInt a1), .int (Int32.ofInt a2), .int (Int32.ofInt a3), .ref (sz0 + 176)]) (n := 6) (Nat.le_of_ble_eq_true rfl)
  rw [lg_entry_eq]
  generalize (lg_sl ([.ref (rho sz0 149), .int (Int32.ofInt a1), .int (Int32.ofInt a2), .int (Int32.ofInt a3), .ref (sz0 + 176)]) ++ List.replicate (6 - (lg_sl ([.ref (rho sz0 149), .int (Int32.ofInt a1), .int (Int32.ofInt a2), .int (Int32.ofInt a3), .ref (sz0 + 176)])).length) Slot.unset).toArray = ls at hl ⊢
  have hl : lv_has ls 6 [(0, .ref (rho sz0 149)), (1, .int (Int32.ofInt a1)), (2, .int (Int32.ofInt a2)), (3, .int (Int32.ofInt a3)), (4, .ref (sz0 + 176))] := hl
  refine lv_aload hx hb dL_lostShare_0 (lv_at hl 4 rfl) ?_
  refine lv_iconst (v := 0) hx hb dL_lostShare_2 (by decide) ?_
  refine lv_aload_n hx hb dL_lostShare_3 rfl (lv_at hl 0 rfl) ?_
  refine lv_iload_n hx hb dL_lostShare_4 rfl (lv_at hl 1 rfl) ?_
  refine lv_iload_n hx hb dL_lostShare_5 rfl (lv_at hl 2 rfl) ?_
  refine lv_iload_n hx hb dL_lostShare_6 rfl (lv_at hl 3 rfl) ?_
  refine vx_calli (vx_runV (As := [.int (Int32.ofInt a1), .int (Int32.ofInt a2), .int (Int32.ofInt a3)]) (rest := [.int 0, .ref (sz0 + 176)]) ⟨hx, hb, hml, hown, hts⟩ hM (cwV 3 hts (wsV_good wH_74 wH_75 wH_76 wH_3 wH_77) rfl rfl rfl (by decide +kernel) ⟨Nat.le_of_ble_eq_true rfl, Nat.le_of_ble_eq_true rfl⟩) ⟨wPic_blind, hrv, fun U hU hW => ⟨rfl, (by rw [hU]; exact hP), hD, (by rw [hU]; exact hsz), hfix.warm hW (fun q _ _ => by rw [hU])⟩⟩ rfl rfl hl.1 rfl (lv_room (Nat.le_of_ble_eq_true rfl)) dL_lostShare_7 ⟨Nat.le_of_ble_eq_true rfl, Nat.le_of_ble_eq_true rfl⟩) hS (fun q _ h => h.1) (fun q h => h.1) (fun q _ h => h.1) (fun E ce q9 u t H1 locs1 ht hal hp hB hz1 hfr hS hce hv hcl => ?_) (fun r u t H1 locs1 ht hal hp hB hz1 hfr hS => ?_)
  · obtain ⟨e9, M1⟩ := u
    obtain ⟨hE, hB⟩ := hB
    dsimp only at hE hp hB
    subst hE
    rw [ht] at hB
    have hO1 := hO.kept hfr
    have hm := hes _ _ hp
    simp only [List.mem_cons, List.not_mem_nil, or_false] at hm
    subst hm
    refine vx_catch hown [] ⟨0, 12, 15, 25⟩ [] htab (fun z hz => absurd hz List.not_mem_nil) (by decide) (by decide) (hts _ wH_15) (va_Nw.use rfl (hfix.2.2.2.2.2.2.2.2.1 _ _ (lw_in4 _ (List.mem_of_getElem? (i := 236) (by decide +kernel))))) hce hv hcl ?_
    refine lv_astore (lv' := [(5, .ref q9), (0, .ref (rho sz0 149)), (1, .int (Int32.ofInt a1)), (2, .int (Int32.ofInt a2)), (3, .int (Int32.ofInt a3)), (4, .ref (sz0 + 176))]) hx hb dL_lostShare_15 hl (by decide) rfl (fun ls hl => ?_)
    refine lv_iconst (v := Int32.ofInt ((0 + 1 : Nat) : Int)) hx hb dL_lostShare_17 (by decide) ?_
    exact W.iret (v := Int32.ofInt ((0 + 1 : Nat) : Int)) hx hb hr (fun t2 ht2 hW => ⟨⟨_, (M1, z), rfl, Or.inr ⟨0, 2, rfl, rfl, hp⟩, (by rw [ht2]; exact hB), (by rw [ht2]; exact hO1)⟩, hS.F ht2⟩) hS.2.2 dL_lostShare_18
  · obtain ⟨x, rfl, hq⟩ := hp
    rw [ht] at hB
    have hO1 := hO.kept hfr
    refine lv_i2l hx hb dL_lostShare_10 rfl ?_
    refine out_last hx hb hK hO1 hB hS dL_lostShare_11 (fun H1 locs1 hO1 hB hS => ?_)
    refine lv_goto (tgt := 19) hx hb dL_lostShare_12 (by decide) ?_
    refine lv_iconst (v := 0) hx hb dL_lostShare_19 (by decide) ?_
    exact W.iret (v := 0) hx hb hr (fun t2 ht2 hW => ⟨⟨_, (u, cvI x), rfl, Or.inl ⟨x, rfl, hq, rfl⟩, (by rw [ht2]; exact hB), (by rw [ht2]; exact hO1)⟩, hS.F ht2⟩) hS.2.2 dL_lostShare_20
theorem dL_serversFor_0 : decode cL_serversFor 0 = .ok (.aload 5, 2) := by decide +kernel
theorem dL_serversFor_2 : decode cL_serversFor 2 = .ok (.iconst 0, 1) := by decide +kernel
theorem dL_serversFor_3 : decode cL_serversFor 3 = .ok (.aload_n 0, 1) := by decide +kernel
theorem dL_serversFor_4 : decode cL_serversFor 4 = .ok (.iload_n 1, 1) := by decide +kernel
theorem dL_serversFor_5 : decode cL_serversFor 5 = .ok (.iload_n 2, 1) := by decide +kernel
theorem dL_serversFor_6 : decode cL_serversFor 6 = .ok (.iload_n 3, 1) := by decide +kernel
theorem dL_serversFor_7 : decode cL_serversFor 7 = .ok (.iload 4, 2) := by decide +kernel
theorem dL_serversFor_9 : decode cL_serversFor 9 = .ok (.invokevirtual 80, 3) := by decide +kernel
theorem dL_serversFor_12 : decode cL_serversFor 12 = .ok (.i2l, 1) := by decide +kernel
theorem dL_serversFor_13 : decode cL_serversFor 13 = .ok (.lastore, 1) := by decide +kernel
theorem dL_serversFor_14 : decode cL_serversFor 14 = .ok (.goto 11, 3) := by decide +kernel
theorem dL_serversFor_17 : decode cL_serversFor 17 = .ok (.astore 6, 2) := by decide +kernel
theorem dL_serversFor_19 : decode cL_serversFor 19 = .ok (.iconst 1, 1) := by decide +kernel
theorem dL_serversFor_20 : decode cL_serversFor 20 = .ok (.ireturn, 1) := by decide +kernel
theorem dL_serversFor_21 : decode cL_serversFor 21 = .ok (.astore 6, 2) := by decide +kernel
theorem dL_serversFor_23 : decode cL_serversFor 23 = .ok (.iconst 2, 1) := by decide +kernel
theorem dL_serversFor_24 : decode cL_serversFor 24 = .ok (.ireturn, 1) := by decide +kernel
theorem dL_serversFor_25 : decode cL_serversFor 25 = .ok (.iconst 0, 1) := by decide +kernel
theorem dL_serversFor_26 : decode cL_serversFor 26 = .ok (.ireturn, 1) := by decide +kernel
set_option maxHeartbeats 4000000 in
set_option maxRecDepth 100000 in
theorem hp_serversFor {l : Launch} (htr : l.stackTraces = false) {sg : Nat → Nat} {cA : Nat → ClassId} {D : va_G} {sz0 : Nat} {a1 a2 a3 a4 : Int} {z : Int64} {M : Mem} {Q : Rs → Mem → Prop} (hcal : cald 8 cQ_serversFor [oQ, .inl a1, .inl a2, .inl a3, .inl a4] M Q) (hes : ∀ e M', Q (.inr e) M' → e ∈ [2, 5]) : Met l yL_serversFor (wWh yL_serversFor cL_serversFor 7 (some .int) [(0, 14, 17, 25), (0, 14, 21, 43)]) ({ frames := 17, cells := 3, slots := 18, locals := 750 }) (va_Pc [.ref (rho sz0 149), .int (Int32.ofInt a1), .int (Int32.ofInt a2), .int (Int32.ofInt a3), .int (Int32.ofInt a4), .ref (sz0 + 176)] (lPre sg cA D sz0 M z)) (va_Qi (lPost [2, 5] cvI Q) (lW cA D sz0) (Al sz0)) 3 18 (Al sz0) := by
  refine met_ofWH (cc := cL_serversFor) (maxL := 7) (ret := some .int) (hh := [(0, 14, 17, 25), (0, 14, 21, 43)]) (by decide) rfl ?_
  intro p e s m args below meth c s₁ B9 hml htab hv
  obtain ⟨rfl, ⟨hP, hD, hsz, hfix⟩, hO, hnc⟩ := hv
  have hx := B9.exec
  have hb := B9.bytes
  have hr := B9.returns
  have hts0 := atoms_spec (ws := wWh yL_serversFor cL_serversFor 7 (some .int) [(0, 14, 17, 25), (0, 14, 21, 43)]) B9.pre
  have hts : ∀ w ∈ LW, w.before _ s = true := fun w hw => hts0 w (List.mem_cons_of_mem _ hw)
  have hown : s.vm.findClass RL = some m.cls := findClass_of_methodNamed B9.named
  have hlocks := B9.notSynchronized
  have hK := hfix.1
  have hS : va_S (Al sz0) s.heap s.heap [] := va_S.rf
  have hM := snd (ρ := rho sz0) (sg := sg) (cA := cA) (D := D) (sz0 := sz0) htr 8 cQ_serversFor _ M Q hcal nQ_serversFor rfl
  have hrv := va_recv hfix.1 hP (gCl_at 11 (by decide)) (wWs_ob (show wOb 149 = 11 + 1 from by decide +kernel))
  have hl := lv_entry ([.ref (rho sz0 149), .int (Int32.ofInt a1), .int (Int32.ofInt a2), .int (Int32.ofInt a3), .int (Int32.ofInt a4), .ref (sz0 + 176)]) (n := 7) (Nat.le_of_ble_eq_true rfl)
  rw [lg_entry_eq]
  generalize (lg_sl ([.ref (rho sz0 149), .int (Int32.ofInt a1), .int (Int32.ofInt a2), .int (Int32.ofInt a3), .int (Int32.ofInt a4), .ref (sz0 + 176)]) ++ List.replicate (7 - (lg_sl ([.ref (rho sz0 149), .int (Int32.ofInt a1), .int (Int32.ofInt a2), .int (Int32.ofInt a3), .int (Int32.ofInt a4), .ref (sz0 + 176)])).length) Slot.unset).toArray = ls at hl ⊢
  have hl : lv_has ls 7 [(0, .ref (rho sz0 149)), (1, .int (Int32.ofInt a1)), (2, .int (Int32.ofInt a2)), (3, .int (Int32.ofInt a3)), (4, .int (Int32.ofInt a4)), (5, .ref (sz0 + 176))] := hl
  refine lv_aload hx hb dL_serversFor_0 (lv_at hl 5 rfl) ?_
  refine lv_iconst (v := 0) hx hb dL_serversFor_2 (by decide) ?_
  refine lv_aload_n hx hb dL_serversFor_3 rfl (lv_at hl 0 rfl) ?_
  refine lv_iload_n hx hb dL_serversFor_4 rfl (lv_at hl 1 rfl) ?_
  refine lv_iload_n hx hb dL_serversFor_5 rfl (lv_at hl 2 rfl) ?_
  refine lv_iload_n hx hb dL_serversFor_6 rfl (lv_at hl 3 rfl) ?_
  refine lv_iload hx hb dL_serversFor_7 (lv_at hl 4 rfl) ?_
  refine vx_calli (vx_runV (As := [.int (Int32.ofInt a1), .int (Int32.ofInt a2), .int (Int32.ofInt a3), .int (Int32.ofInt a4)]) (rest := [.int 0, .ref (sz0 + 176)]) ⟨hx, hb, hml, hown, hts⟩ hM (cwV 4 hts (wsV_good wH_78 wH_79 wH_80 wH_3 wH_81) rfl rfl rfl (by decide +kernel) ⟨Nat.le_of_ble_eq_true rfl, Nat.le_of_ble_eq_true rfl⟩) ⟨wPic_blind, hrv, fun U hU hW => ⟨rfl, (by rw [hU]; exact hP), hD, (by rw [hU]; exact hsz), hfix.warm hW (fun q _ _ => by rw [hU])⟩⟩ rfl rfl hl.1 rfl (lv_room (Nat.le_of_ble_eq_true rfl)) dL_serversFor_9 ⟨Nat.le_of_ble_eq_true rfl, Nat.le_of_ble_eq_true rfl⟩) hS (fun q _ h => h.1) (fun q h => h.1) (fun q _ h => h.1) (fun E ce q9 u t H1 locs1 ht hal hp hB hz1 hfr hS hce hv hcl => ?_) (fun r u t H1 locs1 ht hal hp hB hz1 hfr hS => ?_)
  · obtain ⟨e9, M1⟩ := u
    obtain ⟨hE, hB⟩ := hB
    dsimp only at hE hp hB
    subst hE
    rw [ht] at hB
    have hO1 := hO.kept hfr
    have hm := hes _ _ hp
    simp only [List.mem_cons, List.not_mem_nil, or_false] at hm
    rcases hm with rfl | rfl
    · refine vx_catch hown [] ⟨0, 14, 17, 25⟩ [⟨0, 14, 21, 43⟩] htab (fun z hz => absurd hz List.not_mem_nil) (by decide) (by decide) (hts _ wH_15) (va_Nw.use rfl (hfix.2.2.2.2.2.2.2.2.1 _ _ (lw_in4 _ (List.mem_of_getElem? (i := 236) (by decide +kernel))))) hce hv hcl ?_
      refine lv_astore (lv' := [(6, .ref q9), (0, .ref (rho sz0 149)), (1, .int (Int32.ofInt a1)), (2, .int (Int32.ofInt a2)), (3, .int (Int32.ofInt a3)), (4, .int (Int32.ofInt a4)), (5, .ref (sz0 + 176))]) hx hb dL_serversFor_17 hl (by decide) rfl (fun ls hl => ?_)
      refine lv_iconst (v := Int32.ofInt ((0 + 1 : Nat) : Int)) hx hb dL_serversFor_19 (by decide) ?_
      exact W.iret (v := Int32.ofInt ((0 + 1 : Nat) : Int)) hx hb hr (fun t2 ht2 hW => ⟨⟨_, (M1, z), rfl, Or.inr ⟨0, 2, rfl, rfl, hp⟩, (by rw [ht2]; exact hB), (by rw [ht2]; exact hO1)⟩, hS.F ht2⟩) hS.2.2 dL_serversFor_20
    · refine vx_catch hown [⟨0, 14, 17, 25⟩] ⟨0, 14, 21, 43⟩ [] htab (List.forall_mem_cons.mpr ⟨Or.inr ⟨by decide, "java/lang/IllegalArgumentException", hts _ wH_15, hnc ("java/util/NoSuchElementException", "java/lang/IllegalArgumentException") (by decide +kernel)⟩, fun _ h => absurd h List.not_mem_nil⟩) (by decide) (by decide) (hts _ wH_33) (va_Nw.use rfl (hfix.2.2.2.2.2.2.2.2.1 _ _ (lw_in5 _ (List.mem_of_getElem? (i := 100) (by decide +kernel))))) hce hv hcl ?_
      refine lv_astore (lv' := [(6, .ref q9), (0, .ref (rho sz0 149)), (1, .int (Int32.ofInt a1)), (2, .int (Int32.ofInt a2)), (3, .int (Int32.ofInt a3)), (4, .int (Int32.ofInt a4)), (5, .ref (sz0 + 176))]) hx hb dL_serversFor_21 hl (by decide) rfl (fun ls hl => ?_)
      refine lv_iconst (v := Int32.ofInt ((1 + 1 : Nat) : Int)) hx hb dL_serversFor_23 (by decide) ?_
      exact W.iret (v := Int32.ofInt ((1 + 1 : Nat) : Int)) hx hb hr (fun t2 ht2 hW => ⟨⟨_, (M1, z), rfl, Or.inr ⟨1, 5, rfl, rfl, hp⟩, (by rw [ht2]; exact hB), (by rw [ht2]; exact hO1)⟩, hS.F ht2⟩) hS.2.2 dL_serversFor_24
  · obtain ⟨x, rfl, hq⟩ := hp
    rw [ht] at hB
    have hO1 := hO.kept hfr
    refine lv_i2l hx hb dL_serversFor_12 rfl ?_
    refine out_last hx hb hK hO1 hB hS dL_serversFor_13 (fun H1 locs1 hO1 hB hS => ?_)
    refine lv_goto (tgt := 25) hx hb dL_serversFor_14 (by decide) ?_
    refine lv_iconst (v := 0) hx hb dL_serversFor_25 (by decide) ?_
    exact W.iret (v := 0) hx hb hr (fun t2 ht2 hW => ⟨⟨_, (u, cvI x), rfl, Or.inl ⟨x, rfl, hq, rfl⟩, (by rw [ht2]; exact hB), (by rw [ht2]; exact hO1)⟩, hS.F ht2⟩) hS.2.2 dL_serversFor_26
theorem dL_net_0 : decode cL_net 0 = .ok (.aload_n 2, 1) := by decide +kernel
theorem dL_net_1 : decode cL_net 1 = .ok (.iconst 0, 1) := by decide +kernel
theorem dL_net_2 : decode cL_net 2 = .ok (.aload_n 0, 1) := by decide +kernel
theorem dL_net_3 : decode cL_net 3 = .ok (.iload_n 1, 1) := by decide +kernel
theorem dL_net_4 : decode cL_net 4 = .ok (.invokevirtual 83, 3) := by decide +kernel
theorem dL_net_7 : decode cL_net 7 = .ok (.i2l, 1) := by decide +kernel
theorem dL_net_8 : decode cL_net 8 = .ok (.lastore, 1) := by decide +kernel
theorem dL_net_9 : decode cL_net 9 = .ok (.goto 6, 3) := by decide +kernel
theorem dL_net_12 : decode cL_net 12 = .ok (.astore_n 3, 1) := by decide +kernel
theorem dL_net_13 : decode cL_net 13 = .ok (.iconst 1, 1) := by decide +kernel
theorem dL_net_14 : decode cL_net 14 = .ok (.ireturn, 1) := by decide +kernel
theorem dL_net_15 : decode cL_net 15 = .ok (.iconst 0, 1) := by decide +kernel
theorem dL_net_16 : decode cL_net 16 = .ok (.ireturn, 1) := by decide +kernel
set_option maxHeartbeats 4000000 in
set_option maxRecDepth 100000 in
theorem hp_net {l : Launch} (htr : l.stackTraces = false) {sg : Nat → Nat} {cA : Nat → ClassId} {D : va_G} {sz0 : Nat} {a1 : Int} {z : Int64} {M : Mem} {Q : Rs → Mem → Prop} (hcal : cald 8 cQ_net [oQ, .inl a1] M Q) (hes : ∀ e M', Q (.inr e) M' → e ∈ [2]) : Met l yL_net (wWh yL_net cL_net 4 (some .int) [(0, 9, 12, 25)]) ({ frames := 17, cells := 1, slots := 6, locals := 750 }) (va_Pc [.ref (rho sz0 149), .int (Int32.ofInt a1), .ref (sz0 + 176)] (lPre sg cA D sz0 M z)) (va_Qi (lPost [2] cvI Q) (lW cA D sz0) (Al sz0)) 1 6 (Al sz0) := by
  refine met_ofWH (cc := cL_net) (maxL := 4) (ret := some .int) (hh := [(0, 9, 12, 25)]) (by decide) rfl ?_
  intro p e s m args below meth c s₁ B9 hml htab hv
  obtain ⟨rfl, ⟨hP, hD, hsz, hfix⟩, hO, hnc⟩ := hv
  have hx := B9.exec
  have hb := B9.bytes
  have hr := B9.returns
  have hts0 := atoms_spec (ws := wWh yL_net cL_net 4 (some .int) [(0, 9, 12, 25)]) B9.pre
  have hts : ∀ w ∈ LW, w.before _ s = true := fun w hw => hts0 w (List.mem_cons_of_mem _ hw)
  have hown : s.vm.findClass RL = some m.cls := findClass_of_methodNamed B9.named
  have hlocks := B9.notSynchronized
  have hK := hfix.1
  have hS : va_S (Al sz0) s.heap s.heap [] := va_S.rf
  have hM := snd (ρ := rho sz0) (sg := sg) (cA := cA) (D := D) (sz0 := sz0) htr 8 cQ_net _ M Q hcal nQ_net rfl
  have hrv := va_recv hfix.1 hP (gCl_at 11 (by decide)) (wWs_ob (show wOb 149 = 11 + 1 from by decide +kernel))
  have hl := lv_entry ([.ref (rho sz0 149), .int (Int32.ofInt a1), .ref (sz0 + 176)]) (n := 4) (Nat.le_of_ble_eq_true rfl)
  rw [lg_entry_eq]
  generalize (lg_sl ([.ref (rho sz0 149), .int (Int32.ofInt a1), .ref (sz0 + 176)]) ++ List.replicate (4 - (lg_sl ([.ref (rho sz0 149), .int (Int32.ofInt a1), .ref (sz0 + 176)])).length) Slot.unset).toArray = ls at hl ⊢
  have hl : lv_has ls 4 [(0, .ref (rho sz0 149)), (1, .int (Int32.ofInt a1)), (2, .ref (sz0 + 176))] := hl
  refine lv_aload_n hx hb dL_net_0 rfl (lv_at hl 2 rfl) ?_
  refine lv_iconst (v := 0) hx hb dL_net_1 (by decide) ?_
  refine lv_aload_n hx hb dL_net_2 rfl (lv_at hl 0 rfl) ?_
  refine lv_iload_n hx hb dL_net_3 rfl (lv_at hl 1 rfl) ?_
  refine vx_calli (vx_runV (As := [.int (Int32.ofInt a1)]) (rest := [.int 0, .ref (sz0 + 176)]) ⟨hx, hb, hml, hown, hts⟩ hM (cwV 1 hts (wsV_good wH_82 wH_83 wH_84 wH_3 wH_85) rfl rfl rfl (by decide +kernel) ⟨Nat.le_of_ble_eq_true rfl, Nat.le_of_ble_eq_true rfl⟩) ⟨wPic_blind, hrv, fun U hU hW => ⟨rfl, (by rw [hU]; exact hP), hD, (by rw [hU]; exact hsz), hfix.warm hW (fun q _ _ => by rw [hU])⟩⟩ rfl rfl hl.1 rfl (lv_room (Nat.le_of_ble_eq_true rfl)) dL_net_4 ⟨Nat.le_of_ble_eq_true rfl, Nat.le_of_ble_eq_true rfl⟩) hS (fun q _ h => h.1) (fun q h => h.1) (fun q _ h => h.1) (fun E ce q9 u t H1 locs1 ht hal hp hB hz1 hfr hS hce hv hcl => ?_) (fun r u t H1 locs1 ht hal hp hB hz1 hfr hS => ?_)
  · obtain ⟨e9, M1⟩ := u
    obtain ⟨hE, hB⟩ := hB
    dsimp only at hE hp hB
    subst hE
    rw [ht] at hB
    have hO1 := hO.kept hfr
    have hm := hes _ _ hp
    simp only [List.mem_cons, List.not_mem_nil, or_false] at hm
    subst hm
    refine vx_catch hown [] ⟨0, 9, 12, 25⟩ [] htab (fun z hz => absurd hz List.not_mem_nil) (by decide) (by decide) (hts _ wH_15) (va_Nw.use rfl (hfix.2.2.2.2.2.2.2.2.1 _ _ (lw_in4 _ (List.mem_of_getElem? (i := 236) (by decide +kernel))))) hce hv hcl ?_
    refine lv_astore_n (lv' := [(3, .ref q9), (0, .ref (rho sz0 149)), (1, .int (Int32.ofInt a1)), (2, .ref (sz0 + 176))]) hx hb dL_net_12 rfl hl (by decide) rfl (fun ls hl => ?_)
    refine lv_iconst (v := Int32.ofInt ((0 + 1 : Nat) : Int)) hx hb dL_net_13 (by decide) ?_
    exact W.iret (v := Int32.ofInt ((0 + 1 : Nat) : Int)) hx hb hr (fun t2 ht2 hW => ⟨⟨_, (M1, z), rfl, Or.inr ⟨0, 2, rfl, rfl, hp⟩, (by rw [ht2]; exact hB), (by rw [ht2]; exact hO1)⟩, hS.F ht2⟩) hS.2.2 dL_net_14
  · obtain ⟨x, rfl, hq⟩ := hp
    rw [ht] at hB
    have hO1 := hO.kept hfr
    refine lv_i2l hx hb dL_net_7 rfl ?_
    refine out_last hx hb hK hO1 hB hS dL_net_8 (fun H1 locs1 hO1 hB hS => ?_)
    refine lv_goto (tgt := 15) hx hb dL_net_9 (by decide) ?_
    refine lv_iconst (v := 0) hx hb dL_net_15 (by decide) ?_
    exact W.iret (v := 0) hx hb hr (fun t2 ht2 hW => ⟨⟨_, (u, cvI x), rfl, Or.inl ⟨x, rfl, hq, rfl⟩, (by rw [ht2]; exact hB), (by rw [ht2]; exact hO1)⟩, hS.F ht2⟩) hS.2.2 dL_net_16
theorem dL_node_0 : decode cL_node 0 = .ok (.aload 4, 2) := by decide +kernel
theorem dL_node_2 : decode cL_node 2 = .ok (.iconst 0, 1) := by decide +kernel
theorem dL_node_3 : decode cL_node 3 = .ok (.aload_n 0, 1) := by decide +kernel
theorem dL_node_4 : decode cL_node 4 = .ok (.iload_n 1, 1) := by decide +kernel
theorem dL_node_5 : decode cL_node 5 = .ok (.iload_n 2, 1) := by decide +kernel
theorem dL_node_6 : decode cL_node 6 = .ok (.iload_n 3, 1) := by decide +kernel
theorem dL_node_7 : decode cL_node 7 = .ok (.invokevirtual 86, 3) := by decide +kernel
theorem dL_node_10 : decode cL_node 10 = .ok (.i2l, 1) := by decide +kernel
theorem dL_node_11 : decode cL_node 11 = .ok (.lastore, 1) := by decide +kernel
theorem dL_node_12 : decode cL_node 12 = .ok (.goto 11, 3) := by decide +kernel
theorem dL_node_15 : decode cL_node 15 = .ok (.astore 5, 2) := by decide +kernel
theorem dL_node_17 : decode cL_node 17 = .ok (.iconst 1, 1) := by decide +kernel
theorem dL_node_18 : decode cL_node 18 = .ok (.ireturn, 1) := by decide +kernel
theorem dL_node_19 : decode cL_node 19 = .ok (.astore 5, 2) := by decide +kernel
theorem dL_node_21 : decode cL_node 21 = .ok (.iconst 2, 1) := by decide +kernel
theorem dL_node_22 : decode cL_node 22 = .ok (.ireturn, 1) := by decide +kernel
theorem dL_node_23 : decode cL_node 23 = .ok (.iconst 0, 1) := by decide +kernel
theorem dL_node_24 : decode cL_node 24 = .ok (.ireturn, 1) := by decide +kernel
set_option maxHeartbeats 4000000 in
set_option maxRecDepth 100000 in
theorem hp_node {l : Launch} (htr : l.stackTraces = false) {sg : Nat → Nat} {cA : Nat → ClassId} {D : va_G} {sz0 : Nat} {a1 a2 a3 : Int} {z : Int64} {M : Mem} {Q : Rs → Mem → Prop} (hcal : cald 8 cQ_node [oQ, .inl a1, .inl a2, .inl a3] M Q) (hes : ∀ e M', Q (.inr e) M' → e ∈ [4, 2]) : Met l yL_node (wWh yL_node cL_node 6 (some .int) [(0, 12, 15, 31), (0, 12, 19, 25)]) ({ frames := 17, cells := 2, slots := 12, locals := 750 }) (va_Pc [.ref (rho sz0 149), .int (Int32.ofInt a1), .int (Int32.ofInt a2), .int (Int32.ofInt a3), .ref (sz0 + 176)] (lPre sg cA D sz0 M z)) (va_Qi (lPost [4, 2] cvI Q) (lW cA D sz0) (Al sz0)) 2 12 (Al sz0) := by
  refine met_ofWH (cc := cL_node) (maxL := 6) (ret := some .int) (hh := [(0, 12, 15, 31), (0, 12, 19, 25)]) (by decide) rfl ?_
  intro p e s m args below meth c s₁ B9 hml htab hv
  obtain ⟨rfl, ⟨hP, hD, hsz, hfix⟩, hO, hnc⟩ := hv
  have hx := B9.exec
  have hb := B9.bytes
  have hr := B9.returns
  have hts0 := atoms_spec (ws := wWh yL_node cL_node 6 (some .int) [(0, 12, 15, 31), (0, 12, 19, 25)]) B9.pre
  have hts : ∀ w ∈ LW, w.before _ s = true := fun w hw => hts0 w (List.mem_cons_of_mem _ hw)
  have hown : s.vm.findClass RL = some m.cls := findClass_of_methodNamed B9.named
  have hlocks := B9.notSynchronized
  have hK := hfix.1
  have hS : va_S (Al sz0) s.heap s.heap [] := va_S.rf
  have hM := snd (ρ := rho sz0) (sg := sg) (cA := cA) (D := D) (sz0 := sz0) htr 8 cQ_node _ M Q hcal nQ_node rfl
  have hrv := va_recv hfix.1 hP (gCl_at 11 (by decide)) (wWs_ob (show wOb 149 = 11 + 1 from by decide +kernel))
  have hl := lv_entry ([.ref (rho sz0 149), .int (Int32.ofInt a1), .int (Int32.ofInt a2), .int (Int32.ofInt a3), .ref (sz0 + 176)]) (n := 6) (Nat.le_of_ble_eq_true rfl)
  rw [lg_entry_eq]
  generalize (lg_sl ([.ref (rho sz0 149), .int (Int32.ofInt a1), .int (Int32.ofInt a2), .int (Int32.ofInt a3), .ref (sz0 + 176)]) ++ List.replicate (6 - (lg_sl ([.ref (rho sz0 149), .int (Int32.ofInt a1), .int (Int32.ofInt a2), .int (Int32.ofInt a3), .ref (sz0 + 176)])).length) Slot.unset).toArray = ls at hl ⊢
  have hl : lv_has ls 6 [(0, .ref (rho sz0 149)), (1, .int (Int32.ofInt a1)), (2, .int (Int32.ofInt a2)), (3, .int (Int32.ofInt a3)), (4, .ref (sz0 + 176))] := hl
  refine lv_aload hx hb dL_node_0 (lv_at hl 4 rfl) ?_
  refine lv_iconst (v := 0) hx hb dL_node_2 (by decide) ?_
  refine lv_aload_n hx hb dL_node_3 rfl (lv_at hl 0 rfl) ?_
  refine lv_iload_n hx hb dL_node_4 rfl (lv_at hl 1 rfl) ?_
  refine lv_iload_n hx hb dL_node_5 rfl (lv_at hl 2 rfl) ?_
  refine lv_iload_n hx hb dL_node_6 rfl (lv_at hl 3 rfl) ?_
  refine vx_calli (vx_runV (As := [.int (Int32.ofInt a1), .int (Int32.ofInt a2), .int (Int32.ofInt a3)]) (rest := [.int 0, .ref (sz0 + 176)]) ⟨hx, hb, hml, hown, hts⟩ hM (cwV 3 hts (wsV_good wH_86 wH_87 wH_88 wH_3 wH_89) rfl rfl rfl (by decide +kernel) ⟨Nat.le_of_ble_eq_true rfl, Nat.le_of_ble_eq_true rfl⟩) ⟨wPic_blind, hrv, fun U hU hW => ⟨rfl, (by rw [hU]; exact hP), hD, (by rw [hU]; exact hsz), hfix.warm hW (fun q _ _ => by rw [hU])⟩⟩ rfl rfl hl.1 rfl (lv_room (Nat.le_of_ble_eq_true rfl)) dL_node_7 ⟨Nat.le_of_ble_eq_true rfl, Nat.le_of_ble_eq_true rfl⟩) hS (fun q _ h => h.1) (fun q h => h.1) (fun q _ h => h.1) (fun E ce q9 u t H1 locs1 ht hal hp hB hz1 hfr hS hce hv hcl => ?_) (fun r u t H1 locs1 ht hal hp hB hz1 hfr hS => ?_)
  · obtain ⟨e9, M1⟩ := u
    obtain ⟨hE, hB⟩ := hB
    dsimp only at hE hp hB
    subst hE
    rw [ht] at hB
    have hO1 := hO.kept hfr
    have hm := hes _ _ hp
    simp only [List.mem_cons, List.not_mem_nil, or_false] at hm
    rcases hm with rfl | rfl
    · refine vx_catch hown [] ⟨0, 12, 15, 31⟩ [⟨0, 12, 19, 25⟩] htab (fun z hz => absurd hz List.not_mem_nil) (by decide) (by decide) (hts _ wH_20) (va_Nw.use rfl (hfix.2.2.2.2.2.2.2.2.1 _ _ (lw_in5 _ (List.mem_of_getElem? (i := 38) (by decide +kernel))))) hce hv hcl ?_
      refine lv_astore (lv' := [(5, .ref q9), (0, .ref (rho sz0 149)), (1, .int (Int32.ofInt a1)), (2, .int (Int32.ofInt a2)), (3, .int (Int32.ofInt a3)), (4, .ref (sz0 + 176))]) hx hb dL_node_15 hl (by decide) rfl (fun ls hl => ?_)
      refine lv_iconst (v := Int32.ofInt ((0 + 1 : Nat) : Int)) hx hb dL_node_17 (by decide) ?_
      exact W.iret (v := Int32.ofInt ((0 + 1 : Nat) : Int)) hx hb hr (fun t2 ht2 hW => ⟨⟨_, (M1, z), rfl, Or.inr ⟨0, 4, rfl, rfl, hp⟩, (by rw [ht2]; exact hB), (by rw [ht2]; exact hO1)⟩, hS.F ht2⟩) hS.2.2 dL_node_18
    · refine vx_catch hown [⟨0, 12, 15, 31⟩] ⟨0, 12, 19, 25⟩ [] htab (List.forall_mem_cons.mpr ⟨Or.inr ⟨by decide, "java/lang/IndexOutOfBoundsException", hts _ wH_20, hnc ("java/lang/IllegalArgumentException", "java/lang/IndexOutOfBoundsException") (by decide +kernel)⟩, fun _ h => absurd h List.not_mem_nil⟩) (by decide) (by decide) (hts _ wH_15) (va_Nw.use rfl (hfix.2.2.2.2.2.2.2.2.1 _ _ (lw_in4 _ (List.mem_of_getElem? (i := 236) (by decide +kernel))))) hce hv hcl ?_
      refine lv_astore (lv' := [(5, .ref q9), (0, .ref (rho sz0 149)), (1, .int (Int32.ofInt a1)), (2, .int (Int32.ofInt a2)), (3, .int (Int32.ofInt a3)), (4, .ref (sz0 + 176))]) hx hb dL_node_19 hl (by decide) rfl (fun ls hl => ?_)
      refine lv_iconst (v := Int32.ofInt ((1 + 1 : Nat) : Int)) hx hb dL_node_21 (by decide) ?_
      exact W.iret (v := Int32.ofInt ((1 + 1 : Nat) : Int)) hx hb hr (fun t2 ht2 hW => ⟨⟨_, (M1, z), rfl, Or.inr ⟨1, 2, rfl, rfl, hp⟩, (by rw [ht2]; exact hB), (by rw [ht2]; exact hO1)⟩, hS.F ht2⟩) hS.2.2 dL_node_22
  · obtain ⟨x, rfl, hq⟩ := hp
    rw [ht] at hB
    have hO1 := hO.kept hfr
    refine lv_i2l hx hb dL_node_10 rfl ?_
    refine out_last hx hb hK hO1 hB hS dL_node_11 (fun H1 locs1 hO1 hB hS => ?_)
    refine lv_goto (tgt := 23) hx hb dL_node_12 (by decide) ?_
    refine lv_iconst (v := 0) hx hb dL_node_23 (by decide) ?_
    exact W.iret (v := 0) hx hb hr (fun t2 ht2 hW => ⟨⟨_, (u, cvI x), rfl, Or.inl ⟨x, rfl, hq, rfl⟩, (by rw [ht2]; exact hB), (by rw [ht2]; exact hO1)⟩, hS.F ht2⟩) hS.2.2 dL_node_24
theorem dL_way_0 : decode cL_way 0 = .ok (.aload 4, 2) := by decide +kernel
theorem dL_way_2 : decode cL_way 2 = .ok (.iconst 0, 1) := by decide +kernel
theorem dL_way_3 : decode cL_way 3 = .ok (.aload_n 0, 1) := by decide +kernel
theorem dL_way_4 : decode cL_way 4 = .ok (.iload_n 1, 1) := by decide +kernel
theorem dL_way_5 : decode cL_way 5 = .ok (.iload_n 2, 1) := by decide +kernel
theorem dL_way_6 : decode cL_way 6 = .ok (.iload_n 3, 1) := by decide +kernel
theorem dL_way_7 : decode cL_way 7 = .ok (.invokevirtual 89, 3) := by decide +kernel
theorem dL_way_10 : decode cL_way 10 = .ok (.i2l, 1) := by decide +kernel
theorem dL_way_11 : decode cL_way 11 = .ok (.lastore, 1) := by decide +kernel
theorem dL_way_12 : decode cL_way 12 = .ok (.goto 11, 3) := by decide +kernel
theorem dL_way_15 : decode cL_way 15 = .ok (.astore 5, 2) := by decide +kernel
theorem dL_way_17 : decode cL_way 17 = .ok (.iconst 1, 1) := by decide +kernel
theorem dL_way_18 : decode cL_way 18 = .ok (.ireturn, 1) := by decide +kernel
theorem dL_way_19 : decode cL_way 19 = .ok (.astore 5, 2) := by decide +kernel
theorem dL_way_21 : decode cL_way 21 = .ok (.iconst 2, 1) := by decide +kernel
theorem dL_way_22 : decode cL_way 22 = .ok (.ireturn, 1) := by decide +kernel
theorem dL_way_23 : decode cL_way 23 = .ok (.iconst 0, 1) := by decide +kernel
theorem dL_way_24 : decode cL_way 24 = .ok (.ireturn, 1) := by decide +kernel
set_option maxHeartbeats 4000000 in
set_option maxRecDepth 100000 in
theorem hp_way {l : Launch} (htr : l.stackTraces = false) {sg : Nat → Nat} {cA : Nat → ClassId} {D : va_G} {sz0 : Nat} {a1 a2 a3 : Int} {z : Int64} {M : Mem} {Q : Rs → Mem → Prop} (hcal : cald 8 cQ_way [oQ, .inl a1, .inl a2, .inl a3] M Q) (hes : ∀ e M', Q (.inr e) M' → e ∈ [4, 2]) : Met l yL_way (wWh yL_way cL_way 6 (some .int) [(0, 12, 15, 31), (0, 12, 19, 25)]) ({ frames := 17, cells := 2, slots := 12, locals := 750 }) (va_Pc [.ref (rho sz0 149), .int (Int32.ofInt a1), .int (Int32.ofInt a2), .int (Int32.ofInt a3), .ref (sz0 + 176)] (lPre sg cA D sz0 M z)) (va_Qi (lPost [4, 2] cvI Q) (lW cA D sz0) (Al sz0)) 2 12 (Al sz0) := by
  refine met_ofWH (cc := cL_way) (maxL := 6) (ret := some .int) (hh := [(0, 12, 15, 31), (0, 12, 19, 25)]) (by decide) rfl ?_
  intro p e s m args below meth c s₁ B9 hml htab hv
  obtain ⟨rfl, ⟨hP, hD, hsz, hfix⟩, hO, hnc⟩ := hv
  have hx := B9.exec
  have hb := B9.bytes
  have hr := B9.returns
  have hts0 := atoms_spec (ws := wWh yL_way cL_way 6 (some .int) [(0, 12, 15, 31), (0, 12, 19, 25)]) B9.pre
  have hts : ∀ w ∈ LW, w.before _ s = true := fun w hw => hts0 w (List.mem_cons_of_mem _ hw)
  have hown : s.vm.findClass RL = some m.cls := findClass_of_methodNamed B9.named
  have hlocks := B9.notSynchronized
  have hK := hfix.1
  have hS : va_S (Al sz0) s.heap s.heap [] := va_S.rf
  have hM := snd (ρ := rho sz0) (sg := sg) (cA := cA) (D := D) (sz0 := sz0) htr 8 cQ_way _ M Q hcal nQ_way rfl
  have hrv := va_recv hfix.1 hP (gCl_at 11 (by decide)) (wWs_ob (show wOb 149 = 11 + 1 from by decide +kernel))
  have hl := lv_entry ([.ref (rho sz0 149), .int (Int32.ofInt a1), .int (Int32.ofInt a2), .int (Int32.ofInt a3), .ref (sz0 + 176)]) (n := 6) (Nat.le_of_ble_eq_true rfl)
  rw [lg_entry_eq]
  generalize (lg_sl ([.ref (rho sz0 149), .int (Int32.ofInt a1), .int (Int32.ofInt a2), .int (Int32.ofInt a3), .ref (sz0 + 176)]) ++ List.replicate (6 - (lg_sl ([.ref (rho sz0 149), .int (Int32.ofInt a1), .int (Int32.ofInt a2), .int (Int32.ofInt a3), .ref (sz0 + 176)])).length) Slot.unset).toArray = ls at hl ⊢
  have hl : lv_has ls 6 [(0, .ref (rho sz0 149)), (1, .int (Int32.ofInt a1)), (2, .int (Int32.ofInt a2)), (3, .int (Int32.ofInt a3)), (4, .ref (sz0 + 176))] := hl
  refine lv_aload hx hb dL_way_0 (lv_at hl 4 rfl) ?_
  refine lv_iconst (v := 0) hx hb dL_way_2 (by decide) ?_
  refine lv_aload_n hx hb dL_way_3 rfl (lv_at hl 0 rfl) ?_
  refine lv_iload_n hx hb dL_way_4 rfl (lv_at hl 1 rfl) ?_
  refine lv_iload_n hx hb dL_way_5 rfl (lv_at hl 2 rfl) ?_
  refine lv_iload_n hx hb dL_way_6 rfl (lv_at hl 3 rfl) ?_
  refine vx_calli (vx_runV (As := [.int (Int32.ofInt a1), .int (Int32.ofInt a2), .int (Int32.ofInt a3)]) (rest := [.int 0, .ref (sz0 + 176)]) ⟨hx, hb, hml, hown, hts⟩ hM (cwV 3 hts (wsV_good wH_90 wH_91 wH_92 wH_3 wH_93) rfl rfl rfl (by decide +kernel) ⟨Nat.le_of_ble_eq_true rfl, Nat.le_of_ble_eq_true rfl⟩) ⟨wPic_blind, hrv, fun U hU hW => ⟨rfl, (by rw [hU]; exact hP), hD, (by rw [hU]; exact hsz), hfix.warm hW (fun q _ _ => by rw [hU])⟩⟩ rfl rfl hl.1 rfl (lv_room (Nat.le_of_ble_eq_true rfl)) dL_way_7 ⟨Nat.le_of_ble_eq_true rfl, Nat.le_of_ble_eq_true rfl⟩) hS (fun q _ h => h.1) (fun q h => h.1) (fun q _ h => h.1) (fun E ce q9 u t H1 locs1 ht hal hp hB hz1 hfr hS hce hv hcl => ?_) (fun r u t H1 locs1 ht hal hp hB hz1 hfr hS => ?_)
  · obtain ⟨e9, M1⟩ := u
    obtain ⟨hE, hB⟩ := hB
    dsimp only at hE hp hB
    subst hE
    rw [ht] at hB
    have hO1 := hO.kept hfr
    have hm := hes _ _ hp
    simp only [List.mem_cons, List.not_mem_nil, or_false] at hm
    rcases hm with rfl | rfl
    · refine vx_catch hown [] ⟨0, 12, 15, 31⟩ [⟨0, 12, 19, 25⟩] htab (fun z hz => absurd hz List.not_mem_nil) (by decide) (by decide) (hts _ wH_20) (va_Nw.use rfl (hfix.2.2.2.2.2.2.2.2.1 _ _ (lw_in5 _ (List.mem_of_getElem? (i := 38) (by decide +kernel))))) hce hv hcl ?_
      refine lv_astore (lv' := [(5, .ref q9), (0, .ref (rho sz0 149)), (1, .int (Int32.ofInt a1)), (2, .int (Int32.ofInt a2)), (3, .int (Int32.ofInt a3)), (4, .ref (sz0 + 176))]) hx hb dL_way_15 hl (by decide) rfl (fun ls hl => ?_)
      refine lv_iconst (v := Int32.ofInt ((0 + 1 : Nat) : Int)) hx hb dL_way_17 (by decide) ?_
      exact W.iret (v := Int32.ofInt ((0 + 1 : Nat) : Int)) hx hb hr (fun t2 ht2 hW => ⟨⟨_, (M1, z), rfl, Or.inr ⟨0, 4, rfl, rfl, hp⟩, (by rw [ht2]; exact hB), (by rw [ht2]; exact hO1)⟩, hS.F ht2⟩) hS.2.2 dL_way_18
    · refine vx_catch hown [⟨0, 12, 15, 31⟩] ⟨0, 12, 19, 25⟩ [] htab (List.forall_mem_cons.mpr ⟨Or.inr ⟨by decide, "java/lang/IndexOutOfBoundsException", hts _ wH_20, hnc ("java/lang/IllegalArgumentException", "java/lang/IndexOutOfBoundsException") (by decide +kernel)⟩, fun _ h => absurd h List.not_mem_nil⟩) (by decide) (by decide) (hts _ wH_15) (va_Nw.use rfl (hfix.2.2.2.2.2.2.2.2.1 _ _ (lw_in4 _ (List.mem_of_getElem? (i := 236) (by decide +kernel))))) hce hv hcl ?_
      refine lv_astore (lv' := [(5, .ref q9), (0, .ref (rho sz0 149)), (1, .int (Int32.ofInt a1)), (2, .int (Int32.ofInt a2)), (3, .int (Int32.ofInt a3)), (4, .ref (sz0 + 176))]) hx hb dL_way_19 hl (by decide) rfl (fun ls hl => ?_)
      refine lv_iconst (v := Int32.ofInt ((1 + 1 : Nat) : Int)) hx hb dL_way_21 (by decide) ?_
      exact W.iret (v := Int32.ofInt ((1 + 1 : Nat) : Int)) hx hb hr (fun t2 ht2 hW => ⟨⟨_, (M1, z), rfl, Or.inr ⟨1, 2, rfl, rfl, hp⟩, (by rw [ht2]; exact hB), (by rw [ht2]; exact hO1)⟩, hS.F ht2⟩) hS.2.2 dL_way_22
  · obtain ⟨x, rfl, hq⟩ := hp
    rw [ht] at hB
    have hO1 := hO.kept hfr
    refine lv_i2l hx hb dL_way_10 rfl ?_
    refine out_last hx hb hK hO1 hB hS dL_way_11 (fun H1 locs1 hO1 hB hS => ?_)
    refine lv_goto (tgt := 23) hx hb dL_way_12 (by decide) ?_
    refine lv_iconst (v := 0) hx hb dL_way_23 (by decide) ?_
    exact W.iret (v := 0) hx hb hr (fun t2 ht2 hW => ⟨⟨_, (u, cvI x), rfl, Or.inl ⟨x, rfl, hq, rfl⟩, (by rw [ht2]; exact hB), (by rw [ht2]; exact hO1)⟩, hS.F ht2⟩) hS.2.2 dL_way_24
theorem dL_rate_0 : decode cL_rate 0 = .ok (.aload_n 2, 1) := by decide +kernel
theorem dL_rate_1 : decode cL_rate 1 = .ok (.iconst 0, 1) := by decide +kernel
theorem dL_rate_2 : decode cL_rate 2 = .ok (.aload_n 0, 1) := by decide +kernel
theorem dL_rate_3 : decode cL_rate 3 = .ok (.iload_n 1, 1) := by decide +kernel
theorem dL_rate_4 : decode cL_rate 4 = .ok (.invokevirtual 92, 3) := by decide +kernel
theorem dL_rate_7 : decode cL_rate 7 = .ok (.i2l, 1) := by decide +kernel
theorem dL_rate_8 : decode cL_rate 8 = .ok (.lastore, 1) := by decide +kernel
theorem dL_rate_9 : decode cL_rate 9 = .ok (.goto 9, 3) := by decide +kernel
theorem dL_rate_12 : decode cL_rate 12 = .ok (.astore_n 3, 1) := by decide +kernel
theorem dL_rate_13 : decode cL_rate 13 = .ok (.iconst 1, 1) := by decide +kernel
theorem dL_rate_14 : decode cL_rate 14 = .ok (.ireturn, 1) := by decide +kernel
theorem dL_rate_15 : decode cL_rate 15 = .ok (.astore_n 3, 1) := by decide +kernel
theorem dL_rate_16 : decode cL_rate 16 = .ok (.iconst 2, 1) := by decide +kernel
theorem dL_rate_17 : decode cL_rate 17 = .ok (.ireturn, 1) := by decide +kernel
theorem dL_rate_18 : decode cL_rate 18 = .ok (.iconst 0, 1) := by decide +kernel
theorem dL_rate_19 : decode cL_rate 19 = .ok (.ireturn, 1) := by decide +kernel
set_option maxHeartbeats 4000000 in
set_option maxRecDepth 100000 in
theorem hp_rate {l : Launch} (htr : l.stackTraces = false) {sg : Nat → Nat} {cA : Nat → ClassId} {D : va_G} {sz0 : Nat} {a1 : Int} {z : Int64} {M : Mem} {Q : Rs → Mem → Prop} (hcal : cald 8 cQ_rate [oQ, .inl a1] M Q) (hes : ∀ e M', Q (.inr e) M' → e ∈ [4, 5]) : Met l yL_rate (wWh yL_rate cL_rate 4 (some .int) [(0, 9, 12, 31), (0, 9, 15, 43)]) ({ frames := 17, cells := 2, slots := 12, locals := 750 }) (va_Pc [.ref (rho sz0 149), .int (Int32.ofInt a1), .ref (sz0 + 176)] (lPre sg cA D sz0 M z)) (va_Qi (lPost [4, 5] cvI Q) (lW cA D sz0) (Al sz0)) 2 12 (Al sz0) := by
  refine met_ofWH (cc := cL_rate) (maxL := 4) (ret := some .int) (hh := [(0, 9, 12, 31), (0, 9, 15, 43)]) (by decide) rfl ?_
  intro p e s m args below meth c s₁ B9 hml htab hv
  obtain ⟨rfl, ⟨hP, hD, hsz, hfix⟩, hO, hnc⟩ := hv
  have hx := B9.exec
  have hb := B9.bytes
  have hr := B9.returns
  have hts0 := atoms_spec (ws := wWh yL_rate cL_rate 4 (some .int) [(0, 9, 12, 31), (0, 9, 15, 43)]) B9.pre
  have hts : ∀ w ∈ LW, w.before _ s = true := fun w hw => hts0 w (List.mem_cons_of_mem _ hw)
  have hown : s.vm.findClass RL = some m.cls := findClass_of_methodNamed B9.named
  have hlocks := B9.notSynchronized
  have hK := hfix.1
  have hS : va_S (Al sz0) s.heap s.heap [] := va_S.rf
  have hM := snd (ρ := rho sz0) (sg := sg) (cA := cA) (D := D) (sz0 := sz0) htr 8 cQ_rate _ M Q hcal nQ_rate rfl
  have hrv := va_recv hfix.1 hP (gCl_at 11 (by decide)) (wWs_ob (show wOb 149 = 11 + 1 from by decide +kernel))
  have hl := lv_entry ([.ref (rho sz0 149), .int (Int32.ofInt a1), .ref (sz0 + 176)]) (n := 4) (Nat.le_of_ble_eq_true rfl)
  rw [lg_entry_eq]
  generalize (lg_sl ([.ref (rho sz0 149), .int (Int32.ofInt a1), .ref (sz0 + 176)]) ++ List.replicate (4 - (lg_sl ([.ref (rho sz0 149), .int (Int32.ofInt a1), .ref (sz0 + 176)])).length) Slot.unset).toArray = ls at hl ⊢
  have hl : lv_has ls 4 [(0, .ref (rho sz0 149)), (1, .int (Int32.ofInt a1)), (2, .ref (sz0 + 176))] := hl
  refine lv_aload_n hx hb dL_rate_0 rfl (lv_at hl 2 rfl) ?_
  refine lv_iconst (v := 0) hx hb dL_rate_1 (by decide) ?_
  refine lv_aload_n hx hb dL_rate_2 rfl (lv_at hl 0 rfl) ?_
  refine lv_iload_n hx hb dL_rate_3 rfl (lv_at hl 1 rfl) ?_
  refine vx_calli (vx_runV (As := [.int (Int32.ofInt a1)]) (rest := [.int 0, .ref (sz0 + 176)]) ⟨hx, hb, hml, hown, hts⟩ hM (cwV 1 hts (wsV_good wH_94 wH_95 wH_96 wH_3 wH_97) rfl rfl rfl (by decide +kernel) ⟨Nat.le_of_ble_eq_true rfl, Nat.le_of_ble_eq_true rfl⟩) ⟨wPic_blind, hrv, fun U hU hW => ⟨rfl, (by rw [hU]; exact hP), hD, (by rw [hU]; exact hsz), hfix.warm hW (fun q _ _ => by rw [hU])⟩⟩ rfl rfl hl.1 rfl (lv_room (Nat.le_of_ble_eq_true rfl)) dL_rate_4 ⟨Nat.le_of_ble_eq_true rfl, Nat.le_of_ble_eq_true rfl⟩) hS (fun q _ h => h.1) (fun q h => h.1) (fun q _ h => h.1) (fun E ce q9 u t H1 locs1 ht hal hp hB hz1 hfr hS hce hv hcl => ?_) (fun r u t H1 locs1 ht hal hp hB hz1 hfr hS => ?_)
  · obtain ⟨e9, M1⟩ := u
    obtain ⟨hE, hB⟩ := hB
    dsimp only at hE hp hB
    subst hE
    rw [ht] at hB
    have hO1 := hO.kept hfr
    have hm := hes _ _ hp
    simp only [List.mem_cons, List.not_mem_nil, or_false] at hm
    rcases hm with rfl | rfl
    · refine vx_catch hown [] ⟨0, 9, 12, 31⟩ [⟨0, 9, 15, 43⟩] htab (fun z hz => absurd hz List.not_mem_nil) (by decide) (by decide) (hts _ wH_20) (va_Nw.use rfl (hfix.2.2.2.2.2.2.2.2.1 _ _ (lw_in5 _ (List.mem_of_getElem? (i := 38) (by decide +kernel))))) hce hv hcl ?_
      refine lv_astore_n (lv' := [(3, .ref q9), (0, .ref (rho sz0 149)), (1, .int (Int32.ofInt a1)), (2, .ref (sz0 + 176))]) hx hb dL_rate_12 rfl hl (by decide) rfl (fun ls hl => ?_)
      refine lv_iconst (v := Int32.ofInt ((0 + 1 : Nat) : Int)) hx hb dL_rate_13 (by decide) ?_
      exact W.iret (v := Int32.ofInt ((0 + 1 : Nat) : Int)) hx hb hr (fun t2 ht2 hW => ⟨⟨_, (M1, z), rfl, Or.inr ⟨0, 4, rfl, rfl, hp⟩, (by rw [ht2]; exact hB), (by rw [ht2]; exact hO1)⟩, hS.F ht2⟩) hS.2.2 dL_rate_14
    · refine vx_catch hown [⟨0, 9, 12, 31⟩] ⟨0, 9, 15, 43⟩ [] htab (List.forall_mem_cons.mpr ⟨Or.inr ⟨by decide, "java/lang/IndexOutOfBoundsException", hts _ wH_20, hnc ("java/util/NoSuchElementException", "java/lang/IndexOutOfBoundsException") (by decide +kernel)⟩, fun _ h => absurd h List.not_mem_nil⟩) (by decide) (by decide) (hts _ wH_33) (va_Nw.use rfl (hfix.2.2.2.2.2.2.2.2.1 _ _ (lw_in5 _ (List.mem_of_getElem? (i := 100) (by decide +kernel))))) hce hv hcl ?_
      refine lv_astore_n (lv' := [(3, .ref q9), (0, .ref (rho sz0 149)), (1, .int (Int32.ofInt a1)), (2, .ref (sz0 + 176))]) hx hb dL_rate_15 rfl hl (by decide) rfl (fun ls hl => ?_)
      refine lv_iconst (v := Int32.ofInt ((1 + 1 : Nat) : Int)) hx hb dL_rate_16 (by decide) ?_
      exact W.iret (v := Int32.ofInt ((1 + 1 : Nat) : Int)) hx hb hr (fun t2 ht2 hW => ⟨⟨_, (M1, z), rfl, Or.inr ⟨1, 5, rfl, rfl, hp⟩, (by rw [ht2]; exact hB), (by rw [ht2]; exact hO1)⟩, hS.F ht2⟩) hS.2.2 dL_rate_17
  · obtain ⟨x, rfl, hq⟩ := hp
    rw [ht] at hB
    have hO1 := hO.kept hfr
    refine lv_i2l hx hb dL_rate_7 rfl ?_
    refine out_last hx hb hK hO1 hB hS dL_rate_8 (fun H1 locs1 hO1 hB hS => ?_)
    refine lv_goto (tgt := 18) hx hb dL_rate_9 (by decide) ?_
    refine lv_iconst (v := 0) hx hb dL_rate_18 (by decide) ?_
    exact W.iret (v := 0) hx hb hr (fun t2 ht2 hW => ⟨⟨_, (u, cvI x), rfl, Or.inl ⟨x, rfl, hq, rfl⟩, (by rw [ht2]; exact hB), (by rw [ht2]; exact hO1)⟩, hS.F ht2⟩) hS.2.2 dL_rate_19
theorem dL_isStable_0 : decode cL_isStable 0 = .ok (.aload_n 2, 1) := by decide +kernel
theorem dL_isStable_1 : decode cL_isStable 1 = .ok (.iconst 0, 1) := by decide +kernel
theorem dL_isStable_2 : decode cL_isStable 2 = .ok (.aload_n 0, 1) := by decide +kernel
theorem dL_isStable_3 : decode cL_isStable 3 = .ok (.iload_n 1, 1) := by decide +kernel
theorem dL_isStable_4 : decode cL_isStable 4 = .ok (.invokevirtual 95, 3) := by decide +kernel
theorem dL_isStable_7 : decode cL_isStable 7 = .ok (.ifCond .eq 7, 3) := by decide +kernel
theorem dL_isStable_10 : decode cL_isStable 10 = .ok (.lconst 1, 1) := by decide +kernel
theorem dL_isStable_11 : decode cL_isStable 11 = .ok (.goto 4, 3) := by decide +kernel
theorem dL_isStable_14 : decode cL_isStable 14 = .ok (.lconst 0, 1) := by decide +kernel
theorem dL_isStable_15 : decode cL_isStable 15 = .ok (.lastore, 1) := by decide +kernel
theorem dL_isStable_16 : decode cL_isStable 16 = .ok (.goto 9, 3) := by decide +kernel
theorem dL_isStable_19 : decode cL_isStable 19 = .ok (.astore_n 3, 1) := by decide +kernel
theorem dL_isStable_20 : decode cL_isStable 20 = .ok (.iconst 1, 1) := by decide +kernel
theorem dL_isStable_21 : decode cL_isStable 21 = .ok (.ireturn, 1) := by decide +kernel
theorem dL_isStable_22 : decode cL_isStable 22 = .ok (.astore_n 3, 1) := by decide +kernel
theorem dL_isStable_23 : decode cL_isStable 23 = .ok (.iconst 2, 1) := by decide +kernel
theorem dL_isStable_24 : decode cL_isStable 24 = .ok (.ireturn, 1) := by decide +kernel
theorem dL_isStable_25 : decode cL_isStable 25 = .ok (.iconst 0, 1) := by decide +kernel
theorem dL_isStable_26 : decode cL_isStable 26 = .ok (.ireturn, 1) := by decide +kernel
set_option maxHeartbeats 4000000 in
set_option maxRecDepth 100000 in
theorem hp_isStable {l : Launch} (htr : l.stackTraces = false) {sg : Nat → Nat} {cA : Nat → ClassId} {D : va_G} {sz0 : Nat} {a1 : Int} {z : Int64} {M : Mem} {Q : Rs → Mem → Prop} (hcal : cald 8 cQ_isStable [oQ, .inl a1] M Q) (hes : ∀ e M', Q (.inr e) M' → e ∈ [4, 5]) : Met l yL_isStable (wWh yL_isStable cL_isStable 4 (some .int) [(0, 16, 19, 31), (0, 16, 22, 43)]) ({ frames := 17, cells := 2, slots := 12, locals := 750 }) (va_Pc [.ref (rho sz0 149), .int (Int32.ofInt a1), .ref (sz0 + 176)] (lPre sg cA D sz0 M z)) (va_Qi (lPost [4, 5] cvB Q) (lW cA D sz0) (Al sz0)) 2 12 (Al sz0) := by
  refine met_ofWH (cc := cL_isStable) (maxL := 4) (ret := some .int) (hh := [(0, 16, 19, 31), (0, 16, 22, 43)]) (by decide) rfl ?_
  intro p e s m args below meth c s₁ B9 hml htab hv
  obtain ⟨rfl, ⟨hP, hD, hsz, hfix⟩, hO, hnc⟩ := hv
  have hx := B9.exec
  have hb := B9.bytes
  have hr := B9.returns
  have hts0 := atoms_spec (ws := wWh yL_isStable cL_isStable 4 (some .int) [(0, 16, 19, 31), (0, 16, 22, 43)]) B9.pre
  have hts : ∀ w ∈ LW, w.before _ s = true := fun w hw => hts0 w (List.mem_cons_of_mem _ hw)
  have hown : s.vm.findClass RL = some m.cls := findClass_of_methodNamed B9.named
  have hlocks := B9.notSynchronized
  have hK := hfix.1
  have hS : va_S (Al sz0) s.heap s.heap [] := va_S.rf
  have hM := snd (ρ := rho sz0) (sg := sg) (cA := cA) (D := D) (sz0 := sz0) htr 8 cQ_isStable _ M Q hcal nQ_isStable rfl
  have hrv := va_recv hfix.1 hP (gCl_at 11 (by decide)) (wWs_ob (show wOb 149 = 11 + 1 from by decide +kernel))
  have hl := lv_entry ([.ref (rho sz0 149), .int (Int32.ofInt a1), .ref (sz0 + 176)]) (n := 4) (Nat.le_of_ble_eq_true rfl)
  rw [lg_entry_eq]
  generalize (lg_sl ([.ref (rho sz0 149), .int (Int32.ofInt a1), .ref (sz0 + 176)]) ++ List.replicate (4 - (lg_sl ([.ref (rho sz0 149), .int (Int32.ofInt a1), .ref (sz0 + 176)])).length) Slot.unset).toArray = ls at hl ⊢
  have hl : lv_has ls 4 [(0, .ref (rho sz0 149)), (1, .int (Int32.ofInt a1)), (2, .ref (sz0 + 176))] := hl
  refine lv_aload_n hx hb dL_isStable_0 rfl (lv_at hl 2 rfl) ?_
  refine lv_iconst (v := 0) hx hb dL_isStable_1 (by decide) ?_
  refine lv_aload_n hx hb dL_isStable_2 rfl (lv_at hl 0 rfl) ?_
  refine lv_iload_n hx hb dL_isStable_3 rfl (lv_at hl 1 rfl) ?_
  refine vx_calli (vx_runV (As := [.int (Int32.ofInt a1)]) (rest := [.int 0, .ref (sz0 + 176)]) ⟨hx, hb, hml, hown, hts⟩ hM (cwV 1 hts (wsV_good wH_98 wH_99 wH_100 wH_3 wH_101) rfl rfl rfl (by decide +kernel) ⟨Nat.le_of_ble_eq_true rfl, Nat.le_of_ble_eq_true rfl⟩) ⟨wPic_blind, hrv, fun U hU hW => ⟨rfl, (by rw [hU]; exact hP), hD, (by rw [hU]; exact hsz), hfix.warm hW (fun q _ _ => by rw [hU])⟩⟩ rfl rfl hl.1 rfl (lv_room (Nat.le_of_ble_eq_true rfl)) dL_isStable_4 ⟨Nat.le_of_ble_eq_true rfl, Nat.le_of_ble_eq_true rfl⟩) hS (fun q _ h => h.1) (fun q h => h.1) (fun q _ h => h.1) (fun E ce q9 u t H1 locs1 ht hal hp hB hz1 hfr hS hce hv hcl => ?_) (fun r u t H1 locs1 ht hal hp hB hz1 hfr hS => ?_)
  · obtain ⟨e9, M1⟩ := u
    obtain ⟨hE, hB⟩ := hB
    dsimp only at hE hp hB
    subst hE
    rw [ht] at hB
    have hO1 := hO.kept hfr
    have hm := hes _ _ hp
    simp only [List.mem_cons, List.not_mem_nil, or_false] at hm
    rcases hm with rfl | rfl
    · refine vx_catch hown [] ⟨0, 16, 19, 31⟩ [⟨0, 16, 22, 43⟩] htab (fun z hz => absurd hz List.not_mem_nil) (by decide) (by decide) (hts _ wH_20) (va_Nw.use rfl (hfix.2.2.2.2.2.2.2.2.1 _ _ (lw_in5 _ (List.mem_of_getElem? (i := 38) (by decide +kernel))))) hce hv hcl ?_
      refine lv_astore_n (lv' := [(3, .ref q9), (0, .ref (rho sz0 149)), (1, .int (Int32.ofInt a1)), (2, .ref (sz0 + 176))]) hx hb dL_isStable_19 rfl hl (by decide) rfl (fun ls hl => ?_)
      refine lv_iconst (v := Int32.ofInt ((0 + 1 : Nat) : Int)) hx hb dL_isStable_20 (by decide) ?_
      exact W.iret (v := Int32.ofInt ((0 + 1 : Nat) : Int)) hx hb hr (fun t2 ht2 hW => ⟨⟨_, (M1, z), rfl, Or.inr ⟨0, 4, rfl, rfl, hp⟩, (by rw [ht2]; exact hB), (by rw [ht2]; exact hO1)⟩, hS.F ht2⟩) hS.2.2 dL_isStable_21
    · refine vx_catch hown [⟨0, 16, 19, 31⟩] ⟨0, 16, 22, 43⟩ [] htab (List.forall_mem_cons.mpr ⟨Or.inr ⟨by decide, "java/lang/IndexOutOfBoundsException", hts _ wH_20, hnc ("java/util/NoSuchElementException", "java/lang/IndexOutOfBoundsException") (by decide +kernel)⟩, fun _ h => absurd h List.not_mem_nil⟩) (by decide) (by decide) (hts _ wH_33) (va_Nw.use rfl (hfix.2.2.2.2.2.2.2.2.1 _ _ (lw_in5 _ (List.mem_of_getElem? (i := 100) (by decide +kernel))))) hce hv hcl ?_
      refine lv_astore_n (lv' := [(3, .ref q9), (0, .ref (rho sz0 149)), (1, .int (Int32.ofInt a1)), (2, .ref (sz0 + 176))]) hx hb dL_isStable_22 rfl hl (by decide) rfl (fun ls hl => ?_)
      refine lv_iconst (v := Int32.ofInt ((1 + 1 : Nat) : Int)) hx hb dL_isStable_23 (by decide) ?_
      exact W.iret (v := Int32.ofInt ((1 + 1 : Nat) : Int)) hx hb hr (fun t2 ht2 hW => ⟨⟨_, (M1, z), rfl, Or.inr ⟨1, 5, rfl, rfl, hp⟩, (by rw [ht2]; exact hB), (by rw [ht2]; exact hO1)⟩, hS.F ht2⟩) hS.2.2 dL_isStable_24
  · obtain ⟨x, rfl, hq⟩ := hp
    rw [ht] at hB
    have hO1 := hO.kept hfr
    refine lv_if_eq (tgt := 14) hx hb dL_isStable_7 (by decide) (fun h => ?_) (fun h => ?_)
    · refine lv_lconst (v := 0) hx hb dL_isStable_14 (by decide) ?_
      refine out_last hx hb hK hO1 hB hS dL_isStable_15 (fun H1 locs1 hO1 hB hS => ?_)
      refine lv_goto (tgt := 25) hx hb dL_isStable_16 (by decide) ?_
      refine lv_iconst (v := 0) hx hb dL_isStable_25 (by decide) ?_
      exact W.iret (v := 0) hx hb hr (fun t2 ht2 hW => ⟨⟨_, (u, 0), rfl, Or.inl ⟨x, rfl, hq, (if_pos h).symm⟩, (by rw [ht2]; exact hB), (by rw [ht2]; exact hO1)⟩, hS.F ht2⟩) hS.2.2 dL_isStable_26
    · refine lv_lconst (v := 1) hx hb dL_isStable_10 (by decide) ?_
      refine lv_goto (tgt := 15) hx hb dL_isStable_11 (by decide) ?_
      refine out_last hx hb hK hO1 hB hS dL_isStable_15 (fun H1 locs1 hO1 hB hS => ?_)
      refine lv_goto (tgt := 25) hx hb dL_isStable_16 (by decide) ?_
      refine lv_iconst (v := 0) hx hb dL_isStable_25 (by decide) ?_
      exact W.iret (v := 0) hx hb hr (fun t2 ht2 hW => ⟨⟨_, (u, 1), rfl, Or.inl ⟨x, rfl, hq, (if_neg h).symm⟩, (by rw [ht2]; exact hB), (by rw [ht2]; exact hO1)⟩, hS.F ht2⟩) hS.2.2 dL_isStable_26
theorem dL_numbers_0 : decode cL_numbers 0 = .ok (.aload_n 3, 1) := by decide +kernel
theorem dL_numbers_1 : decode cL_numbers 1 = .ok (.iconst 0, 1) := by decide +kernel
theorem dL_numbers_2 : decode cL_numbers 2 = .ok (.aload_n 0, 1) := by decide +kernel
theorem dL_numbers_3 : decode cL_numbers 3 = .ok (.iload_n 1, 1) := by decide +kernel
theorem dL_numbers_4 : decode cL_numbers 4 = .ok (.iload_n 2, 1) := by decide +kernel
theorem dL_numbers_5 : decode cL_numbers 5 = .ok (.invokevirtual 99, 3) := by decide +kernel
theorem dL_numbers_8 : decode cL_numbers 8 = .ok (.i2l, 1) := by decide +kernel
theorem dL_numbers_9 : decode cL_numbers 9 = .ok (.lastore, 1) := by decide +kernel
theorem dL_numbers_10 : decode cL_numbers 10 = .ok (.goto 15, 3) := by decide +kernel
theorem dL_numbers_13 : decode cL_numbers 13 = .ok (.astore 4, 2) := by decide +kernel
theorem dL_numbers_15 : decode cL_numbers 15 = .ok (.iconst 1, 1) := by decide +kernel
theorem dL_numbers_16 : decode cL_numbers 16 = .ok (.ireturn, 1) := by decide +kernel
theorem dL_numbers_17 : decode cL_numbers 17 = .ok (.astore 4, 2) := by decide +kernel
theorem dL_numbers_19 : decode cL_numbers 19 = .ok (.iconst 2, 1) := by decide +kernel
theorem dL_numbers_20 : decode cL_numbers 20 = .ok (.ireturn, 1) := by decide +kernel
theorem dL_numbers_21 : decode cL_numbers 21 = .ok (.astore 4, 2) := by decide +kernel
theorem dL_numbers_23 : decode cL_numbers 23 = .ok (.iconst 3, 1) := by decide +kernel
theorem dL_numbers_24 : decode cL_numbers 24 = .ok (.ireturn, 1) := by decide +kernel
theorem dL_numbers_25 : decode cL_numbers 25 = .ok (.iconst 0, 1) := by decide +kernel
theorem dL_numbers_26 : decode cL_numbers 26 = .ok (.ireturn, 1) := by decide +kernel
set_option maxHeartbeats 4000000 in
set_option maxRecDepth 100000 in
theorem hp_numbers {l : Launch} (htr : l.stackTraces = false) {sg : Nat → Nat} {cA : Nat → ClassId} {D : va_G} {sz0 : Nat} {a1 a2 : Int} {z : Int64} {M : Mem} {Q : Rs → Mem → Prop} (hcal : cald 8 cQ_numbers [oQ, .inl a1, .inl a2] M Q) (hes : ∀ e M', Q (.inr e) M' → e ∈ [4, 2, 5]) : Met l yL_numbers (wWh yL_numbers cL_numbers 5 (some .int) [(0, 10, 13, 31), (0, 10, 17, 25), (0, 10, 21, 43)]) ({ frames := 17, cells := 3, slots := 18, locals := 750 }) (va_Pc [.ref (rho sz0 149), .int (Int32.ofInt a1), .int (Int32.ofInt a2), .ref (sz0 + 176)] (lPre sg cA D sz0 M z)) (va_Qi (lPost [4, 2, 5] cvI Q) (lW cA D sz0) (Al sz0)) 3 18 (Al sz0) := by
  refine met_ofWH (cc := cL_numbers) (maxL := 5) (ret := some .int) (hh := [(0, 10, 13, 31), (0, 10, 17, 25), (0, 10, 21, 43)]) (by decide) rfl ?_
  intro p e s m args below meth c s₁ B9 hml htab hv
  obtain ⟨rfl, ⟨hP, hD, hsz, hfix⟩, hO, hnc⟩ := hv
  have hx := B9.exec
  have hb := B9.bytes
  have hr := B9.returns
  have hts0 := atoms_spec (ws := wWh yL_numbers cL_numbers 5 (some .int) [(0, 10, 13, 31), (0, 10, 17, 25), (0, 10, 21, 43)]) B9.pre
  have hts : ∀ w ∈ LW, w.before _ s = true := fun w hw => hts0 w (List.mem_cons_of_mem _ hw)
  have hown : s.vm.findClass RL = some m.cls := findClass_of_methodNamed B9.named
  have hlocks := B9.notSynchronized
  have hK := hfix.1
  have hS : va_S (Al sz0) s.heap s.heap [] := va_S.rf
  have hM := snd (ρ := rho sz0) (sg := sg) (cA := cA) (D := D) (sz0 := sz0) htr 8 cQ_numbers _ M Q hcal nQ_numbers rfl
  have hrv := va_recv hfix.1 hP (gCl_at 11 (by decide)) (wWs_ob (show wOb 149 = 11 + 1 from by decide +kernel))
  have hl := lv_entry ([.ref (rho sz0 149), .int (Int32.ofInt a1), .int (Int32.ofInt a2), .ref (sz0 + 176)]) (n := 5) (Nat.le_of_ble_eq_true rfl)
  rw [lg_entry_eq]
  generalize (lg_sl ([.ref (rho sz0 149), .int (Int32.ofInt a1), .int (Int32.ofInt a2), .ref (sz0 + 176)]) ++ List.replicate (5 - (lg_sl ([.ref (rho sz0 149), .int (Int32.ofInt a1), .int (Int32.ofInt a2), .ref (sz0 + 176)])).length) Slot.unset).toArray = ls at hl ⊢
  have hl : lv_has ls 5 [(0, .ref (rho sz0 149)), (1, .int (Int32.ofInt a1)), (2, .int (Int32.ofInt a2)), (3, .ref (sz0 + 176))] := hl
  refine lv_aload_n hx hb dL_numbers_0 rfl (lv_at hl 3 rfl) ?_
  refine lv_iconst (v := 0) hx hb dL_numbers_1 (by decide) ?_
  refine lv_aload_n hx hb dL_numbers_2 rfl (lv_at hl 0 rfl) ?_
  refine lv_iload_n hx hb dL_numbers_3 rfl (lv_at hl 1 rfl) ?_
  refine lv_iload_n hx hb dL_numbers_4 rfl (lv_at hl 2 rfl) ?_
  refine vx_calli (vx_runV (As := [.int (Int32.ofInt a1), .int (Int32.ofInt a2)]) (rest := [.int 0, .ref (sz0 + 176)]) ⟨hx, hb, hml, hown, hts⟩ hM (cwV 2 hts (wsV_good wH_102 wH_103 wH_104 wH_3 wH_105) rfl rfl rfl (by decide +kernel) ⟨Nat.le_of_ble_eq_true rfl, Nat.le_of_ble_eq_true rfl⟩) ⟨wPic_blind, hrv, fun U hU hW => ⟨rfl, (by rw [hU]; exact hP), hD, (by rw [hU]; exact hsz), hfix.warm hW (fun q _ _ => by rw [hU])⟩⟩ rfl rfl hl.1 rfl (lv_room (Nat.le_of_ble_eq_true rfl)) dL_numbers_5 ⟨Nat.le_of_ble_eq_true rfl, Nat.le_of_ble_eq_true rfl⟩) hS (fun q _ h => h.1) (fun q h => h.1) (fun q _ h => h.1) (fun E ce q9 u t H1 locs1 ht hal hp hB hz1 hfr hS hce hv hcl => ?_) (fun r u t H1 locs1 ht hal hp hB hz1 hfr hS => ?_)
  · obtain ⟨e9, M1⟩ := u
    obtain ⟨hE, hB⟩ := hB
    dsimp only at hE hp hB
    subst hE
    rw [ht] at hB
    have hO1 := hO.kept hfr
    have hm := hes _ _ hp
    simp only [List.mem_cons, List.not_mem_nil, or_false] at hm
    rcases hm with rfl | rfl | rfl
    · refine vx_catch hown [] ⟨0, 10, 13, 31⟩ [⟨0, 10, 17, 25⟩, ⟨0, 10, 21, 43⟩] htab (fun z hz => absurd hz List.not_mem_nil) (by decide) (by decide) (hts _ wH_20) (va_Nw.use rfl (hfix.2.2.2.2.2.2.2.2.1 _ _ (lw_in5 _ (List.mem_of_getElem? (i := 38) (by decide +kernel))))) hce hv hcl ?_
      refine lv_astore (lv' := [(4, .ref q9), (0, .ref (rho sz0 149)), (1, .int (Int32.ofInt a1)), (2, .int (Int32.ofInt a2)), (3, .ref (sz0 + 176))]) hx hb dL_numbers_13 hl (by decide) rfl (fun ls hl => ?_)
      refine lv_iconst (v := Int32.ofInt ((0 + 1 : Nat) : Int)) hx hb dL_numbers_15 (by decide) ?_
      exact W.iret (v := Int32.ofInt ((0 + 1 : Nat) : Int)) hx hb hr (fun t2 ht2 hW => ⟨⟨_, (M1, z), rfl, Or.inr ⟨0, 4, rfl, rfl, hp⟩, (by rw [ht2]; exact hB), (by rw [ht2]; exact hO1)⟩, hS.F ht2⟩) hS.2.2 dL_numbers_16
    · refine vx_catch hown [⟨0, 10, 13, 31⟩] ⟨0, 10, 17, 25⟩ [⟨0, 10, 21, 43⟩] htab (List.forall_mem_cons.mpr ⟨Or.inr ⟨by decide, "java/lang/IndexOutOfBoundsException", hts _ wH_20, hnc ("java/lang/IllegalArgumentException", "java/lang/IndexOutOfBoundsException") (by decide +kernel)⟩, fun _ h => absurd h List.not_mem_nil⟩) (by decide) (by decide) (hts _ wH_15) (va_Nw.use rfl (hfix.2.2.2.2.2.2.2.2.1 _ _ (lw_in4 _ (List.mem_of_getElem? (i := 236) (by decide +kernel))))) hce hv hcl ?_
      refine lv_astore (lv' := [(4, .ref q9), (0, .ref (rho sz0 149)), (1, .int (Int32.ofInt a1)), (2, .int (Int32.ofInt a2)), (3, .ref (sz0 + 176))]) hx hb dL_numbers_17 hl (by decide) rfl (fun ls hl => ?_)
      refine lv_iconst (v := Int32.ofInt ((1 + 1 : Nat) : Int)) hx hb dL_numbers_19 (by decide) ?_
      exact W.iret (v := Int32.ofInt ((1 + 1 : Nat) : Int)) hx hb hr (fun t2 ht2 hW => ⟨⟨_, (M1, z), rfl, Or.inr ⟨1, 2, rfl, rfl, hp⟩, (by rw [ht2]; exact hB), (by rw [ht2]; exact hO1)⟩, hS.F ht2⟩) hS.2.2 dL_numbers_20
    · refine vx_catch hown [⟨0, 10, 13, 31⟩, ⟨0, 10, 17, 25⟩] ⟨0, 10, 21, 43⟩ [] htab (List.forall_mem_cons.mpr ⟨Or.inr ⟨by decide, "java/lang/IndexOutOfBoundsException", hts _ wH_20, hnc ("java/util/NoSuchElementException", "java/lang/IndexOutOfBoundsException") (by decide +kernel)⟩, List.forall_mem_cons.mpr ⟨Or.inr ⟨by decide, "java/lang/IllegalArgumentException", hts _ wH_15, hnc ("java/util/NoSuchElementException", "java/lang/IllegalArgumentException") (by decide +kernel)⟩, fun _ h => absurd h List.not_mem_nil⟩⟩) (by decide) (by decide) (hts _ wH_33) (va_Nw.use rfl (hfix.2.2.2.2.2.2.2.2.1 _ _ (lw_in5 _ (List.mem_of_getElem? (i := 100) (by decide +kernel))))) hce hv hcl ?_
      refine lv_astore (lv' := [(4, .ref q9), (0, .ref (rho sz0 149)), (1, .int (Int32.ofInt a1)), (2, .int (Int32.ofInt a2)), (3, .ref (sz0 + 176))]) hx hb dL_numbers_21 hl (by decide) rfl (fun ls hl => ?_)
      refine lv_iconst (v := Int32.ofInt ((2 + 1 : Nat) : Int)) hx hb dL_numbers_23 (by decide) ?_
      exact W.iret (v := Int32.ofInt ((2 + 1 : Nat) : Int)) hx hb hr (fun t2 ht2 hW => ⟨⟨_, (M1, z), rfl, Or.inr ⟨2, 5, rfl, rfl, hp⟩, (by rw [ht2]; exact hB), (by rw [ht2]; exact hO1)⟩, hS.F ht2⟩) hS.2.2 dL_numbers_24
  · obtain ⟨x, rfl, hq⟩ := hp
    rw [ht] at hB
    have hO1 := hO.kept hfr
    refine lv_i2l hx hb dL_numbers_8 rfl ?_
    refine out_last hx hb hK hO1 hB hS dL_numbers_9 (fun H1 locs1 hO1 hB hS => ?_)
    refine lv_goto (tgt := 25) hx hb dL_numbers_10 (by decide) ?_
    refine lv_iconst (v := 0) hx hb dL_numbers_25 (by decide) ?_
    exact W.iret (v := 0) hx hb hr (fun t2 ht2 hW => ⟨⟨_, (u, cvI x), rfl, Or.inl ⟨x, rfl, hq, rfl⟩, (by rw [ht2]; exact hB), (by rw [ht2]; exact hO1)⟩, hS.F ht2⟩) hS.2.2 dL_numbers_26
theorem dL_growth_0 : decode cL_growth 0 = .ok (.aload_n 2, 1) := by decide +kernel
theorem dL_growth_1 : decode cL_growth 1 = .ok (.iconst 0, 1) := by decide +kernel
theorem dL_growth_2 : decode cL_growth 2 = .ok (.aload_n 0, 1) := by decide +kernel
theorem dL_growth_3 : decode cL_growth 3 = .ok (.iload_n 1, 1) := by decide +kernel
theorem dL_growth_4 : decode cL_growth 4 = .ok (.invokevirtual 102, 3) := by decide +kernel
theorem dL_growth_7 : decode cL_growth 7 = .ok (.i2l, 1) := by decide +kernel
theorem dL_growth_8 : decode cL_growth 8 = .ok (.lastore, 1) := by decide +kernel
theorem dL_growth_9 : decode cL_growth 9 = .ok (.goto 9, 3) := by decide +kernel
theorem dL_growth_12 : decode cL_growth 12 = .ok (.astore_n 3, 1) := by decide +kernel
theorem dL_growth_13 : decode cL_growth 13 = .ok (.iconst 1, 1) := by decide +kernel
theorem dL_growth_14 : decode cL_growth 14 = .ok (.ireturn, 1) := by decide +kernel
theorem dL_growth_15 : decode cL_growth 15 = .ok (.astore_n 3, 1) := by decide +kernel
theorem dL_growth_16 : decode cL_growth 16 = .ok (.iconst 2, 1) := by decide +kernel
theorem dL_growth_17 : decode cL_growth 17 = .ok (.ireturn, 1) := by decide +kernel
theorem dL_growth_18 : decode cL_growth 18 = .ok (.iconst 0, 1) := by decide +kernel
theorem dL_growth_19 : decode cL_growth 19 = .ok (.ireturn, 1) := by decide +kernel
set_option maxHeartbeats 4000000 in
set_option maxRecDepth 100000 in
theorem hp_growth {l : Launch} (htr : l.stackTraces = false) {sg : Nat → Nat} {cA : Nat → ClassId} {D : va_G} {sz0 : Nat} {a1 : Int} {z : Int64} {M : Mem} {Q : Rs → Mem → Prop} (hcal : cald 8 cQ_growth [oQ, .inl a1] M Q) (hes : ∀ e M', Q (.inr e) M' → e ∈ [4, 5]) : Met l yL_growth (wWh yL_growth cL_growth 4 (some .int) [(0, 9, 12, 31), (0, 9, 15, 43)]) ({ frames := 17, cells := 2, slots := 12, locals := 750 }) (va_Pc [.ref (rho sz0 149), .int (Int32.ofInt a1), .ref (sz0 + 176)] (lPre sg cA D sz0 M z)) (va_Qi (lPost [4, 5] cvI Q) (lW cA D sz0) (Al sz0)) 2 12 (Al sz0) := by
  refine met_ofWH (cc := cL_growth) (maxL := 4) (ret := some .int) (hh := [(0, 9, 12, 31), (0, 9, 15, 43)]) (by decide) rfl ?_
  intro p e s m args below meth c s₁ B9 hml htab hv
  obtain ⟨rfl, ⟨hP, hD, hsz, hfix⟩, hO, hnc⟩ := hv
  have hx := B9.exec
  have hb := B9.bytes
  have hr := B9.returns
  have hts0 := atoms_spec (ws := wWh yL_growth cL_growth 4 (some .int) [(0, 9, 12, 31), (0, 9, 15, 43)]) B9.pre
  have hts : ∀ w ∈ LW, w.before _ s = true := fun w hw => hts0 w (List.mem_cons_of_mem _ hw)
  have hown : s.vm.findClass RL = some m.cls := findClass_of_methodNamed B9.named
  have hlocks := B9.notSynchronized
  have hK := hfix.1
  have hS : va_S (Al sz0) s.heap s.heap [] := va_S.rf
  have hM := snd (ρ := rho sz0) (sg := sg) (cA := cA) (D := D) (sz0 := sz0) htr 8 cQ_growth _ M Q hcal nQ_growth rfl
  have hrv := va_recv hfix.1 hP (gCl_at 11 (by decide)) (wWs_ob (show wOb 149 = 11 + 1 from by decide +kernel))
  have hl := lv_entry ([.ref (rho sz0 149), .int (Int32.ofInt a1), .ref (sz0 + 176)]) (n := 4) (Nat.le_of_ble_eq_true rfl)
  rw [lg_entry_eq]
  generalize (lg_sl ([.ref (rho sz0 149), .int (Int32.ofInt a1), .ref (sz0 + 176)]) ++ List.replicate (4 - (lg_sl ([.ref (rho sz0 149), .int (Int32.ofInt a1), .ref (sz0 + 176)])).length) Slot.unset).toArray = ls at hl ⊢
  have hl : lv_has ls 4 [(0, .ref (rho sz0 149)), (1, .int (Int32.ofInt a1)), (2, .ref (sz0 + 176))] := hl
  refine lv_aload_n hx hb dL_growth_0 rfl (lv_at hl 2 rfl) ?_
  refine lv_iconst (v := 0) hx hb dL_growth_1 (by decide) ?_
  refine lv_aload_n hx hb dL_growth_2 rfl (lv_at hl 0 rfl) ?_
  refine lv_iload_n hx hb dL_growth_3 rfl (lv_at hl 1 rfl) ?_
  refine vx_calli (vx_runV (As := [.int (Int32.ofInt a1)]) (rest := [.int 0, .ref (sz0 + 176)]) ⟨hx, hb, hml, hown, hts⟩ hM (cwV 1 hts (wsV_good wH_106 wH_107 wH_108 wH_3 wH_109) rfl rfl rfl (by decide +kernel) ⟨Nat.le_of_ble_eq_true rfl, Nat.le_of_ble_eq_true rfl⟩) ⟨wPic_blind, hrv, fun U hU hW => ⟨rfl, (by rw [hU]; exact hP), hD, (by rw [hU]; exact hsz), hfix.warm hW (fun q _ _ => by rw [hU])⟩⟩ rfl rfl hl.1 rfl (lv_room (Nat.le_of_ble_eq_true rfl)) dL_growth_4 ⟨Nat.le_of_ble_eq_true rfl, Nat.le_of_ble_eq_true rfl⟩) hS (fun q _ h => h.1) (fun q h => h.1) (fun q _ h => h.1) (fun E ce q9 u t H1 locs1 ht hal hp hB hz1 hfr hS hce hv hcl => ?_) (fun r u t H1 locs1 ht hal hp hB hz1 hfr hS => ?_)
  · obtain ⟨e9, M1⟩ := u
    obtain ⟨hE, hB⟩ := hB
    dsimp only at hE hp hB
    subst hE
    rw [ht] at hB
    have hO1 := hO.kept hfr
    have hm := hes _ _ hp
    simp only [List.mem_cons, List.not_mem_nil, or_false] at hm
    rcases hm with rfl | rfl
    · refine vx_catch hown [] ⟨0, 9, 12, 31⟩ [⟨0, 9, 15, 43⟩] htab (fun z hz => absurd hz List.not_mem_nil) (by decide) (by decide) (hts _ wH_20) (va_Nw.use rfl (hfix.2.2.2.2.2.2.2.2.1 _ _ (lw_in5 _ (List.mem_of_getElem? (i := 38) (by decide +kernel))))) hce hv hcl ?_
      refine lv_astore_n (lv' := [(3, .ref q9), (0, .ref (rho sz0 149)), (1, .int (Int32.ofInt a1)), (2, .ref (sz0 + 176))]) hx hb dL_growth_12 rfl hl (by decide) rfl (fun ls hl => ?_)
      refine lv_iconst (v := Int32.ofInt ((0 + 1 : Nat) : Int)) hx hb dL_growth_13 (by decide) ?_
      exact W.iret (v := Int32.ofInt ((0 + 1 : Nat) : Int)) hx hb hr (fun t2 ht2 hW => ⟨⟨_, (M1, z), rfl, Or.inr ⟨0, 4, rfl, rfl, hp⟩, (by rw [ht2]; exact hB), (by rw [ht2]; exact hO1)⟩, hS.F ht2⟩) hS.2.2 dL_growth_14
    · refine vx_catch hown [⟨0, 9, 12, 31⟩] ⟨0, 9, 15, 43⟩ [] htab (List.forall_mem_cons.mpr ⟨Or.inr ⟨by decide, "java/lang/IndexOutOfBoundsException", hts _ wH_20, hnc ("java/util/NoSuchElementException", "java/lang/IndexOutOfBoundsException") (by decide +kernel)⟩, fun _ h => absurd h List.not_mem_nil⟩) (by decide) (by decide) (hts _ wH_33) (va_Nw.use rfl (hfix.2.2.2.2.2.2.2.2.1 _ _ (lw_in5 _ (List.mem_of_getElem? (i := 100) (by decide +kernel))))) hce hv hcl ?_
      refine lv_astore_n (lv' := [(3, .ref q9), (0, .ref (rho sz0 149)), (1, .int (Int32.ofInt a1)), (2, .ref (sz0 + 176))]) hx hb dL_growth_15 rfl hl (by decide) rfl (fun ls hl => ?_)
      refine lv_iconst (v := Int32.ofInt ((1 + 1 : Nat) : Int)) hx hb dL_growth_16 (by decide) ?_
      exact W.iret (v := Int32.ofInt ((1 + 1 : Nat) : Int)) hx hb hr (fun t2 ht2 hW => ⟨⟨_, (M1, z), rfl, Or.inr ⟨1, 5, rfl, rfl, hp⟩, (by rw [ht2]; exact hB), (by rw [ht2]; exact hO1)⟩, hS.F ht2⟩) hS.2.2 dL_growth_17
  · obtain ⟨x, rfl, hq⟩ := hp
    rw [ht] at hB
    have hO1 := hO.kept hfr
    refine lv_i2l hx hb dL_growth_7 rfl ?_
    refine out_last hx hb hK hO1 hB hS dL_growth_8 (fun H1 locs1 hO1 hB hS => ?_)
    refine lv_goto (tgt := 18) hx hb dL_growth_9 (by decide) ?_
    refine lv_iconst (v := 0) hx hb dL_growth_18 (by decide) ?_
    exact W.iret (v := 0) hx hb hr (fun t2 ht2 hW => ⟨⟨_, (u, cvI x), rfl, Or.inl ⟨x, rfl, hq, rfl⟩, (by rw [ht2]; exact hB), (by rw [ht2]; exact hO1)⟩, hS.F ht2⟩) hS.2.2 dL_growth_19
theorem dL_closed_0 : decode cL_closed 0 = .ok (.aload_n 3, 1) := by decide +kernel
theorem dL_closed_1 : decode cL_closed 1 = .ok (.iconst 0, 1) := by decide +kernel
theorem dL_closed_2 : decode cL_closed 2 = .ok (.aload_n 0, 1) := by decide +kernel
theorem dL_closed_3 : decode cL_closed 3 = .ok (.iload_n 1, 1) := by decide +kernel
theorem dL_closed_4 : decode cL_closed 4 = .ok (.iload_n 2, 1) := by decide +kernel
theorem dL_closed_5 : decode cL_closed 5 = .ok (.invokevirtual 105, 3) := by decide +kernel
theorem dL_closed_8 : decode cL_closed 8 = .ok (.i2l, 1) := by decide +kernel
theorem dL_closed_9 : decode cL_closed 9 = .ok (.lastore, 1) := by decide +kernel
theorem dL_closed_10 : decode cL_closed 10 = .ok (.goto 15, 3) := by decide +kernel
theorem dL_closed_13 : decode cL_closed 13 = .ok (.astore 4, 2) := by decide +kernel
theorem dL_closed_15 : decode cL_closed 15 = .ok (.iconst 1, 1) := by decide +kernel
theorem dL_closed_16 : decode cL_closed 16 = .ok (.ireturn, 1) := by decide +kernel
theorem dL_closed_17 : decode cL_closed 17 = .ok (.astore 4, 2) := by decide +kernel
theorem dL_closed_19 : decode cL_closed 19 = .ok (.iconst 2, 1) := by decide +kernel
theorem dL_closed_20 : decode cL_closed 20 = .ok (.ireturn, 1) := by decide +kernel
theorem dL_closed_21 : decode cL_closed 21 = .ok (.astore 4, 2) := by decide +kernel
theorem dL_closed_23 : decode cL_closed 23 = .ok (.iconst 3, 1) := by decide +kernel
theorem dL_closed_24 : decode cL_closed 24 = .ok (.ireturn, 1) := by decide +kernel
theorem dL_closed_25 : decode cL_closed 25 = .ok (.iconst 0, 1) := by decide +kernel
theorem dL_closed_26 : decode cL_closed 26 = .ok (.ireturn, 1) := by decide +kernel
set_option maxHeartbeats 4000000 in
set_option maxRecDepth 100000 in
theorem hp_closed {l : Launch} (htr : l.stackTraces = false) {sg : Nat → Nat} {cA : Nat → ClassId} {D : va_G} {sz0 : Nat} {a1 a2 : Int} {z : Int64} {M : Mem} {Q : Rs → Mem → Prop} (hcal : cald 8 cQ_closed [oQ, .inl a1, .inl a2] M Q) (hes : ∀ e M', Q (.inr e) M' → e ∈ [4, 2, 3]) : Met l yL_closed (wWh yL_closed cL_closed 5 (some .int) [(0, 10, 13, 31), (0, 10, 17, 25), (0, 10, 21, 19)]) ({ frames := 17, cells := 2, slots := 12, locals := 750 }) (va_Pc [.ref (rho sz0 149), .int (Int32.ofInt a1), .int (Int32.ofInt a2), .ref (sz0 + 176)] (lPre sg cA D sz0 M z)) (va_Qi (lPost [4, 2, 3] cvI Q) (lW cA D sz0) (Al sz0)) 2 12 (Al sz0) := by
  refine met_ofWH (cc := cL_closed) (maxL := 5) (ret := some .int) (hh := [(0, 10, 13, 31), (0, 10, 17, 25), (0, 10, 21, 19)]) (by decide) rfl ?_
  intro p e s m args below meth c s₁ B9 hml htab hv
  obtain ⟨rfl, ⟨hP, hD, hsz, hfix⟩, hO, hnc⟩ := hv
  have hx := B9.exec
  have hb := B9.bytes
  have hr := B9.returns
  have hts0 := atoms_spec (ws := wWh yL_closed cL_closed 5 (some .int) [(0, 10, 13, 31), (0, 10, 17, 25), (0, 10, 21, 19)]) B9.pre
  have hts : ∀ w ∈ LW, w.before _ s = true := fun w hw => hts0 w (List.mem_cons_of_mem _ hw)
  have hown : s.vm.findClass RL = some m.cls := findClass_of_methodNamed B9.named
  have hlocks := B9.notSynchronized
  have hK := hfix.1
  have hS : va_S (Al sz0) s.heap s.heap [] := va_S.rf
  have hM := snd (ρ := rho sz0) (sg := sg) (cA := cA) (D := D) (sz0 := sz0) htr 8 cQ_closed _ M Q hcal nQ_closed rfl
  have hrv := va_recv hfix.1 hP (gCl_at 11 (by decide)) (wWs_ob (show wOb 149 = 11 + 1 from by decide +kernel))
  have hl := lv_entry ([.ref (rho sz0 149), .int (Int32.ofInt a1), .int (Int32.ofInt a2), .ref (sz0 + 176)]) (n := 5) (Nat.le_of_ble_eq_true rfl)
  rw [lg_entry_eq]
  generalize (lg_sl ([.ref (rho sz0 149), .int (Int32.ofInt a1), .int (Int32.ofInt a2), .ref (sz0 + 176)]) ++ List.replicate (5 - (lg_sl ([.ref (rho sz0 149), .int (Int32.ofInt a1), .int (Int32.ofInt a2), .ref (sz0 + 176)])).length) Slot.unset).toArray = ls at hl ⊢
  have hl : lv_has ls 5 [(0, .ref (rho sz0 149)), (1, .int (Int32.ofInt a1)), (2, .int (Int32.ofInt a2)), (3, .ref (sz0 + 176))] := hl
  refine lv_aload_n hx hb dL_closed_0 rfl (lv_at hl 3 rfl) ?_
  refine lv_iconst (v := 0) hx hb dL_closed_1 (by decide) ?_
  refine lv_aload_n hx hb dL_closed_2 rfl (lv_at hl 0 rfl) ?_
  refine lv_iload_n hx hb dL_closed_3 rfl (lv_at hl 1 rfl) ?_
  refine lv_iload_n hx hb dL_closed_4 rfl (lv_at hl 2 rfl) ?_
  refine vx_calli (vx_runV (As := [.int (Int32.ofInt a1), .int (Int32.ofInt a2)]) (rest := [.int 0, .ref (sz0 + 176)]) ⟨hx, hb, hml, hown, hts⟩ hM (cwV 2 hts (wsV_good wH_110 wH_111 wH_112 wH_3 wH_113) rfl rfl rfl (by decide +kernel) ⟨Nat.le_of_ble_eq_true rfl, Nat.le_of_ble_eq_true rfl⟩) ⟨wPic_blind, hrv, fun U hU hW => ⟨rfl, (by rw [hU]; exact hP), hD, (by rw [hU]; exact hsz), hfix.warm hW (fun q _ _ => by rw [hU])⟩⟩ rfl rfl hl.1 rfl (lv_room (Nat.le_of_ble_eq_true rfl)) dL_closed_5 ⟨Nat.le_of_ble_eq_true rfl, Nat.le_of_ble_eq_true rfl⟩) hS (fun q _ h => h.1) (fun q h => h.1) (fun q _ h => h.1) (fun E ce q9 u t H1 locs1 ht hal hp hB hz1 hfr hS hce hv hcl => ?_) (fun r u t H1 locs1 ht hal hp hB hz1 hfr hS => ?_)
  · obtain ⟨e9, M1⟩ := u
    obtain ⟨hE, hB⟩ := hB
    dsimp only at hE hp hB
    subst hE
    rw [ht] at hB
    have hO1 := hO.kept hfr
    have hm := hes _ _ hp
    simp only [List.mem_cons, List.not_mem_nil, or_false] at hm
    rcases hm with rfl | rfl | rfl
    · refine vx_catch hown [] ⟨0, 10, 13, 31⟩ [⟨0, 10, 17, 25⟩, ⟨0, 10, 21, 19⟩] htab (fun z hz => absurd hz List.not_mem_nil) (by decide) (by decide) (hts _ wH_20) (va_Nw.use rfl (hfix.2.2.2.2.2.2.2.2.1 _ _ (lw_in5 _ (List.mem_of_getElem? (i := 38) (by decide +kernel))))) hce hv hcl ?_
      refine lv_astore (lv' := [(4, .ref q9), (0, .ref (rho sz0 149)), (1, .int (Int32.ofInt a1)), (2, .int (Int32.ofInt a2)), (3, .ref (sz0 + 176))]) hx hb dL_closed_13 hl (by decide) rfl (fun ls hl => ?_)
      refine lv_iconst (v := Int32.ofInt ((0 + 1 : Nat) : Int)) hx hb dL_closed_15 (by decide) ?_
      exact W.iret (v := Int32.ofInt ((0 + 1 : Nat) : Int)) hx hb hr (fun t2 ht2 hW => ⟨⟨_, (M1, z), rfl, Or.inr ⟨0, 4, rfl, rfl, hp⟩, (by rw [ht2]; exact hB), (by rw [ht2]; exact hO1)⟩, hS.F ht2⟩) hS.2.2 dL_closed_16
    · refine vx_catch hown [⟨0, 10, 13, 31⟩] ⟨0, 10, 17, 25⟩ [⟨0, 10, 21, 19⟩] htab (List.forall_mem_cons.mpr ⟨Or.inr ⟨by decide, "java/lang/IndexOutOfBoundsException", hts _ wH_20, hnc ("java/lang/IllegalArgumentException", "java/lang/IndexOutOfBoundsException") (by decide +kernel)⟩, fun _ h => absurd h List.not_mem_nil⟩) (by decide) (by decide) (hts _ wH_15) (va_Nw.use rfl (hfix.2.2.2.2.2.2.2.2.1 _ _ (lw_in4 _ (List.mem_of_getElem? (i := 236) (by decide +kernel))))) hce hv hcl ?_
      refine lv_astore (lv' := [(4, .ref q9), (0, .ref (rho sz0 149)), (1, .int (Int32.ofInt a1)), (2, .int (Int32.ofInt a2)), (3, .ref (sz0 + 176))]) hx hb dL_closed_17 hl (by decide) rfl (fun ls hl => ?_)
      refine lv_iconst (v := Int32.ofInt ((1 + 1 : Nat) : Int)) hx hb dL_closed_19 (by decide) ?_
      exact W.iret (v := Int32.ofInt ((1 + 1 : Nat) : Int)) hx hb hr (fun t2 ht2 hW => ⟨⟨_, (M1, z), rfl, Or.inr ⟨1, 2, rfl, rfl, hp⟩, (by rw [ht2]; exact hB), (by rw [ht2]; exact hO1)⟩, hS.F ht2⟩) hS.2.2 dL_closed_20
    · refine vx_catch hown [⟨0, 10, 13, 31⟩, ⟨0, 10, 17, 25⟩] ⟨0, 10, 21, 19⟩ [] htab (List.forall_mem_cons.mpr ⟨Or.inr ⟨by decide, "java/lang/IndexOutOfBoundsException", hts _ wH_20, hnc ("java/lang/IllegalStateException", "java/lang/IndexOutOfBoundsException") (by decide +kernel)⟩, List.forall_mem_cons.mpr ⟨Or.inr ⟨by decide, "java/lang/IllegalArgumentException", hts _ wH_15, hnc ("java/lang/IllegalStateException", "java/lang/IllegalArgumentException") (by decide +kernel)⟩, fun _ h => absurd h List.not_mem_nil⟩⟩) (by decide) (by decide) (hts _ wH_10) (va_Nw.use rfl (hfix.2.2.2.2.2.2.2.2.1 _ _ (lw_in4 _ (List.mem_of_getElem? (i := 198) (by decide +kernel))))) hce hv hcl ?_
      refine lv_astore (lv' := [(4, .ref q9), (0, .ref (rho sz0 149)), (1, .int (Int32.ofInt a1)), (2, .int (Int32.ofInt a2)), (3, .ref (sz0 + 176))]) hx hb dL_closed_21 hl (by decide) rfl (fun ls hl => ?_)
      refine lv_iconst (v := Int32.ofInt ((2 + 1 : Nat) : Int)) hx hb dL_closed_23 (by decide) ?_
      exact W.iret (v := Int32.ofInt ((2 + 1 : Nat) : Int)) hx hb hr (fun t2 ht2 hW => ⟨⟨_, (M1, z), rfl, Or.inr ⟨2, 3, rfl, rfl, hp⟩, (by rw [ht2]; exact hB), (by rw [ht2]; exact hO1)⟩, hS.F ht2⟩) hS.2.2 dL_closed_24
  · obtain ⟨x, rfl, hq⟩ := hp
    rw [ht] at hB
    have hO1 := hO.kept hfr
    refine lv_i2l hx hb dL_closed_8 rfl ?_
    refine out_last hx hb hK hO1 hB hS dL_closed_9 (fun H1 locs1 hO1 hB hS => ?_)
    refine lv_goto (tgt := 25) hx hb dL_closed_10 (by decide) ?_
    refine lv_iconst (v := 0) hx hb dL_closed_25 (by decide) ?_
    exact W.iret (v := 0) hx hb hr (fun t2 ht2 hW => ⟨⟨_, (u, cvI x), rfl, Or.inl ⟨x, rfl, hq, rfl⟩, (by rw [ht2]; exact hB), (by rw [ht2]; exact hO1)⟩, hS.F ht2⟩) hS.2.2 dL_closed_26
theorem dL_envelope_0 : decode cL_envelope 0 = .ok (.aload 4, 2) := by decide +kernel
theorem dL_envelope_2 : decode cL_envelope 2 = .ok (.iconst 0, 1) := by decide +kernel
theorem dL_envelope_3 : decode cL_envelope 3 = .ok (.aload_n 0, 1) := by decide +kernel
theorem dL_envelope_4 : decode cL_envelope 4 = .ok (.iload_n 1, 1) := by decide +kernel
theorem dL_envelope_5 : decode cL_envelope 5 = .ok (.iload_n 2, 1) := by decide +kernel
theorem dL_envelope_6 : decode cL_envelope 6 = .ok (.iload_n 3, 1) := by decide +kernel
theorem dL_envelope_7 : decode cL_envelope 7 = .ok (.invokevirtual 108, 3) := by decide +kernel
theorem dL_envelope_10 : decode cL_envelope 10 = .ok (.i2l, 1) := by decide +kernel
theorem dL_envelope_11 : decode cL_envelope 11 = .ok (.lastore, 1) := by decide +kernel
theorem dL_envelope_12 : decode cL_envelope 12 = .ok (.goto 7, 3) := by decide +kernel
theorem dL_envelope_15 : decode cL_envelope 15 = .ok (.astore 5, 2) := by decide +kernel
theorem dL_envelope_17 : decode cL_envelope 17 = .ok (.iconst 1, 1) := by decide +kernel
theorem dL_envelope_18 : decode cL_envelope 18 = .ok (.ireturn, 1) := by decide +kernel
theorem dL_envelope_19 : decode cL_envelope 19 = .ok (.iconst 0, 1) := by decide +kernel
theorem dL_envelope_20 : decode cL_envelope 20 = .ok (.ireturn, 1) := by decide +kernel
set_option maxHeartbeats 4000000 in
set_option maxRecDepth 100000 in
theorem hp_envelope {l : Launch} (htr : l.stackTraces = false) {sg : Nat → Nat} {cA : Nat → ClassId} {D : va_G} {sz0 : Nat} {a1 a2 a3 : Int} {z : Int64} {M : Mem} {Q : Rs → Mem → Prop} (hcal : cald 8 cQ_envelope [oQ, .inl a1, .inl a2, .inl a3] M Q) (hes : ∀ e M', Q (.inr e) M' → e ∈ [2]) : Met l yL_envelope (wWh yL_envelope cL_envelope 6 (some .int) [(0, 12, 15, 25)]) ({ frames := 17, cells := 1, slots := 6, locals := 750 }) (va_Pc [.ref (rho sz0 149), .int (Int32.ofInt a1), .int (Int32.ofInt a2), .int (Int32.ofInt a3), .ref (sz0 + 176)] (lPre sg cA D sz0 M z)) (va_Qi (lPost [2] cvI Q) (lW cA D sz0) (Al sz0)) 1 6 (Al sz0) := by
  refine met_ofWH (cc := cL_envelope) (maxL := 6) (ret := some .int) (hh := [(0, 12, 15, 25)]) (by decide) rfl ?_
  intro p e s m args below meth c s₁ B9 hml htab hv
  obtain ⟨rfl, ⟨hP, hD, hsz, hfix⟩, hO, hnc⟩ := hv
  have hx := B9.exec
  have hb := B9.bytes
  have hr := B9.returns
  have hts0 := atoms_spec (ws := wWh yL_envelope cL_envelope 6 (some .int) [(0, 12, 15, 25)]) B9.pre
  have hts : ∀ w ∈ LW, w.before _ s = true := fun w hw => hts0 w (List.mem_cons_of_mem _ hw)
  have hown : s.vm.findClass RL = some m.cls := findClass_of_methodNamed B9.named
  have hlocks := B9.notSynchronized
  have hK := hfix.1
  have hS : va_S (Al sz0) s.heap s.heap [] := va_S.rf
  have hM := snd (ρ := rho sz0) (sg := sg) (cA := cA) (D := D) (sz0 := sz0) htr 8 cQ_envelope _ M Q hcal nQ_envelope rfl
  have hrv := va_recv hfix.1 hP (gCl_at 11 (by decide)) (wWs_ob (show wOb 149 = 11 + 1 from by decide +kernel))
  have hl := lv_entry ([.ref (rho sz0 149), .int (Int32.ofInt a1), .int (Int32.ofInt a2), .int (Int32.ofInt a3), .ref (sz0 + 176)]) (n := 6) (Nat.le_of_ble_eq_true rfl)
  rw [lg_entry_eq]
  generalize (lg_sl ([.ref (rho sz0 149), .int (Int32.ofInt a1), .int (Int32.ofInt a2), .int (Int32.ofInt a3), .ref (sz0 + 176)]) ++ List.replicate (6 - (lg_sl ([.ref (rho sz0 149), .int (Int32.ofInt a1), .int (Int32.ofInt a2), .int (Int32.ofInt a3), .ref (sz0 + 176)])).length) Slot.unset).toArray = ls at hl ⊢
  have hl : lv_has ls 6 [(0, .ref (rho sz0 149)), (1, .int (Int32.ofInt a1)), (2, .int (Int32.ofInt a2)), (3, .int (Int32.ofInt a3)), (4, .ref (sz0 + 176))] := hl
  refine lv_aload hx hb dL_envelope_0 (lv_at hl 4 rfl) ?_
  refine lv_iconst (v := 0) hx hb dL_envelope_2 (by decide) ?_
  refine lv_aload_n hx hb dL_envelope_3 rfl (lv_at hl 0 rfl) ?_
  refine lv_iload_n hx hb dL_envelope_4 rfl (lv_at hl 1 rfl) ?_
  refine lv_iload_n hx hb dL_envelope_5 rfl (lv_at hl 2 rfl) ?_
  refine lv_iload_n hx hb dL_envelope_6 rfl (lv_at hl 3 rfl) ?_
  refine vx_calli (vx_runV (As := [.int (Int32.ofInt a1), .int (Int32.ofInt a2), .int (Int32.ofInt a3)]) (rest := [.int 0, .ref (sz0 + 176)]) ⟨hx, hb, hml, hown, hts⟩ hM (cwV 3 hts (wsV_good wH_114 wH_115 wH_116 wH_3 wH_117) rfl rfl rfl (by decide +kernel) ⟨Nat.le_of_ble_eq_true rfl, Nat.le_of_ble_eq_true rfl⟩) ⟨wPic_blind, hrv, fun U hU hW => ⟨rfl, (by rw [hU]; exact hP), hD, (by rw [hU]; exact hsz), hfix.warm hW (fun q _ _ => by rw [hU])⟩⟩ rfl rfl hl.1 rfl (lv_room (Nat.le_of_ble_eq_true rfl)) dL_envelope_7 ⟨Nat.le_of_ble_eq_true rfl, Nat.le_of_ble_eq_true rfl⟩) hS (fun q _ h => h.1) (fun q h => h.1) (fun q _ h => h.1) (fun E ce q9 u t H1 locs1 ht hal hp hB hz1 hfr hS hce hv hcl => ?_) (fun r u t H1 locs1 ht hal hp hB hz1 hfr hS => ?_)
  · obtain ⟨e9, M1⟩ := u
    obtain ⟨hE, hB⟩ := hB
    dsimp only at hE hp hB
    subst hE
    rw [ht] at hB
    have hO1 := hO.kept hfr
    have hm := hes _ _ hp
    simp only [List.mem_cons, List.not_mem_nil, or_false] at hm
    subst hm
    refine vx_catch hown [] ⟨0, 12, 15, 25⟩ [] htab (fun z hz => absurd hz List.not_mem_nil) (by decide) (by decide) (hts _ wH_15) (va_Nw.use rfl (hfix.2.2.2.2.2.2.2.2.1 _ _ (lw_in4 _ (List.mem_of_getElem? (i := 236) (by decide +kernel))))) hce hv hcl ?_
    refine lv_astore (lv' := [(5, .ref q9), (0, .ref (rho sz0 149)), (1, .int (Int32.ofInt a1)), (2, .int (Int32.ofInt a2)), (3, .int (Int32.ofInt a3)), (4, .ref (sz0 + 176))]) hx hb dL_envelope_15 hl (by decide) rfl (fun ls hl => ?_)
    refine lv_iconst (v := Int32.ofInt ((0 + 1 : Nat) : Int)) hx hb dL_envelope_17 (by decide) ?_
    exact W.iret (v := Int32.ofInt ((0 + 1 : Nat) : Int)) hx hb hr (fun t2 ht2 hW => ⟨⟨_, (M1, z), rfl, Or.inr ⟨0, 2, rfl, rfl, hp⟩, (by rw [ht2]; exact hB), (by rw [ht2]; exact hO1)⟩, hS.F ht2⟩) hS.2.2 dL_envelope_18
  · obtain ⟨x, rfl, hq⟩ := hp
    rw [ht] at hB
    have hO1 := hO.kept hfr
    refine lv_i2l hx hb dL_envelope_10 rfl ?_
    refine out_last hx hb hK hO1 hB hS dL_envelope_11 (fun H1 locs1 hO1 hB hS => ?_)
    refine lv_goto (tgt := 19) hx hb dL_envelope_12 (by decide) ?_
    refine lv_iconst (v := 0) hx hb dL_envelope_19 (by decide) ?_
    exact W.iret (v := 0) hx hb hr (fun t2 ht2 hW => ⟨⟨_, (u, cvI x), rfl, Or.inl ⟨x, rfl, hq, rfl⟩, (by rw [ht2]; exact hB), (by rw [ht2]; exact hO1)⟩, hS.F ht2⟩) hS.2.2 dL_envelope_20
theorem dL_server_0 : decode cL_server 0 = .ok (.aload 4, 2) := by decide +kernel
theorem dL_server_2 : decode cL_server 2 = .ok (.iconst 0, 1) := by decide +kernel
theorem dL_server_3 : decode cL_server 3 = .ok (.aload_n 0, 1) := by decide +kernel
theorem dL_server_4 : decode cL_server 4 = .ok (.iload_n 1, 1) := by decide +kernel
theorem dL_server_5 : decode cL_server 5 = .ok (.iload_n 2, 1) := by decide +kernel
theorem dL_server_6 : decode cL_server 6 = .ok (.iload_n 3, 1) := by decide +kernel
theorem dL_server_7 : decode cL_server 7 = .ok (.invokevirtual 111, 3) := by decide +kernel
theorem dL_server_10 : decode cL_server 10 = .ok (.i2l, 1) := by decide +kernel
theorem dL_server_11 : decode cL_server 11 = .ok (.lastore, 1) := by decide +kernel
theorem dL_server_12 : decode cL_server 12 = .ok (.goto 11, 3) := by decide +kernel
theorem dL_server_15 : decode cL_server 15 = .ok (.astore 5, 2) := by decide +kernel
theorem dL_server_17 : decode cL_server 17 = .ok (.iconst 1, 1) := by decide +kernel
theorem dL_server_18 : decode cL_server 18 = .ok (.ireturn, 1) := by decide +kernel
theorem dL_server_19 : decode cL_server 19 = .ok (.astore 5, 2) := by decide +kernel
theorem dL_server_21 : decode cL_server 21 = .ok (.iconst 2, 1) := by decide +kernel
theorem dL_server_22 : decode cL_server 22 = .ok (.ireturn, 1) := by decide +kernel
theorem dL_server_23 : decode cL_server 23 = .ok (.iconst 0, 1) := by decide +kernel
theorem dL_server_24 : decode cL_server 24 = .ok (.ireturn, 1) := by decide +kernel
set_option maxHeartbeats 4000000 in
set_option maxRecDepth 100000 in
theorem hp_server {l : Launch} (htr : l.stackTraces = false) {sg : Nat → Nat} {cA : Nat → ClassId} {D : va_G} {sz0 : Nat} {a1 a2 a3 : Int} {z : Int64} {M : Mem} {Q : Rs → Mem → Prop} (hcal : cald 8 cQ_server [oQ, .inl a1, .inl a2, .inl a3] M Q) (hes : ∀ e M', Q (.inr e) M' → e ∈ [2, 3]) : Met l yL_server (wWh yL_server cL_server 6 (some .int) [(0, 12, 15, 25), (0, 12, 19, 19)]) ({ frames := 17, cells := 1, slots := 6, locals := 750 }) (va_Pc [.ref (rho sz0 149), .int (Int32.ofInt a1), .int (Int32.ofInt a2), .int (Int32.ofInt a3), .ref (sz0 + 176)] (lPre sg cA D sz0 M z)) (va_Qi (lPost [2, 3] cvI Q) (lW cA D sz0) (Al sz0)) 1 6 (Al sz0) := by
  refine met_ofWH (cc := cL_server) (maxL := 6) (ret := some .int) (hh := [(0, 12, 15, 25), (0, 12, 19, 19)]) (by decide) rfl ?_
  intro p e s m args below meth c s₁ B9 hml htab hv
  obtain ⟨rfl, ⟨hP, hD, hsz, hfix⟩, hO, hnc⟩ := hv
  have hx := B9.exec
  have hb := B9.bytes
  have hr := B9.returns
  have hts0 := atoms_spec (ws := wWh yL_server cL_server 6 (some .int) [(0, 12, 15, 25), (0, 12, 19, 19)]) B9.pre
  have hts : ∀ w ∈ LW, w.before _ s = true := fun w hw => hts0 w (List.mem_cons_of_mem _ hw)
  have hown : s.vm.findClass RL = some m.cls := findClass_of_methodNamed B9.named
  have hlocks := B9.notSynchronized
  have hK := hfix.1
  have hS : va_S (Al sz0) s.heap s.heap [] := va_S.rf
  have hM := snd (ρ := rho sz0) (sg := sg) (cA := cA) (D := D) (sz0 := sz0) htr 8 cQ_server _ M Q hcal nQ_server rfl
  have hrv := va_recv hfix.1 hP (gCl_at 11 (by decide)) (wWs_ob (show wOb 149 = 11 + 1 from by decide +kernel))
  have hl := lv_entry ([.ref (rho sz0 149), .int (Int32.ofInt a1), .int (Int32.ofInt a2), .int (Int32.ofInt a3), .ref (sz0 + 176)]) (n := 6) (Nat.le_of_ble_eq_true rfl)
  rw [lg_entry_eq]
  generalize (lg_sl ([.ref (rho sz0 149), .int (Int32.ofInt a1), .int (Int32.ofInt a2), .int (Int32.ofInt a3), .ref (sz0 + 176)]) ++ List.replicate (6 - (lg_sl ([.ref (rho sz0 149), .int (Int32.ofInt a1), .int (Int32.ofInt a2), .int (Int32.ofInt a3), .ref (sz0 + 176)])).length) Slot.unset).toArray = ls at hl ⊢
  have hl : lv_has ls 6 [(0, .ref (rho sz0 149)), (1, .int (Int32.ofInt a1)), (2, .int (Int32.ofInt a2)), (3, .int (Int32.ofInt a3)), (4, .ref (sz0 + 176))] := hl
  refine lv_aload hx hb dL_server_0 (lv_at hl 4 rfl) ?_
  refine lv_iconst (v := 0) hx hb dL_server_2 (by decide) ?_
  refine lv_aload_n hx hb dL_server_3 rfl (lv_at hl 0 rfl) ?_
  refine lv_iload_n hx hb dL_server_4 rfl (lv_at hl 1 rfl) ?_
  refine lv_iload_n hx hb dL_server_5 rfl (lv_at hl 2 rfl) ?_
  refine lv_iload_n hx hb dL_server_6 rfl (lv_at hl 3 rfl) ?_
  refine vx_calli (vx_runV (As := [.int (Int32.ofInt a1), .int (Int32.ofInt a2), .int (Int32.ofInt a3)]) (rest := [.int 0, .ref (sz0 + 176)]) ⟨hx, hb, hml, hown, hts⟩ hM (cwV 3 hts (wsV_good wH_118 wH_119 wH_120 wH_3 wH_121) rfl rfl rfl (by decide +kernel) ⟨Nat.le_of_ble_eq_true rfl, Nat.le_of_ble_eq_true rfl⟩) ⟨wPic_blind, hrv, fun U hU hW => ⟨rfl, (by rw [hU]; exact hP), hD, (by rw [hU]; exact hsz), hfix.warm hW (fun q _ _ => by rw [hU])⟩⟩ rfl rfl hl.1 rfl (lv_room (Nat.le_of_ble_eq_true rfl)) dL_server_7 ⟨Nat.le_of_ble_eq_true rfl, Nat.le_of_ble_eq_true rfl⟩) hS (fun q _ h => h.1) (fun q h => h.1) (fun q _ h => h.1) (fun E ce q9 u t H1 locs1 ht hal hp hB hz1 hfr hS hce hv hcl => ?_) (fun r u t H1 locs1 ht hal hp hB hz1 hfr hS => ?_)
  · obtain ⟨e9, M1⟩ := u
    obtain ⟨hE, hB⟩ := hB
    dsimp only at hE hp hB
    subst hE
    rw [ht] at hB
    have hO1 := hO.kept hfr
    have hm := hes _ _ hp
    simp only [List.mem_cons, List.not_mem_nil, or_false] at hm
    rcases hm with rfl | rfl
    · refine vx_catch hown [] ⟨0, 12, 15, 25⟩ [⟨0, 12, 19, 19⟩] htab (fun z hz => absurd hz List.not_mem_nil) (by decide) (by decide) (hts _ wH_15) (va_Nw.use rfl (hfix.2.2.2.2.2.2.2.2.1 _ _ (lw_in4 _ (List.mem_of_getElem? (i := 236) (by decide +kernel))))) hce hv hcl ?_
      refine lv_astore (lv' := [(5, .ref q9), (0, .ref (rho sz0 149)), (1, .int (Int32.ofInt a1)), (2, .int (Int32.ofInt a2)), (3, .int (Int32.ofInt a3)), (4, .ref (sz0 + 176))]) hx hb dL_server_15 hl (by decide) rfl (fun ls hl => ?_)
      refine lv_iconst (v := Int32.ofInt ((0 + 1 : Nat) : Int)) hx hb dL_server_17 (by decide) ?_
      exact W.iret (v := Int32.ofInt ((0 + 1 : Nat) : Int)) hx hb hr (fun t2 ht2 hW => ⟨⟨_, (M1, z), rfl, Or.inr ⟨0, 2, rfl, rfl, hp⟩, (by rw [ht2]; exact hB), (by rw [ht2]; exact hO1)⟩, hS.F ht2⟩) hS.2.2 dL_server_18
    · refine vx_catch hown [⟨0, 12, 15, 25⟩] ⟨0, 12, 19, 19⟩ [] htab (List.forall_mem_cons.mpr ⟨Or.inr ⟨by decide, "java/lang/IllegalArgumentException", hts _ wH_15, hnc ("java/lang/IllegalStateException", "java/lang/IllegalArgumentException") (by decide +kernel)⟩, fun _ h => absurd h List.not_mem_nil⟩) (by decide) (by decide) (hts _ wH_10) (va_Nw.use rfl (hfix.2.2.2.2.2.2.2.2.1 _ _ (lw_in4 _ (List.mem_of_getElem? (i := 198) (by decide +kernel))))) hce hv hcl ?_
      refine lv_astore (lv' := [(5, .ref q9), (0, .ref (rho sz0 149)), (1, .int (Int32.ofInt a1)), (2, .int (Int32.ofInt a2)), (3, .int (Int32.ofInt a3)), (4, .ref (sz0 + 176))]) hx hb dL_server_19 hl (by decide) rfl (fun ls hl => ?_)
      refine lv_iconst (v := Int32.ofInt ((1 + 1 : Nat) : Int)) hx hb dL_server_21 (by decide) ?_
      exact W.iret (v := Int32.ofInt ((1 + 1 : Nat) : Int)) hx hb hr (fun t2 ht2 hW => ⟨⟨_, (M1, z), rfl, Or.inr ⟨1, 3, rfl, rfl, hp⟩, (by rw [ht2]; exact hB), (by rw [ht2]; exact hO1)⟩, hS.F ht2⟩) hS.2.2 dL_server_22
  · obtain ⟨x, rfl, hq⟩ := hp
    rw [ht] at hB
    have hO1 := hO.kept hfr
    refine lv_i2l hx hb dL_server_10 rfl ?_
    refine out_last hx hb hK hO1 hB hS dL_server_11 (fun H1 locs1 hO1 hB hS => ?_)
    refine lv_goto (tgt := 23) hx hb dL_server_12 (by decide) ?_
    refine lv_iconst (v := 0) hx hb dL_server_23 (by decide) ?_
    exact W.iret (v := 0) hx hb hr (fun t2 ht2 hW => ⟨⟨_, (u, cvI x), rfl, Or.inl ⟨x, rfl, hq, rfl⟩, (by rw [ht2]; exact hB), (by rw [ht2]; exact hO1)⟩, hS.F ht2⟩) hS.2.2 dL_server_24
theorem dL_bound_0 : decode cL_bound 0 = .ok (.aload_n 2, 1) := by decide +kernel
theorem dL_bound_1 : decode cL_bound 1 = .ok (.iconst 0, 1) := by decide +kernel
theorem dL_bound_2 : decode cL_bound 2 = .ok (.aload_n 0, 1) := by decide +kernel
theorem dL_bound_3 : decode cL_bound 3 = .ok (.iload_n 1, 1) := by decide +kernel
theorem dL_bound_4 : decode cL_bound 4 = .ok (.invokevirtual 114, 3) := by decide +kernel
theorem dL_bound_7 : decode cL_bound 7 = .ok (.i2l, 1) := by decide +kernel
theorem dL_bound_8 : decode cL_bound 8 = .ok (.lastore, 1) := by decide +kernel
theorem dL_bound_9 : decode cL_bound 9 = .ok (.goto 6, 3) := by decide +kernel
theorem dL_bound_12 : decode cL_bound 12 = .ok (.astore_n 3, 1) := by decide +kernel
theorem dL_bound_13 : decode cL_bound 13 = .ok (.iconst 1, 1) := by decide +kernel
theorem dL_bound_14 : decode cL_bound 14 = .ok (.ireturn, 1) := by decide +kernel
theorem dL_bound_15 : decode cL_bound 15 = .ok (.iconst 0, 1) := by decide +kernel
theorem dL_bound_16 : decode cL_bound 16 = .ok (.ireturn, 1) := by decide +kernel
set_option maxHeartbeats 4000000 in
set_option maxRecDepth 100000 in
theorem hp_bound {l : Launch} (htr : l.stackTraces = false) {sg : Nat → Nat} {cA : Nat → ClassId} {D : va_G} {sz0 : Nat} {a1 : Int} {z : Int64} {M : Mem} {Q : Rs → Mem → Prop} (hcal : cald 8 cQ_bound [oQ, .inl a1] M Q) (hes : ∀ e M', Q (.inr e) M' → e ∈ [5]) : Met l yL_bound (wWh yL_bound cL_bound 4 (some .int) [(0, 9, 12, 43)]) ({ frames := 17, cells := 1, slots := 6, locals := 750 }) (va_Pc [.ref (rho sz0 149), .int (Int32.ofInt a1), .ref (sz0 + 176)] (lPre sg cA D sz0 M z)) (va_Qi (lPost [5] cvI Q) (lW cA D sz0) (Al sz0)) 1 6 (Al sz0) := by
  refine met_ofWH (cc := cL_bound) (maxL := 4) (ret := some .int) (hh := [(0, 9, 12, 43)]) (by decide) rfl ?_
  intro p e s m args below meth c s₁ B9 hml htab hv
  obtain ⟨rfl, ⟨hP, hD, hsz, hfix⟩, hO, hnc⟩ := hv
  have hx := B9.exec
  have hb := B9.bytes
  have hr := B9.returns
  have hts0 := atoms_spec (ws := wWh yL_bound cL_bound 4 (some .int) [(0, 9, 12, 43)]) B9.pre
  have hts : ∀ w ∈ LW, w.before _ s = true := fun w hw => hts0 w (List.mem_cons_of_mem _ hw)
  have hown : s.vm.findClass RL = some m.cls := findClass_of_methodNamed B9.named
  have hlocks := B9.notSynchronized
  have hK := hfix.1
  have hS : va_S (Al sz0) s.heap s.heap [] := va_S.rf
  have hM := snd (ρ := rho sz0) (sg := sg) (cA := cA) (D := D) (sz0 := sz0) htr 8 cQ_bound _ M Q hcal nQ_bound rfl
  have hrv := va_recv hfix.1 hP (gCl_at 11 (by decide)) (wWs_ob (show wOb 149 = 11 + 1 from by decide +kernel))
  have hl := lv_entry ([.ref (rho sz0 149), .int (Int32.ofInt a1), .ref (sz0 + 176)]) (n := 4) (Nat.le_of_ble_eq_true rfl)
  rw [lg_entry_eq]
  generalize (lg_sl ([.ref (rho sz0 149), .int (Int32.ofInt a1), .ref (sz0 + 176)]) ++ List.replicate (4 - (lg_sl ([.ref (rho sz0 149), .int (Int32.ofInt a1), .ref (sz0 + 176)])).length) Slot.unset).toArray = ls at hl ⊢
  have hl : lv_has ls 4 [(0, .ref (rho sz0 149)), (1, .int (Int32.ofInt a1)), (2, .ref (sz0 + 176))] := hl
  refine lv_aload_n hx hb dL_bound_0 rfl (lv_at hl 2 rfl) ?_
  refine lv_iconst (v := 0) hx hb dL_bound_1 (by decide) ?_
  refine lv_aload_n hx hb dL_bound_2 rfl (lv_at hl 0 rfl) ?_
  refine lv_iload_n hx hb dL_bound_3 rfl (lv_at hl 1 rfl) ?_
  refine vx_calli (vx_runV (As := [.int (Int32.ofInt a1)]) (rest := [.int 0, .ref (sz0 + 176)]) ⟨hx, hb, hml, hown, hts⟩ hM (cwV 1 hts (wsV_good wH_122 wH_123 wH_124 wH_3 wH_125) rfl rfl rfl (by decide +kernel) ⟨Nat.le_of_ble_eq_true rfl, Nat.le_of_ble_eq_true rfl⟩) ⟨wPic_blind, hrv, fun U hU hW => ⟨rfl, (by rw [hU]; exact hP), hD, (by rw [hU]; exact hsz), hfix.warm hW (fun q _ _ => by rw [hU])⟩⟩ rfl rfl hl.1 rfl (lv_room (Nat.le_of_ble_eq_true rfl)) dL_bound_4 ⟨Nat.le_of_ble_eq_true rfl, Nat.le_of_ble_eq_true rfl⟩) hS (fun q _ h => h.1) (fun q h => h.1) (fun q _ h => h.1) (fun E ce q9 u t H1 locs1 ht hal hp hB hz1 hfr hS hce hv hcl => ?_) (fun r u t H1 locs1 ht hal hp hB hz1 hfr hS => ?_)
  · obtain ⟨e9, M1⟩ := u
    obtain ⟨hE, hB⟩ := hB
    dsimp only at hE hp hB
    subst hE
    rw [ht] at hB
    have hO1 := hO.kept hfr
    have hm := hes _ _ hp
    simp only [List.mem_cons, List.not_mem_nil, or_false] at hm
    subst hm
    refine vx_catch hown [] ⟨0, 9, 12, 43⟩ [] htab (fun z hz => absurd hz List.not_mem_nil) (by decide) (by decide) (hts _ wH_33) (va_Nw.use rfl (hfix.2.2.2.2.2.2.2.2.1 _ _ (lw_in5 _ (List.mem_of_getElem? (i := 100) (by decide +kernel))))) hce hv hcl ?_
    refine lv_astore_n (lv' := [(3, .ref q9), (0, .ref (rho sz0 149)), (1, .int (Int32.ofInt a1)), (2, .ref (sz0 + 176))]) hx hb dL_bound_12 rfl hl (by decide) rfl (fun ls hl => ?_)
    refine lv_iconst (v := Int32.ofInt ((0 + 1 : Nat) : Int)) hx hb dL_bound_13 (by decide) ?_
    exact W.iret (v := Int32.ofInt ((0 + 1 : Nat) : Int)) hx hb hr (fun t2 ht2 hW => ⟨⟨_, (M1, z), rfl, Or.inr ⟨0, 5, rfl, rfl, hp⟩, (by rw [ht2]; exact hB), (by rw [ht2]; exact hO1)⟩, hS.F ht2⟩) hS.2.2 dL_bound_14
  · obtain ⟨x, rfl, hq⟩ := hp
    rw [ht] at hB
    have hO1 := hO.kept hfr
    refine lv_i2l hx hb dL_bound_7 rfl ?_
    refine out_last hx hb hK hO1 hB hS dL_bound_8 (fun H1 locs1 hO1 hB hS => ?_)
    refine lv_goto (tgt := 15) hx hb dL_bound_9 (by decide) ?_
    refine lv_iconst (v := 0) hx hb dL_bound_15 (by decide) ?_
    exact W.iret (v := 0) hx hb hr (fun t2 ht2 hW => ⟨⟨_, (u, cvI x), rfl, Or.inl ⟨x, rfl, hq, rfl⟩, (by rw [ht2]; exact hB), (by rw [ht2]; exact hO1)⟩, hS.F ht2⟩) hS.2.2 dL_bound_16
theorem dL_option_0 : decode cL_option 0 = .ok (.aload 4, 2) := by decide +kernel
theorem dL_option_2 : decode cL_option 2 = .ok (.iconst 0, 1) := by decide +kernel
theorem dL_option_3 : decode cL_option 3 = .ok (.aload_n 0, 1) := by decide +kernel
theorem dL_option_4 : decode cL_option 4 = .ok (.iload_n 1, 1) := by decide +kernel
theorem dL_option_5 : decode cL_option 5 = .ok (.iload_n 2, 1) := by decide +kernel
theorem dL_option_6 : decode cL_option 6 = .ok (.iload_n 3, 1) := by decide +kernel
theorem dL_option_7 : decode cL_option 7 = .ok (.invokevirtual 118, 3) := by decide +kernel
theorem dL_option_10 : decode cL_option 10 = .ok (.i2l, 1) := by decide +kernel
theorem dL_option_11 : decode cL_option 11 = .ok (.lastore, 1) := by decide +kernel
theorem dL_option_12 : decode cL_option 12 = .ok (.goto 7, 3) := by decide +kernel
theorem dL_option_15 : decode cL_option 15 = .ok (.astore 5, 2) := by decide +kernel
theorem dL_option_17 : decode cL_option 17 = .ok (.iconst 1, 1) := by decide +kernel
theorem dL_option_18 : decode cL_option 18 = .ok (.ireturn, 1) := by decide +kernel
theorem dL_option_19 : decode cL_option 19 = .ok (.iconst 0, 1) := by decide +kernel
theorem dL_option_20 : decode cL_option 20 = .ok (.ireturn, 1) := by decide +kernel
set_option maxHeartbeats 4000000 in
set_option maxRecDepth 100000 in
theorem hp_option {l : Launch} (htr : l.stackTraces = false) {sg : Nat → Nat} {cA : Nat → ClassId} {D : va_G} {sz0 : Nat} {a1 a2 a3 : Int} {z : Int64} {M : Mem} {Q : Rs → Mem → Prop} (hcal : cald 8 cQ_option [oQ, .inl a1, .inl a2, .inl a3] M Q) (hes : ∀ e M', Q (.inr e) M' → e ∈ [2]) : Met l yL_option (wWh yL_option cL_option 6 (some .int) [(0, 12, 15, 25)]) ({ frames := 17, cells := 1, slots := 6, locals := 750 }) (va_Pc [.ref (rho sz0 149), .int (Int32.ofInt a1), .int (Int32.ofInt a2), .int (Int32.ofInt a3), .ref (sz0 + 176)] (lPre sg cA D sz0 M z)) (va_Qi (lPost [2] cvI Q) (lW cA D sz0) (Al sz0)) 1 6 (Al sz0) := by
  refine met_ofWH (cc := cL_option) (maxL := 6) (ret := some .int) (hh := [(0, 12, 15, 25)]) (by decide) rfl ?_
  intro p e s m args below meth c s₁ B9 hml htab hv
  obtain ⟨rfl, ⟨hP, hD, hsz, hfix⟩, hO, hnc⟩ := hv
  have hx := B9.exec
  have hb := B9.bytes
  have hr := B9.returns
  have hts0 := atoms_spec (ws := wWh yL_option cL_option 6 (some .int) [(0, 12, 15, 25)]) B9.pre
  have hts : ∀ w ∈ LW, w.before _ s = true := fun w hw => hts0 w (List.mem_cons_of_mem _ hw)
  have hown : s.vm.findClass RL = some m.cls := findClass_of_methodNamed B9.named
  have hlocks := B9.notSynchronized
  have hK := hfix.1
  have hS : va_S (Al sz0) s.heap s.heap [] := va_S.rf
  have hM := snd (ρ := rho sz0) (sg := sg) (cA := cA) (D := D) (sz0 := sz0) htr 8 cQ_option _ M Q hcal nQ_option rfl
  have hrv := va_recv hfix.1 hP (gCl_at 11 (by decide)) (wWs_ob (show wOb 149 = 11 + 1 from by decide +kernel))
  have hl := lv_entry ([.ref (rho sz0 149), .int (Int32.ofInt a1), .int (Int32.ofInt a2), .int (Int32.ofInt a3), .ref (sz0 + 176)]) (n := 6) (Nat.le_of_ble_eq_true rfl)
  rw [lg_entry_eq]
  generalize (lg_sl ([.ref (rho sz0 149), .int (Int32.ofInt a1), .int (Int32.ofInt a2), .int (Int32.ofInt a3), .ref (sz0 + 176)]) ++ List.replicate (6 - (lg_sl ([.ref (rho sz0 149), .int (Int32.ofInt a1), .int (Int32.ofInt a2), .int (Int32.ofInt a3), .ref (sz0 + 176)])).length) Slot.unset).toArray = ls at hl ⊢
  have hl : lv_has ls 6 [(0, .ref (rho sz0 149)), (1, .int (Int32.ofInt a1)), (2, .int (Int32.ofInt a2)), (3, .int (Int32.ofInt a3)), (4, .ref (sz0 + 176))] := hl
  refine lv_aload hx hb dL_option_0 (lv_at hl 4 rfl) ?_
  refine lv_iconst (v := 0) hx hb dL_option_2 (by decide) ?_
  refine lv_aload_n hx hb dL_option_3 rfl (lv_at hl 0 rfl) ?_
  refine lv_iload_n hx hb dL_option_4 rfl (lv_at hl 1 rfl) ?_
  refine lv_iload_n hx hb dL_option_5 rfl (lv_at hl 2 rfl) ?_
  refine lv_iload_n hx hb dL_option_6 rfl (lv_at hl 3 rfl) ?_
  refine vx_calli (vx_runV (As := [.int (Int32.ofInt a1), .int (Int32.ofInt a2), .int (Int32.ofInt a3)]) (rest := [.int 0, .ref (sz0 + 176)]) ⟨hx, hb, hml, hown, hts⟩ hM (cwV 3 hts (wsV_good wH_126 wH_127 wH_128 wH_3 wH_129) rfl rfl rfl (by decide +kernel) ⟨Nat.le_of_ble_eq_true rfl, Nat.le_of_ble_eq_true rfl⟩) ⟨wPic_blind, hrv, fun U hU hW => ⟨rfl, (by rw [hU]; exact hP), hD, (by rw [hU]; exact hsz), hfix.warm hW (fun q _ _ => by rw [hU])⟩⟩ rfl rfl hl.1 rfl (lv_room (Nat.le_of_ble_eq_true rfl)) dL_option_7 ⟨Nat.le_of_ble_eq_true rfl, Nat.le_of_ble_eq_true rfl⟩) hS (fun q _ h => h.1) (fun q h => h.1) (fun q _ h => h.1) (fun E ce q9 u t H1 locs1 ht hal hp hB hz1 hfr hS hce hv hcl => ?_) (fun r u t H1 locs1 ht hal hp hB hz1 hfr hS => ?_)
  · obtain ⟨e9, M1⟩ := u
    obtain ⟨hE, hB⟩ := hB
    dsimp only at hE hp hB
    subst hE
    rw [ht] at hB
    have hO1 := hO.kept hfr
    have hm := hes _ _ hp
    simp only [List.mem_cons, List.not_mem_nil, or_false] at hm
    subst hm
    refine vx_catch hown [] ⟨0, 12, 15, 25⟩ [] htab (fun z hz => absurd hz List.not_mem_nil) (by decide) (by decide) (hts _ wH_15) (va_Nw.use rfl (hfix.2.2.2.2.2.2.2.2.1 _ _ (lw_in4 _ (List.mem_of_getElem? (i := 236) (by decide +kernel))))) hce hv hcl ?_
    refine lv_astore (lv' := [(5, .ref q9), (0, .ref (rho sz0 149)), (1, .int (Int32.ofInt a1)), (2, .int (Int32.ofInt a2)), (3, .int (Int32.ofInt a3)), (4, .ref (sz0 + 176))]) hx hb dL_option_15 hl (by decide) rfl (fun ls hl => ?_)
    refine lv_iconst (v := Int32.ofInt ((0 + 1 : Nat) : Int)) hx hb dL_option_17 (by decide) ?_
    exact W.iret (v := Int32.ofInt ((0 + 1 : Nat) : Int)) hx hb hr (fun t2 ht2 hW => ⟨⟨_, (M1, z), rfl, Or.inr ⟨0, 2, rfl, rfl, hp⟩, (by rw [ht2]; exact hB), (by rw [ht2]; exact hO1)⟩, hS.F ht2⟩) hS.2.2 dL_option_18
  · obtain ⟨x, rfl, hq⟩ := hp
    rw [ht] at hB
    have hO1 := hO.kept hfr
    refine lv_i2l hx hb dL_option_10 rfl ?_
    refine out_last hx hb hK hO1 hB hS dL_option_11 (fun H1 locs1 hO1 hB hS => ?_)
    refine lv_goto (tgt := 19) hx hb dL_option_12 (by decide) ?_
    refine lv_iconst (v := 0) hx hb dL_option_19 (by decide) ?_
    exact W.iret (v := 0) hx hb hr (fun t2 ht2 hW => ⟨⟨_, (u, cvI x), rfl, Or.inl ⟨x, rfl, hq, rfl⟩, (by rw [ht2]; exact hB), (by rw [ht2]; exact hO1)⟩, hS.F ht2⟩) hS.2.2 dL_option_20
theorem dL_split_0 : decode cL_split 0 = .ok (.aload 4, 2) := by decide +kernel
theorem dL_split_2 : decode cL_split 2 = .ok (.iconst 0, 1) := by decide +kernel
theorem dL_split_3 : decode cL_split 3 = .ok (.aload_n 0, 1) := by decide +kernel
theorem dL_split_4 : decode cL_split 4 = .ok (.iload_n 1, 1) := by decide +kernel
theorem dL_split_5 : decode cL_split 5 = .ok (.iload_n 2, 1) := by decide +kernel
theorem dL_split_6 : decode cL_split 6 = .ok (.iload_n 3, 1) := by decide +kernel
theorem dL_split_7 : decode cL_split 7 = .ok (.invokevirtual 121, 3) := by decide +kernel
theorem dL_split_10 : decode cL_split 10 = .ok (.i2l, 1) := by decide +kernel
theorem dL_split_11 : decode cL_split 11 = .ok (.lastore, 1) := by decide +kernel
theorem dL_split_12 : decode cL_split 12 = .ok (.goto 7, 3) := by decide +kernel
theorem dL_split_15 : decode cL_split 15 = .ok (.astore 5, 2) := by decide +kernel
theorem dL_split_17 : decode cL_split 17 = .ok (.iconst 1, 1) := by decide +kernel
theorem dL_split_18 : decode cL_split 18 = .ok (.ireturn, 1) := by decide +kernel
theorem dL_split_19 : decode cL_split 19 = .ok (.iconst 0, 1) := by decide +kernel
theorem dL_split_20 : decode cL_split 20 = .ok (.ireturn, 1) := by decide +kernel
set_option maxHeartbeats 4000000 in
set_option maxRecDepth 100000 in
theorem hp_split {l : Launch} (htr : l.stackTraces = false) {sg : Nat → Nat} {cA : Nat → ClassId} {D : va_G} {sz0 : Nat} {a1 a2 a3 : Int} {z : Int64} {M : Mem} {Q : Rs → Mem → Prop} (hcal : cald 8 cQ_split [oQ, .inl a1, .inl a2, .inl a3] M Q) (hes : ∀ e M', Q (.inr e) M' → e ∈ [2]) : Met l yL_split (wWh yL_split cL_split 6 (some .int) [(0, 12, 15, 25)]) ({ frames := 17, cells := 1, slots := 6, locals := 750 }) (va_Pc [.ref (rho sz0 149), .int (Int32.ofInt a1), .int (Int32.ofInt a2), .int (Int32.ofInt a3), .ref (sz0 + 176)] (lPre sg cA D sz0 M z)) (va_Qi (lPost [2] cvI Q) (lW cA D sz0) (Al sz0)) 1 6 (Al sz0) := by
  refine met_ofWH (cc := cL_split) (maxL := 6) (ret := some .int) (hh := [(0, 12, 15, 25)]) (by decide) rfl ?_
  intro p e s m args below meth c s₁ B9 hml htab hv
  obtain ⟨rfl, ⟨hP, hD, hsz, hfix⟩, hO, hnc⟩ := hv
  have hx := B9.exec
  have hb := B9.bytes
  have hr := B9.returns
  have hts0 := atoms_spec (ws := wWh yL_split cL_split 6 (some .int) [(0, 12, 15, 25)]) B9.pre
  have hts : ∀ w ∈ LW, w.before _ s = true := fun w hw => hts0 w (List.mem_cons_of_mem _ hw)
  have hown : s.vm.findClass RL = some m.cls := findClass_of_methodNamed B9.named
  have hlocks := B9.notSynchronized
  have hK := hfix.1
  have hS : va_S (Al sz0) s.heap s.heap [] := va_S.rf
  have hM := snd (ρ := rho sz0) (sg := sg) (cA := cA) (D := D) (sz0 := sz0) htr 8 cQ_split _ M Q hcal nQ_split rfl
  have hrv := va_recv hfix.1 hP (gCl_at 11 (by decide)) (wWs_ob (show wOb 149 = 11 + 1 from by decide +kernel))
  have hl := lv_entry ([.ref (rho sz0 149), .int (Int32.ofInt a1), .int (Int32.ofInt a2), .int (Int32.ofInt a3), .ref (sz0 + 176)]) (n := 6) (Nat.le_of_ble_eq_true rfl)
  rw [lg_entry_eq]
  generalize (lg_sl ([.ref (rho sz0 149), .int (Int32.ofInt a1), .int (Int32.ofInt a2), .int (Int32.ofInt a3), .ref (sz0 + 176)]) ++ List.replicate (6 - (lg_sl ([.ref (rho sz0 149), .int (Int32.ofInt a1), .int (Int32.ofInt a2), .int (Int32.ofInt a3), .ref (sz0 + 176)])).length) Slot.unset).toArray = ls at hl ⊢
  have hl : lv_has ls 6 [(0, .ref (rho sz0 149)), (1, .int (Int32.ofInt a1)), (2, .int (Int32.ofInt a2)), (3, .int (Int32.ofInt a3)), (4, .ref (sz0 + 176))] := hl
  refine lv_aload hx hb dL_split_0 (lv_at hl 4 rfl) ?_
  refine lv_iconst (v := 0) hx hb dL_split_2 (by decide) ?_
  refine lv_aload_n hx hb dL_split_3 rfl (lv_at hl 0 rfl) ?_
  refine lv_iload_n hx hb dL_split_4 rfl (lv_at hl 1 rfl) ?_
  refine lv_iload_n hx hb dL_split_5 rfl (lv_at hl 2 rfl) ?_
  refine lv_iload_n hx hb dL_split_6 rfl (lv_at hl 3 rfl) ?_
  refine vx_calli (vx_runV (As := [.int (Int32.ofInt a1), .int (Int32.ofInt a2), .int (Int32.ofInt a3)]) (rest := [.int 0, .ref (sz0 + 176)]) ⟨hx, hb, hml, hown, hts⟩ hM (cwV 3 hts (wsV_good wH_130 wH_131 wH_132 wH_3 wH_133) rfl rfl rfl (by decide +kernel) ⟨Nat.le_of_ble_eq_true rfl, Nat.le_of_ble_eq_true rfl⟩) ⟨wPic_blind, hrv, fun U hU hW => ⟨rfl, (by rw [hU]; exact hP), hD, (by rw [hU]; exact hsz), hfix.warm hW (fun q _ _ => by rw [hU])⟩⟩ rfl rfl hl.1 rfl (lv_room (Nat.le_of_ble_eq_true rfl)) dL_split_7 ⟨Nat.le_of_ble_eq_true rfl, Nat.le_of_ble_eq_true rfl⟩) hS (fun q _ h => h.1) (fun q h => h.1) (fun q _ h => h.1) (fun E ce q9 u t H1 locs1 ht hal hp hB hz1 hfr hS hce hv hcl => ?_) (fun r u t H1 locs1 ht hal hp hB hz1 hfr hS => ?_)
  · obtain ⟨e9, M1⟩ := u
    obtain ⟨hE, hB⟩ := hB
    dsimp only at hE hp hB
    subst hE
    rw [ht] at hB
    have hO1 := hO.kept hfr
    have hm := hes _ _ hp
    simp only [List.mem_cons, List.not_mem_nil, or_false] at hm
    subst hm
    refine vx_catch hown [] ⟨0, 12, 15, 25⟩ [] htab (fun z hz => absurd hz List.not_mem_nil) (by decide) (by decide) (hts _ wH_15) (va_Nw.use rfl (hfix.2.2.2.2.2.2.2.2.1 _ _ (lw_in4 _ (List.mem_of_getElem? (i := 236) (by decide +kernel))))) hce hv hcl ?_
    refine lv_astore (lv' := [(5, .ref q9), (0, .ref (rho sz0 149)), (1, .int (Int32.ofInt a1)), (2, .int (Int32.ofInt a2)), (3, .int (Int32.ofInt a3)), (4, .ref (sz0 + 176))]) hx hb dL_split_15 hl (by decide) rfl (fun ls hl => ?_)
    refine lv_iconst (v := Int32.ofInt ((0 + 1 : Nat) : Int)) hx hb dL_split_17 (by decide) ?_
    exact W.iret (v := Int32.ofInt ((0 + 1 : Nat) : Int)) hx hb hr (fun t2 ht2 hW => ⟨⟨_, (M1, z), rfl, Or.inr ⟨0, 2, rfl, rfl, hp⟩, (by rw [ht2]; exact hB), (by rw [ht2]; exact hO1)⟩, hS.F ht2⟩) hS.2.2 dL_split_18
  · obtain ⟨x, rfl, hq⟩ := hp
    rw [ht] at hB
    have hO1 := hO.kept hfr
    refine lv_i2l hx hb dL_split_10 rfl ?_
    refine out_last hx hb hK hO1 hB hS dL_split_11 (fun H1 locs1 hO1 hB hS => ?_)
    refine lv_goto (tgt := 19) hx hb dL_split_12 (by decide) ?_
    refine lv_iconst (v := 0) hx hb dL_split_19 (by decide) ?_
    exact W.iret (v := 0) hx hb hr (fun t2 ht2 hW => ⟨⟨_, (u, cvI x), rfl, Or.inl ⟨x, rfl, hq, rfl⟩, (by rw [ht2]; exact hB), (by rw [ht2]; exact hO1)⟩, hS.F ht2⟩) hS.2.2 dL_split_20
theorem dL_price_0 : decode cL_price 0 = .ok (.aload_n 2, 1) := by decide +kernel
theorem dL_price_1 : decode cL_price 1 = .ok (.iconst 0, 1) := by decide +kernel
theorem dL_price_2 : decode cL_price 2 = .ok (.aload_n 0, 1) := by decide +kernel
theorem dL_price_3 : decode cL_price 3 = .ok (.iload_n 1, 1) := by decide +kernel
theorem dL_price_4 : decode cL_price 4 = .ok (.invokevirtual 125, 3) := by decide +kernel
theorem dL_price_7 : decode cL_price 7 = .ok (.i2l, 1) := by decide +kernel
theorem dL_price_8 : decode cL_price 8 = .ok (.lastore, 1) := by decide +kernel
theorem dL_price_9 : decode cL_price 9 = .ok (.goto 6, 3) := by decide +kernel
theorem dL_price_12 : decode cL_price 12 = .ok (.astore_n 3, 1) := by decide +kernel
theorem dL_price_13 : decode cL_price 13 = .ok (.iconst 1, 1) := by decide +kernel
theorem dL_price_14 : decode cL_price 14 = .ok (.ireturn, 1) := by decide +kernel
theorem dL_price_15 : decode cL_price 15 = .ok (.iconst 0, 1) := by decide +kernel
theorem dL_price_16 : decode cL_price 16 = .ok (.ireturn, 1) := by decide +kernel
set_option maxHeartbeats 4000000 in
set_option maxRecDepth 100000 in
theorem hp_price {l : Launch} (htr : l.stackTraces = false) {sg : Nat → Nat} {cA : Nat → ClassId} {D : va_G} {sz0 : Nat} {a1 : Int} {z : Int64} {M : Mem} {Q : Rs → Mem → Prop} (hcal : cald 8 cQ_price [oQ, .inl a1] M Q) (hes : ∀ e M', Q (.inr e) M' → e ∈ [2]) : Met l yL_price (wWh yL_price cL_price 4 (some .int) [(0, 9, 12, 25)]) ({ frames := 17, cells := 1, slots := 6, locals := 750 }) (va_Pc [.ref (rho sz0 149), .int (Int32.ofInt a1), .ref (sz0 + 176)] (lPre sg cA D sz0 M z)) (va_Qi (lPost [2] cvI Q) (lW cA D sz0) (Al sz0)) 1 6 (Al sz0) := by
  refine met_ofWH (cc := cL_price) (maxL := 4) (ret := some .int) (hh := [(0, 9, 12, 25)]) (by decide) rfl ?_
  intro p e s m args below meth c s₁ B9 hml htab hv
  obtain ⟨rfl, ⟨hP, hD, hsz, hfix⟩, hO, hnc⟩ := hv
  have hx := B9.exec
  have hb := B9.bytes
  have hr := B9.returns
  have hts0 := atoms_spec (ws := wWh yL_price cL_price 4 (some .int) [(0, 9, 12, 25)]) B9.pre
  have hts : ∀ w ∈ LW, w.before _ s = true := fun w hw => hts0 w (List.mem_cons_of_mem _ hw)
  have hown : s.vm.findClass RL = some m.cls := findClass_of_methodNamed B9.named
  have hlocks := B9.notSynchronized
  have hK := hfix.1
  have hS : va_S (Al sz0) s.heap s.heap [] := va_S.rf
  have hM := snd (ρ := rho sz0) (sg := sg) (cA := cA) (D := D) (sz0 := sz0) htr 8 cQ_price _ M Q hcal nQ_price rfl
  have hrv := va_recv hfix.1 hP (gCl_at 11 (by decide)) (wWs_ob (show wOb 149 = 11 + 1 from by decide +kernel))
  have hl := lv_entry ([.ref (rho sz0 149), .int (Int32.ofInt a1), .ref (sz0 + 176)]) (n := 4) (Nat.le_of_ble_eq_true rfl)
  rw [lg_entry_eq]
  generalize (lg_sl ([.ref (rho sz0 149), .int (Int32.ofInt a1), .ref (sz0 + 176)]) ++ List.replicate (4 - (lg_sl ([.ref (rho sz0 149), .int (Int32.ofInt a1), .ref (sz0 + 176)])).length) Slot.unset).toArray = ls at hl ⊢
  have hl : lv_has ls 4 [(0, .ref (rho sz0 149)), (1, .int (Int32.ofInt a1)), (2, .ref (sz0 + 176))] := hl
  refine lv_aload_n hx hb dL_price_0 rfl (lv_at hl 2 rfl) ?_
  refine lv_iconst (v := 0) hx hb dL_price_1 (by decide) ?_
  refine lv_aload_n hx hb dL_price_2 rfl (lv_at hl 0 rfl) ?_
  refine lv_iload_n hx hb dL_price_3 rfl (lv_at hl 1 rfl) ?_
  refine vx_calli (vx_runV (As := [.int (Int32.ofInt a1)]) (rest := [.int 0, .ref (sz0 + 176)]) ⟨hx, hb, hml, hown, hts⟩ hM (cwV 1 hts (wsV_good wH_134 wH_135 wH_136 wH_3 wH_137) rfl rfl rfl (by decide +kernel) ⟨Nat.le_of_ble_eq_true rfl, Nat.le_of_ble_eq_true rfl⟩) ⟨wPic_blind, hrv, fun U hU hW => ⟨rfl, (by rw [hU]; exact hP), hD, (by rw [hU]; exact hsz), hfix.warm hW (fun q _ _ => by rw [hU])⟩⟩ rfl rfl hl.1 rfl (lv_room (Nat.le_of_ble_eq_true rfl)) dL_price_4 ⟨Nat.le_of_ble_eq_true rfl, Nat.le_of_ble_eq_true rfl⟩) hS (fun q _ h => h.1) (fun q h => h.1) (fun q _ h => h.1) (fun E ce q9 u t H1 locs1 ht hal hp hB hz1 hfr hS hce hv hcl => ?_) (fun r u t H1 locs1 ht hal hp hB hz1 hfr hS => ?_)
  · obtain ⟨e9, M1⟩ := u
    obtain ⟨hE, hB⟩ := hB
    dsimp only at hE hp hB
    subst hE
    rw [ht] at hB
    have hO1 := hO.kept hfr
    have hm := hes _ _ hp
    simp only [List.mem_cons, List.not_mem_nil, or_false] at hm
    subst hm
    refine vx_catch hown [] ⟨0, 9, 12, 25⟩ [] htab (fun z hz => absurd hz List.not_mem_nil) (by decide) (by decide) (hts _ wH_15) (va_Nw.use rfl (hfix.2.2.2.2.2.2.2.2.1 _ _ (lw_in4 _ (List.mem_of_getElem? (i := 236) (by decide +kernel))))) hce hv hcl ?_
    refine lv_astore_n (lv' := [(3, .ref q9), (0, .ref (rho sz0 149)), (1, .int (Int32.ofInt a1)), (2, .ref (sz0 + 176))]) hx hb dL_price_12 rfl hl (by decide) rfl (fun ls hl => ?_)
    refine lv_iconst (v := Int32.ofInt ((0 + 1 : Nat) : Int)) hx hb dL_price_13 (by decide) ?_
    exact W.iret (v := Int32.ofInt ((0 + 1 : Nat) : Int)) hx hb hr (fun t2 ht2 hW => ⟨⟨_, (M1, z), rfl, Or.inr ⟨0, 2, rfl, rfl, hp⟩, (by rw [ht2]; exact hB), (by rw [ht2]; exact hO1)⟩, hS.F ht2⟩) hS.2.2 dL_price_14
  · obtain ⟨x, rfl, hq⟩ := hp
    rw [ht] at hB
    have hO1 := hO.kept hfr
    refine lv_i2l hx hb dL_price_7 rfl ?_
    refine out_last hx hb hK hO1 hB hS dL_price_8 (fun H1 locs1 hO1 hB hS => ?_)
    refine lv_goto (tgt := 15) hx hb dL_price_9 (by decide) ?_
    refine lv_iconst (v := 0) hx hb dL_price_15 (by decide) ?_
    exact W.iret (v := 0) hx hb hr (fun t2 ht2 hW => ⟨⟨_, (u, cvI x), rfl, Or.inl ⟨x, rfl, hq, rfl⟩, (by rw [ht2]; exact hB), (by rw [ht2]; exact hO1)⟩, hS.F ht2⟩) hS.2.2 dL_price_16
