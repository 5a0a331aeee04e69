section NSE2
variable {p : Program} {l : Launch} {e : Env} {R : Room} {s : State} {m : MethodId} {args : Array Value} {below : List Frame} {meth : Method} {c : Code} {H : Heap} {locs : List Loc} {cells slots : Nat}
variable {mc ms : Nat} {free : Addr → Prop} {ls : Array Slot} {rest : List Value}
variable {Qc : Array Value → State → Outcome → State → Prop} {XC : String → State → State → Prop}
/-- 'throw new E("text")' where E passes its text on by the index ix -/
theorem throwN {cc : ByteArray} {pc n4 : Nat} (hexec : p.tables.exec = Jvm.exec) (hb : c.code = cc) (hl : l.stackTraces = false) {own cls up text : String} {names : List String} {ik is ic ix sa : Nat} {bytes : ByteArray} {A : Nat → Prop}
    (b0 : decode bytes 0 = .ok (.aload_n 0, 1)) (b1 : decode bytes 1 = .ok (.aload_n 1, 1)) (b2 : decode bytes 2 = .ok (.invokespecial ix, 3)) (b5 : decode bytes 5 = .ok (.return_, 1))
    (hown : s.vm.findClass own = some m.cls) (hcls : Bundle.fit cls = true) (hup : Bundle.fit up = true) (hnames : ∀ n ∈ names, Bundle.fit n = true)
    (hk : (Cond.classLink own ik cls).before args s = true) (hini : (Cond.initialized cls).before args s = true) (hstr : vk_R own is text sa s) (hat : ∀ w ∈ (wordsN own ic cls up ix bytes names).filter vx_no, w.before args s = true)
    (hgood : ∀ w ∈ Cond.classLink own ik cls :: Cond.initialized cls :: (wordsN own ic cls up ix bytes names).filter vx_no, vx_ot w = true)
    (hU : vx_Zq Bundle.tN "UNASSIGNED_STACK" Bundle.steD A s s.heap) (hN : vx_Zq Bundle.tN "SUPPRESSED_SENTINEL" Bundle.listD A s s.heap) (hS : va_S A s.heap H locs) (hsize : ls.size = c.maxLocals)
    (d0 : decode cc pc = .ok (.new ik, 3)) (d3 : decode cc (pc + 3) = .ok (.dup, 1)) (d4 : (decode cc (pc + 4) = .ok (.ldc is, 2) ∧ n4 = 2) ∨ (decode cc (pc + 4) = .ok (.ldc_w is, 3) ∧ n4 = 3)) (d6 : decode cc (pc + 4 + n4) = .ok (.invokespecial ic, 3)) (d9 : decode cc (pc + 4 + n4 + 3) = .ok (.athrow, 1))
    (hout : ∀ x ∈ c.exceptionTable.toList, covers x (pc + 4 + n4 + 3) = false)
    (hRframes : names.length + 4 < R.frames) (hRlocals : (rest.map fun v => v.category).sum + (13 * (names.length + 2) + 43) ≤ R.locals) (hRcells : cells + 1 ≤ R.cells) (hRslots : slots + 6 ≤ R.slots) (hlocks : meth.locks = false)
    (hx : ∀ t : State, s.vm.Alike t.vm → H.size ≤ t.heap.size → (∀ q : Nat, q < H.size → t.heap[q]? = H[q]?) → XC cls s t)
    (hf : ∀ z ∈ locs, free z.base) (hc : cells + 1 ≤ mc) (hs : slots + 6 ≤ ms) :
    W p l e R s m args below meth c H locs cells slots (vx_MQ below Qc XC args s mc ms free) (F0 m pc ls rest) := by
  intro T hT X
  have htr : e.platform.stackTraces = false := (show e.platform.stackTraces = l.stackTraces by rw [X.admits.platform]).trans hl
  have Y := vx_rebase X (R' := { frames := R.frames, locals := R.locals, cells := 1, slots := 6 }) (Nat.le_refl _) (Nat.le_refl _) hRcells hRslots
  obtain ⟨s', hA⟩ : ∃ z, z = (T.setVm s.vm).setFrames (.invoking m args :: below) := ⟨_, rfl⟩
  rw [← hA] at Y
  have hvm : s'.vm = s.vm := by rw [hA]; rfl
  have hhp : s'.heap = H := by rw [hA]; exact hT
  have hW0 : s.WarmedH s'.vm := by rw [hvm]; exact State.WarmedH.refl s
  have hat' : ∀ w ∈ (wordsN own ic cls up ix bytes names).filter vx_no, w.before args s' = true := fun w hw => vx_ot_at hW0 hvm.symm (hgood w (List.mem_cons_of_mem _ (List.mem_cons_of_mem _ hw))) (hat w hw)
  have hk' : (Cond.classLink own ik cls).before args s' = true := vx_ot_at hW0 hvm.symm (hgood _ List.mem_cons_self) hk
  have hini' : (Cond.initialized cls).before args s' = true := vx_ot_at hW0 hvm.symm (hgood _ (List.mem_cons_of_mem _ List.mem_cons_self)) hini
  have hU' : vx_Zq Bundle.tN "UNASSIGNED_STACK" Bundle.steD A s' s'.heap := by rw [hhp]; exact vx_Zq.moved hW0.alike (hU.kept hS.2.1)
  have hN' : vx_Zq Bundle.tN "SUPPRESSED_SENTINEL" Bundle.listD A s' s'.heap := by rw [hhp]; exact vx_Zq.moved hW0.alike (hN.kept hS.2.1)
  have h : ∀ w ∈ wordsN own ic cls up ix bytes names, w.before args s' = true := vx_own hat' (vx_isRefq hU'.1) (vx_isRefq hN'.1) hU'.2.word hN'.2.word
  have hown' : s'.vm.findClass own = some m.cls := by rw [hvm]; exact hown
  have hins : (Cond.instantiable cls 6).before args s' = true := h _ (by simp [wordsN, endN])
  obtain ⟨vm₁, cX, kX, hfX, hkX, -, -, X₁, st1⟩ := Y.newCold hexec (own := own) (C := cls) (index := ik) (n := 6) hown' hk' hins hini'
    (g := F0 m pc ls rest) rfl (by rw [hb]; exact d0) (Nat.le_refl _) (Nat.le_refl _)
  generalize hT1 : (T.setVm vm₁).pushCell { cls := cX, slots := kX.instanceTypes.map defaultValue, vm := .none } = T1 at X₁ st1
  have hcat : (Value.ref T.heap.size).category = 1 := rfl
  have hcellA : T1.heap[T.heap.size]? = some (freshCell cX kX) := by rw [← hT1]; exact State.heap_pushCell_size _ _
  have d3' : decode c.code (pc + 3) = .ok (.dup, 1) := by rw [hb]; exact d3
  have hstr' : vk_R own is text sa s' := vk_R.warm hW0 hstr
  obtain ⟨U, hsteps, hrun, hend, hW, hsame, ce, hce, hO1, hO2⟩ := ctorThrowN X₁ hexec htr (own := own) (cls := cls) (up := up) (names := names) (ic := ic) (ix := ix) (bytes := bytes) b0 b1 b2 b5 hown' hcls hup hnames h (fun x hx => nomatch hx) hfX hkX hcellA (by rw [hhp, hT]; exact Nat.le_refl _) (msg := .ref sa) rfl
    (g := { method := m, pc := pc + 4 + n4, locals := ls, stack := .ref sa :: .ref T.heap.size :: .ref T.heap.size :: rest, locked := none }) rfl hsize rfl rfl (rest := rest) rfl
    (by rw [hb]; exact d6) (by rw [hb]; exact d9) hout hRframes (by simp only [List.map_cons, List.sum_cons, hcat]; omega) hlocks
  obtain ⟨f1, f2⟩ := vx_frame hsame
  rw [hhp] at f1 f2
  have hWs : s.WarmedH U.vm := State.WarmedH.trans hW0 hW
  have hcl : s.vm.findClass cls = some ce.cls := by
    have h9 := hO1
    rw [hvm] at h9
    exact h9
  have hall : s.sameButNew ({ U with vm := s.vm } : State) locs mc ms := by
    subst hA
    obtain ⟨e1, e2⟩ := hsame
    rw [State.setFrames_setFrames] at e1
    have h2 : (T.setVm s.vm).sameButNew ({ U with vm := s.vm } : State) [] (0 + 1) (0 + 6) := ⟨e1, e2⟩
    have h3 := X.same.trans h2
    rw [List.append_nil] at h3
    exact h3.mono hc hs
  refine ⟨U, ?_, .threw T.heap.size, hrun, hend, Or.inr ⟨T.heap.size, rfl, cls, ce, locs, hx U hWs.alike f1 (fun q hq => f2 q hq (fun z hz => nomatch hz)), hce, hO2, hcl, hWs, hall, hf⟩⟩
  refine st1 _ ?_
  show Steps p.tables e below (T1.setTop { method := m, pc := pc + 3, locals := ls, stack := .ref T.heap.size :: rest, locked := none }) _
  jvm_step X₁.here [X₁.here.top, hexec, d3', Value.category]
  rcases d4 with ⟨d4, rfl⟩ | ⟨d4, rfl⟩
  · have d4' : decode c.code (pc + 4) = .ok (.ldc is, 2) := by rw [hb]; exact d4
    exact X₁.ldcString hexec (own := own) (text := text) (index := is) (a := sa) hown' hstr'.1 hstr'.2
      (g := { method := m, pc := pc + 4, locals := ls, stack := .ref T.heap.size :: .ref T.heap.size :: rest, locked := none }) rfl d4' _ hsteps
  · have d4' : decode c.code (pc + 4) = .ok (.ldc_w is, 3) := by rw [hb]; exact d4
    exact X₁.ldcStringW hexec (own := own) (text := text) (index := is) (a := sa) hown' hstr'.1 hstr'.2
      (g := { method := m, pc := pc + 4, locals := ls, stack := .ref T.heap.size :: .ref T.heap.size :: rest, locked := none }) rfl d4' _ hsteps
end NSE2
def nsC : ByteArray := prog_41_method_4_code
theorem ns0 : decode nsC 0 = .ok (.aload_n 0, 1) := by decide +kernel
theorem ns1 : decode nsC 1 = .ok (.aload_n 1, 1) := by decide +kernel
theorem ns2 : decode nsC 2 = .ok (.invokespecial 13, 3) := by decide +kernel
theorem ns5 : decode nsC 5 = .ok (.return_, 1) := by decide +kernel
def nsWords : List Cond := (wordsN RX11 193 "java/util/NoSuchElementException" "java/lang/RuntimeException" 13 nsC ["java/lang/Exception"]).filter vx_no
theorem nsWords_ok : (nsWords.all fun w => (goodWord w || isCast w) && decide (w ∈ lw_tbl) && vx_ot w) = true := by decide +kernel
/-- **the throw of a NoSuchElementException** -/
theorem nsOk {l : Launch} {ρ sg : Nat → Nat} {cA : Nat → ClassId} {D : va_G} {Aw : Nat → Prop} : NSOk l ρ sg cA D Aw := by
  intro p e R s m args below meth c own bytes maxL km ret pcs rk Q wl cal ip kc lo st M b c0 d k ts ps dp ik hX hwl hgd hc hs
  obtain ⟨hx, hb, hr, hml, hown, hlocks, hts, htab, hfix, hsz, htr, hR1, hR2, hm40⟩ := hX
  intro hkm H locs ls hl hP hD hS
  have use : ∀ (pp : Nat) (w : Cond), wAt wl pp w = true → (isNestW w = false) → (isStrW w = false) → w ∈ LW := fun pp w h h1 h2 => by
    have hm := wAt_mem h
    rcases hgd w hm with q | q | q
    · exact LW_mem (hwl w hm) q
    · rw [h1] at q; cases q
    · rw [h2] at q; cases q
  simp only [stepG] at hs
  simp only [chkI, dN, dE, dEp, jT, Bool.and_eq_true, decide_eq_true_eq] at hc
  obtain ⟨⟨⟨⟨h0, h3⟩, hdd⟩, rfl, ha1, ha5, rfl⟩, hps⟩ := hc
  obtain ⟨hg, hs1⟩ := guardB_of hs
  rw [Bool.and_eq_true] at hg
  have hg1 := Nat.le_of_ble_eq_true hg.1
  have hg2 := Nat.le_of_ble_eq_true hg.2
  rcases ps with _ | ⟨p0, _ | ⟨p1, _ | ⟨p2, _ | ⟨p3, ps⟩⟩⟩⟩ <;> try (cases hps; done)
  simp only [Bool.and_eq_true] at hps
  obtain ⟨⟨w0, w1⟩, w2⟩ := hps
  cases hq : nth wl p2 with
  | none => rw [hq] at w2; cases w2
  | some v =>
    rw [hq] at w2
    cases v with
    | stringRef o x tx =>
      have w2 := of_decide_eq_true w2
      obtain ⟨rfl, rfl⟩ := w2
      have hm : Cond.stringRef RX11 x tx ∈ lw_tbl := by
        have : wAt wl p2 (.stringRef RX11 x tx) = true := by unfold wAt; rw [hq]; simp
        exact wAt_of hwl this
      obtain ⟨sa, hsa⟩ := hfix.2.2.2.1 _ _ _ hm
      have hat : ∀ w ∈ nsWords, w.before args s = true := by
        intro w hw
        have h9 := List.all_eq_true.mp nsWords_ok w hw
        simp only [Bool.and_eq_true, Bool.or_eq_true, decide_eq_true_eq] at h9
        obtain ⟨⟨h91, h92⟩, h93⟩ := h9
        rcases h91 with h91 | h91
        · exact hts w (LW_mem h92 h91)
        · cases w <;> try (cases h91; done)
          · exact va_Nw.use rfl (hfix.2.2.2.2.2.2.2.2.2 _ h92)
          · exact va_Nw.use rfl (hfix.2.2.2.2.2.2.2.2.1 _ _ h92)
      have hgood : ∀ w ∈ Cond.classLink RX11 ik (exN 5) :: Cond.initialized (exN 5) :: nsWords, vx_ot w = true := by
        intro w hw
        rcases List.mem_cons.mp hw with rfl | hw
        · rfl
        · rcases List.mem_cons.mp hw with rfl | hw
          · rfl
          · have h9 := List.all_eq_true.mp nsWords_ok w hw
            simp only [Bool.and_eq_true] at h9
            exact h9.2
      have hR : (["java/lang/Exception"] : List String).length + 4 < R.frames := by
        have := hm40.2.1
        show 5 < R.frames
        omega
      have hRl : ((st.map (cpv ρ sg)).map fun v => v.category).sum + (13 * ((["java/lang/Exception"] : List String).length + 2) + 43) ≤ R.locals := by
        rw [wsum_cat]
        have := hm40.2.2
        show wsum st + (13 * 3 + 43) ≤ R.locals
        omega
      have hxx : ∀ t : State, s.vm.Alike t.vm → H.size ≤ t.heap.size → (∀ q : Nat, q < H.size → t.heap[q]? = H[q]?) → XCf ρ sg cA D Aw Q (exN 5) s t := fun t _ hz hqq =>
        ⟨(5, M), hs1, ⟨rfl, wP0_kept ⟨hP, hD, (fun q h => hsz q (Nat.le_trans hS.1 h))⟩ hz hqq⟩, Nat.le_trans hS.1 hz, fun q h1 h2 => by rw [hqq q (Nat.lt_of_lt_of_le h1 hS.1)]; exact hS.2.1 q h1 h2⟩
      rw [Bool.or_eq_true] at hdd
      simp only [Bool.and_eq_true, decide_eq_true_eq] at hdd
      have hfit : Bundle.fit "java/lang/RuntimeException" = true := by decide
      have hnm : ∀ n ∈ (["java/lang/Exception"] : List String), Bundle.fit n = true := by decide
      rcases hdd with ⟨⟨d4, d6⟩, d9⟩ | ⟨⟨d4, d7⟩, d10⟩
      · exact throwN (n4 := 2) hx hb htr (A := Aw) ns0 ns1 ns2 ns5 hown (ex_fit 5) hfit hnm (hts _ (use _ _ w0 rfl rfl)) (hts _ (use _ _ w1 rfl rfl)) hsa hat hgood hfix.2.2.2.2.2.1 hfix.2.2.2.2.2.2.1 hS (by rw [hl.1, hml]) h0 h3 (Or.inl ⟨d4, rfl⟩) d6 d9 (fun x hx => (htab x hx).elim) hR hRl (by rw [hR1]; exact hg1) (by rw [hR2]; omega) hlocks hxx hS.2.2 hg1 (by omega)
      · exact throwN (n4 := 3) hx hb htr (A := Aw) ns0 ns1 ns2 ns5 hown (ex_fit 5) hfit hnm (hts _ (use _ _ w0 rfl rfl)) (hts _ (use _ _ w1 rfl rfl)) hsa hat hgood hfix.2.2.2.2.2.1 hfix.2.2.2.2.2.2.1 hS (by rw [hl.1, hml]) h0 h3 (Or.inr ⟨d4, rfl⟩) d7 d10 (fun x hx => (htab x hx).elim) hR hRl (by rw [hR1]; exact hg1) (by rw [hR2]; omega) hlocks hxx hS.2.2 hg1 (by omega)
    | _ => cases w2
