section VXSN
variable {p : Program} {l : Launch} {e : Env} {R : Room} {s : State} {m : MethodId} {args : Array Value} {below : List Frame} {meth : Method} {c : Code} {H : Heap} {locs : List Loc} {cells slots : Nat}
variable {T : State}
theorem vx_callSN (X : Stand p l e R s m args below meth c T locs cells slots) (hexec : p.tables.exec = Jvm.exec) {own : String} {index : Nat} {host : String} {y : MethodName} {bytes : ByteArray} {maxL : Nat} {ret : Option FieldType}
    (hown : s.vm.findClass own = some m.cls) (hlink : (Cond.methodLinkNest own index y host).before args s = true) (hstat : (Cond.static y).before args s = true) (hinit : (Cond.initialized y.cls).before args s = true)
    (hcode : (Cond.code y bytes maxL ret).before args s = true) (hy : y.cls ≠ "java/lang/invoke/MethodHandle" ∧ y.cls ≠ "java/lang/invoke/VarHandle")
    {W : Nat} {Pre : Pt → Array Value → Prop} {Post : Pt → Array Value → Option Value → Pt → Prop} {PostX : Pt → Array Value → Addr → Pt → Prop} (hK : vx_Back l R p e below s args y 3 W Pre Post PostX)
    {g : JFrame} (hg : g.method = m) (hsize : g.locals.size = c.maxLocals) {argsL rest : List Value} (hlen : ∀ sig, parseMethodDescriptor y.desc = some sig → argsL.length = sig.parameters.length)
    (hstack : g.stack = argsL.reverse ++ rest) (hW : 2 * g.monitorRoom + (rest.map fun v => v.category).sum ≤ W) (hdg : decode c.code g.pc = .ok (.invokestatic index, 3))
    (hpre : ∀ vm₁, s.WarmedH vm₁ → Pre ⟨T.setVm vm₁, locs, cells, slots⟩ argsL.toArray) :
    (∃ (v : Option Value) (vm₁ : Vm) (B : Pt), s.WarmedH vm₁ ∧ Stand p l e R s m args below meth c B.U B.locs B.cells B.slots ∧ Post ⟨T.setVm vm₁, locs, cells, slots⟩ argsL.toArray v B ∧
      ∀ target, Steps p.tables e below (B.U.setTop { g with pc := g.pc + 3, stack := v.toList ++ rest }) target → Steps p.tables e below (T.setTop g) target) ∨
    (∃ (q : Addr) (vm₁ : Vm) (B : Pt), s.WarmedH vm₁ ∧ Stand p l e R s m args below meth c B.U B.locs B.cells B.slots ∧ PostX ⟨T.setVm vm₁, locs, cells, slots⟩ argsL.toArray q B ∧
      Steps p.tables e below (T.setTop g) ((B.U.setTop { g with stack := rest }).pushFrame (.throwing q))) := by
  obtain ⟨mk, hnamed⟩ := Cond.code_named hcode
  obtain ⟨methM, cM, hmethM, -, -, -, -, -, -, hsigM⟩ := Cond.code_spec hnamed hcode
  have hstatic : methM.isStatic = true := Cond.static_spec hnamed hmethM hstat
  obtain ⟨kP, hkP, -⟩ := className_of_methodNamed hnamed
  have hinitP : kP.init = .initialized := Cond.initialized_spec (findClass_of_methodNamed hnamed) hkP hinit
  obtain ⟨vm₁, X₁, hstep₁⟩ := X.invokestaticNest hexec hown hlink hnamed hmethM hstatic hkP hinitP hy (g := g) hg (argsL := argsL) (rest := rest) (hlen _ hsigM) hstack hdg
  rcases hK m meth c ⟨T.setVm vm₁, locs, cells, slots⟩ { g with stack := rest } (.invokestatic index) mk argsL.toArray X₁ hg hsize hdg hW (X₁.named hnamed) (hpre vm₁ X₁.warmed) with ⟨v, B, X', hpost, hsteps⟩ | ⟨q, B, X', hpost, hsteps⟩
  · exact Or.inl ⟨v, vm₁, B, X₁.warmed, X', hpost, fun target h => hstep₁ _ fun acts => by rw [doInvoke_state]; exact hsteps.trans h⟩
  · exact Or.inr ⟨q, vm₁, B, X₁.warmed, X', hpost, hstep₁ _ fun acts => by rw [doInvoke_state]; exact hsteps⟩
theorem vx_runSN {y : MethodName} {bytes cc : ByteArray} {maxL nL mc ms n index : Nat} {ret : Option FieldType} {ws : List Cond} {rm : Room} {Pc : Array Value → State → Prop} {Qc : Array Value → State → Outcome → State → Prop} {XC : String → State → State → Prop} {free : Addr → Prop} {Ts : List Cond} {own host : String} {As rest : List Value} {g : JFrame}
    (S : CallFix p m c cc nL s args Ts own) (hM : vx_Met l y ws rm Pc Qc XC mc ms free) (cw : va_CN R s args own index y host bytes maxL ret ws rm mc ms n ∧ (Cond.static y).before args s = true ∧ True) (hp : PreS s H Pc As)
    (hg : g.method = m) (hn : As.length = n) (hsize : g.locals.size = nL) (hstack : g.stack = As.reverse ++ rest) (hW : 2 * g.monitorRoom + (rest.map fun v => v.category).sum ≤ 8) (hdg : decode cc g.pc = .ok (.invokestatic index, 3)) (hf : cells + mc ≤ R.cells ∧ slots + ms ≤ R.slots) :
    vx_Run p l e R s m args below meth c H locs cells slots mc ms g rest (Qc As.toArray) XC free := by
  obtain ⟨⟨⟨hrc, hrs, hfr, hlo, hws, hcw⟩, hcode, hini, hy, hlen, hl⟩, hx1, hx2⟩ := cw
  have hK : vx_Back l R p e below s args y 3 8 (PreOf R mc ms Pc) (PostOf Qc mc ms free) (vx_Post XC mc ms free) := vx_back (bytes := bytes) (maxL := maxL) (ret := ret) hM hp.1 hrc hrs hfr hlo hws hcw (fun a' U hW => word_at hW (Or.inl (by first | rfl | simp [Cond.onTables, Cond.keeps, Cond.steady])) hini)
  obtain ⟨hx, hb, hml, ho, -⟩ := S
  have hPc := hp.2
  intro T hT X
  rcases vx_callSN X hx (bytes := bytes) (maxL := maxL) (ret := ret) ho hl hx1 hini hcode hy hK hg (hsize.trans hml.symm) (argsL := As) (rest := rest) (fun sig h => hn.trans (hlen sig h)) hstack hW (by rw [hb]; exact hdg)
    (fun vm₁ hW₁ => ⟨hf.1, hf.2, hPc (T.setVm vm₁) hT hW₁⟩) with ⟨v, vm₁, ⟨U', l2, c2, s2⟩, hW₁, X', ⟨g', mk, t, L, e1, e2, hq, h1, hL, h2, h3⟩, st⟩ | ⟨q, vm₁, ⟨U', l2, c2, s2⟩, hW₁, X', ⟨g', mk, t, L, E, ce, e1, e2, hq, hce, hcv, hcl, h1, hL, h2, h3⟩, st⟩
  · dsimp only [Pt.U, Pt.locs, Pt.cells, Pt.slots] at X' e1 e2 h1 h2 h3 st
    subst h1; subst h2; subst h3
    exact Or.inl ⟨v, (T.setVm vm₁).calling g' mk As.toArray, t, U', L, hT, X', hL, e1, e2, hq, st⟩
  · dsimp only [Pt.U, Pt.locs, Pt.cells, Pt.slots] at X' e1 e2 h1 h2 h3 st hcl
    subst h1; subst h2; subst h3
    exact Or.inr ⟨q, (T.setVm vm₁).calling g' mk As.toArray, t, U', L, E, ce, hT, X', hL, e1, e2, hq, hce, hcv, vx_cls hW₁ hcl, st⟩
end VXSN
theorem wAt_mem {wl : List Cond} {p : Nat} {w : Cond} (h : wAt wl p w = true) : w ∈ wl := by
  unfold wAt at h
  cases hq : nth wl p with
  | none => rw [hq] at h; cases h
  | some v =>
    rw [hq] at h
    have e : v = w := of_decide_eq_true h
    subst e
    have : ∀ (l : List Cond) (i : Nat) (a : Cond), nth l i = some a → a ∈ l := by
      intro l
      induction l with
      | nil => intro i a h; simp [nth] at h
      | cons b l ih =>
        intro i a h
        cases i with
        | zero => cases h; exact List.mem_cons_self
        | succ i => exact List.mem_cons_of_mem _ (ih i a h)
    exact this wl p v hq
theorem uw_in : ∀ b, b < 12 → ∀ w ∈ u_ws (clR b) (gT b) (gN b), w ∈ LW
  | 0, _ => fun w h => LW_mem (uwX0 w h) (List.all_eq_true.mp uwX0_g w h)
  | 1, _ => fun w h => LW_mem (uwX1 w h) (List.all_eq_true.mp uwX1_g w h)
  | 2, _ => fun w h => LW_mem (uwX2 w h) (List.all_eq_true.mp uwX2_g w h)
  | 3, _ => fun w h => LW_mem (uwX3 w h) (List.all_eq_true.mp uwX3_g w h)
  | 4, _ => fun w h => LW_mem (uwX4 w h) (List.all_eq_true.mp uwX4_g w h)
  | 5, _ => fun w h => LW_mem (uwX5 w h) (List.all_eq_true.mp uwX5_g w h)
  | 6, _ => fun w h => LW_mem (uwX6 w h) (List.all_eq_true.mp uwX6_g w h)
  | 7, _ => fun w h => LW_mem (uwX7 w h) (List.all_eq_true.mp uwX7_g w h)
  | 8, _ => fun w h => LW_mem (uwX8 w h) (List.all_eq_true.mp uwX8_g w h)
  | 9, _ => fun w h => LW_mem (uwX9 w h) (List.all_eq_true.mp uwX9_g w h)
  | 10, _ => fun w h => LW_mem (uwX10 w h) (List.all_eq_true.mp uwX10_g w h)
  | 11, _ => fun w h => LW_mem (uwX11 w h) (List.all_eq_true.mp uwX11_g w h)
  | n + 12, h => absurd h (by omega)
theorem wArr1 {ρ : Nat → Nat} {M : Mem} {n : Nat} (h : wAk n = 1) : wArr ρ M n = .inl fun j => Int32.ofInt (M n j) := by
  unfold wArr; rw [h]; rfl
theorem wArr2 {ρ : Nat → Nat} {M : Mem} {n : Nat} (h : wAk n = 2) : wArr ρ M n = .inr (.inl fun j => Int64.ofInt (M n j)) := by
  unfold wArr; rw [h]; rfl
theorem wArr3 {ρ : Nat → Nat} {M : Mem} {n k : Nat} (h : wAk n = k + 3) : wArr ρ M n = .inr (.inr (.inr (.inr fun j => some (ρ (wRa n j))))) := by
  unfold wArr; rw [h]; rfl
theorem wSetI {ρ : Nat → Nat} {cA : Nat → ClassId} {M : Mem} {n : Nat} {g : Nat → Int} (h : wAk n = 1) {f : Nat → Int32} (hf : ∀ j, f j = Int32.ofInt (g j)) : (wWs ρ cA M).set n (ρ n, .inl (cA 1, wAl n, .inl f)) = wWs ρ cA (sm M n g) := by
  refine wWs_set (wAk_lt h) ?_
  unfold wCell
  rw [wOb_ak h, h, wArr1 h]
  have : f = fun j => Int32.ofInt (sm M n g n j) := funext fun j => by rw [sm_self]; exact hf j
  rw [this]
theorem wSetL {ρ : Nat → Nat} {cA : Nat → ClassId} {M : Mem} {n : Nat} {g : Nat → Int} (h : wAk n = 2) {f : Nat → Int64} (hf : ∀ j, f j = Int64.ofInt (g j)) : (wWs ρ cA M).set n (ρ n, .inl (cA 2, wAl n, .inr (.inl f))) = wWs ρ cA (sm M n g) := by
  refine wWs_set (wAk_lt h) ?_
  unfold wCell
  rw [wOb_ak h, h, wArr2 h]
  have : f = fun j => Int64.ofInt (sm M n g n j) := funext fun j => by rw [sm_self]; exact hf j
  rw [this]
theorem wSetF {ρ : Nat → Nat} {cA : Nat → ClassId} {M : Mem} {n b a : Nat} {x : Int} (h : wOb n = b + 1) (ha : a < gN b) : (wWs ρ cA M).set n (ρ n, .inr (b, (wFs ρ M b n).set a (fvl ρ (gTy b a) (wRf b n a) x))) = wWs ρ cA (upd2 M n a x) := by
  refine wWs_set (wOb_lt h) ?_
  unfold wCell
  rw [h]
  show _ = _
  rw [wFs_set ha]
  rfl
theorem swt_of {x : Int} {ip kc : Nat} {l : PL} {r : PS} {M : Mem} {K : Kt} : ∀ (ts : List Nat) (k : Int), swt x ip kc l r M K ts k → (∀ (j : Nat) (t : Nat), nth ts j = some t → x = k + (j : Int) → K t kc l r M) ∧ ((x < k ∨ k + (ts.length : Int) ≤ x) → K ip kc l r M)
  | [], k, h => ⟨fun j t q => (by cases q), fun _ => h⟩
  | t :: ts, k, h => by
    obtain ⟨h1, h2⟩ := h
    refine ⟨fun j u q e => ?_, fun q => ?_⟩
    · cases j with
      | zero => cases q; exact h1 (by simpa using e)
      | succ j =>
        have hne : ¬ x = k := by omega
        exact (swt_of ts (k + 1) (h2 hne)).1 j u q (by rw [e]; push_cast; omega)
    · simp only [List.length_cons] at q
      have hne : ¬ x = k := by omega
      exact (swt_of ts (k + 1) (h2 hne)).2 (by omega)
theorem chkTs_of {pcs : List Nat} {p : Nat} : ∀ (os : List Int) (ts : List Nat), chkTs pcs p os ts = true → os.length = ts.length ∧ ∀ j o, os[j]? = some o → ∃ t, nth ts j = some t ∧ (p : Int) + o = (pcN pcs t : Int)
  | [], [], _ => ⟨rfl, fun j o h => by simp at h⟩
  | [], t :: ts, h => by cases h
  | o :: os, [], h => by cases h
  | o :: os, t :: ts, h => by
    simp only [chkTs, Bool.and_eq_true, jT, decide_eq_true_eq] at h
    obtain ⟨h1, h2⟩ := h
    obtain ⟨h3, h4⟩ := chkTs_of os ts h2
    refine ⟨by simp [h3], fun j u q => ?_⟩
    cases j with
    | zero => simp at q; subst q; exact ⟨t, rfl, h1⟩
    | succ j => exact h4 j u (by simpa using q)
section Steps3
variable {p : Program} {l : Launch} {e : Env} {R : Room} {s : State} {m : MethodId} {args : Array Value} {below : List Frame} {meth : Method} {c : Code}
variable {ρ sg : Nat → Nat} {cA : Nat → ClassId} {D : va_G} {Aw : Nat → Prop} {own : String} {bytes : ByteArray} {maxL km : Nat} {ret : Option FieldType} {pcs : List Nat} {rk : Nat} {Q : Rs → Mem → Prop}
variable {wl : List Cond} {cal : Cal} {ip kc : Nat} {lo : PL} {st : PS} {M : Mem} {a b c0 d : Nat} {k : Int} {ts : List Nat} {ps : List Nat} {dp : Nat}
/-- instructions that touch the heap -/
theorem w_heap (hX : HypM p l R s m args meth c sg cA D Aw own bytes maxL km ret dp) (hwl : ∀ w ∈ wl, w ∈ lw_tbl) (hgd : ∀ w ∈ wl, goodWord w = true ∨ isNestW w = true ∨ isStrW w = true) {i : Instr}
    (hi : match i with
      | .ldc _ | .ldc_w _ | .ldc2_w _ | .getfield _ | .putfield _ | .getstatic _ | .iaload | .laload | .aaload | .iastore | .lastore | .arraylength | .tableswitch _ _ _ _ => True
      | _ => False)
    (hc : chkI infs wl own bytes maxL ret pcs ip ps (i, (a, b, c0, d), k, ts) = true)
    (hs : stepG cal rk km Q (PW p l e R s m args below meth c ρ sg cA D Aw maxL km pcs rk Q) (i, (a, b, c0, d), k, ts) ip kc lo st M) : PW p l e R s m args below meth c ρ sg cA D Aw maxL km pcs rk Q ip kc lo st M := by
  obtain ⟨hx, hb, hr, hml, hown, hlocks, hts, htab, hfix, hsz, htr, hR1, hR2, hm40⟩ := hX
  intro hkm H locs ls hl hP hD hS
  have hK := hfix.1
  have use : ∀ (pp : Nat) (w : Cond), wAt wl pp w = true → (isNestW w = false) → (isStrW w = false) → w ∈ LW := fun pp w h h1 h2 => by
    have hm := wAt_mem h
    rcases hgd w hm with q | q | q
    · exact LW_mem (hwl w hm) q
    · rw [h1] at q; cases q
    · rw [h2] at q; cases q
  cases i <;> try exact hi.elim
  all_goals clear hi
  all_goals simp only [stepG] at hs
  all_goals simp only [chkI, dN, dE, jT, Bool.and_eq_true, decide_eq_true_eq] at hc
  case ldc n =>
    obtain ⟨⟨h1, h2⟩, h3⟩ := hc
    rcases ps with _ | ⟨q0, _ | ⟨q1, ps⟩⟩
    · cases h3
    · rcases c0 with _ | c0
      · refine lv_ldc hx hb hown (hts _ (use _ _ h3 rfl rfl)) h1 ?_
        rw [← h2]
        exact hs hkm H locs ls hl hP hD hS
      · simp only [Bool.and_eq_true, decide_eq_true_eq] at h3
        obtain ⟨h3, rfl, h4, h5⟩ := h3
        have hm := hwl _ (wAt_mem h3)
        refine va_ldcS hx hb hown (hfix.2.2.2.2.1.1 a n h4 h5 hm) h1 ?_
        rw [← h2]
        exact hs hkm H locs ls hl hP hD hS
    · cases h3
  case ldc_w n =>
    obtain ⟨⟨h1, h2⟩, h3⟩ := hc
    rcases ps with _ | ⟨q0, _ | ⟨q1, ps⟩⟩
    · cases h3
    · rcases c0 with _ | c0
      · refine lv_ldcw hx hb hown (hts _ (use _ _ h3 rfl rfl)) h1 ?_
        rw [← h2]
        exact hs hkm H locs ls hl hP hD hS
      · cases h3
    · cases h3
  case ldc2_w n =>
    obtain ⟨⟨h1, h2⟩, h3⟩ := hc
    rcases ps with _ | ⟨q0, _ | ⟨q1, ps⟩⟩
    · cases h3
    · refine lv_ldc2 hx hb hown (hts _ (use _ _ h3 rfl rfl)) h1 ?_
      rw [← h2]
      exact hs hkm H locs ls hl hP hD hS
    · cases h3
  case getfield n =>
    obtain ⟨⟨h1, h2⟩, h3⟩ := hc
    obtain ⟨o, r, rfl, hob, hs1⟩ := pO_of hs
    rcases ps with _ | ⟨q0, _ | ⟨q1, ps⟩⟩
    · cases h3
    · simp only [Bool.and_eq_true, decide_eq_true_eq] at h3
      obtain ⟨⟨h3, h4, h5⟩, h6⟩ := h3
      refine va_get (D := D) (ci := b) (C := clR b) (T := gT b) (N := gN b) hx hb hts (uw_in b h4) hown hK hP o (wWs_ob hob) (gCl_at b h4) a h5 (hts _ (use _ _ h3 rfl rfl)) (fun _ h9 => h9) (wFs_at h5) h1 ?_
      rw [← h2]
      rcases c0 with _ | _ | _ | c0
      · rw [(fvl0 h6.symm).2]
        exact hs1 hkm H locs ls hl hP hD hS
      · rw [(fvl1 h6.symm).2]
        exact hs1 hkm H locs ls hl hP hD hS
      · rw [(fvl2 h6.symm).2]
        exact hs1 hkm H locs ls hl hP hD hS
      · rw [fvl3 h6]
        exact hs1 hkm H locs ls hl hP hD hS
    · cases h3
  case putfield n =>
    obtain ⟨⟨h1, h2⟩, h3⟩ := hc
    rcases ps with _ | ⟨q0, _ | ⟨q1, ps⟩⟩
    · cases h3
    · simp only [Bool.and_eq_true, decide_eq_true_eq] at h3
      obtain ⟨⟨⟨h3, h4, h5⟩, h6⟩, h7⟩ := h3
      have hlk := hts _ (use _ _ h3 rfl rfl)
      have go : ∀ (x : Int) (o : Nat) (r : PS), wOb o = b + 1 → narrow (gTy b a) (fvl ρ (gTy b a) (wRf b o a) x) = fvl ρ (gTy b a) (wRf b o a) x → fits (gTy b a) (fvl ρ (gTy b a) (wRf b o a) x) = true → PW p l e R s m args below meth c ρ sg cA D Aw maxL km pcs rk Q (ip + 1) kc lo r (upd2 M o a x) → W p l e R s m args below meth c H locs kc (6 * kc) (vx_MQ below (Qcf ρ sg cA D Aw rk Q) (XCf ρ sg cA D Aw Q) args s km (6 * km) Aw) (F0 m (pcN pcs ip) ls (fvl ρ (gTy b a) (wRf b o a) x :: .ref (ρ o) :: r.map (cpv ρ sg))) := by
        intro x o r hob hna hfi hs1
        refine va_put (D := D) (ci := b) (C := clR b) (T := gT b) (N := gN b) (ty := gTy b a) hx hb hts (uw_in b h4) (gTy b) (gTy_ok b h4) (gNm_ok b h4) hown hK hP hD hS o (wWs_ob hob) (gCl_at b h4) a h5 hlk (fun _ h9 => h9) h7 (gTy_ok b h4 a h5) hna hfi (by simp [wFs, h5]) h1 (fun H1 locs1 hP1 hD1 hS1 => ?_)
        rw [wSetF hob h5] at hP1 hD1
        rw [← h2]
        exact hs1 hkm H1 locs1 ls hl hP1 hD1 hS1
      rcases c0 with _ | _ | _ | c0
      · obtain ⟨x, r, rfl, hs1⟩ := pI_of hs
        obtain ⟨o, r, rfl, hob, hs2⟩ := pO_of hs1
        have ht := fvl0 (ρ := ρ) (r := wRf b o a) (x := x) h6.symm
        have := go x o r hob (by rw [ht.2, ht.1]; rfl) (by rw [ht.2, ht.1]; rfl) hs2
        rw [ht.2] at this
        exact this
      · obtain ⟨x, r, rfl, hs1⟩ := pL_of hs
        obtain ⟨o, r, rfl, hob, hs2⟩ := pO_of hs1
        have ht := fvl1 (ρ := ρ) (r := wRf b o a) (x := x) h6.symm
        have := go x o r hob (by rw [ht.2, ht.1]; rfl) (by rw [ht.2, ht.1]; rfl) hs2
        rw [ht.2] at this
        exact this
      · obtain ⟨x, r, rfl, hs1⟩ := pI_of hs
        obtain ⟨o, r, rfl, hob, h01, hs2⟩ := pO_of hs1
        have ht := fvl2 (ρ := ρ) (r := wRf b o a) (x := x) h6.symm
        have := go x o r hob (by rw [ht.2, ht.1]; rcases h01 with rfl | rfl <;> decide) (by rw [ht.2, ht.1]; rcases h01 with rfl | rfl <;> decide) hs2
        rw [ht.2] at this
        exact this
      · exact hs.elim
    · cases h3
  case getstatic n =>
    obtain ⟨⟨h1, h2⟩, h3⟩ := hc
    rcases ps with _ | ⟨q0, _ | ⟨q1, ps⟩⟩
    · cases h3
    · refine va_gets hx hb hfix.2.1 hS hown (hts _ (use _ _ h3 rfl rfl)) (fun _ h9 => h9) h1 ?_
      rw [← h2]
      exact hs hkm H locs ls hl hP hD hS
    · cases h3
  case iaload =>
    obtain ⟨h1, h2⟩ := hc
    obtain ⟨x, r, rfl, hs1⟩ := pI_of hs
    obtain ⟨o, r, rfl, hs2⟩ := pR_of hs1
    rcases o with o | _ | o
    · obtain ⟨hk, hin, hs3⟩ := hs2
      have hq := z_in hin (wOA o (wAk_lt hk)).2.2.2
      refine va_iald hx hb hK hP o 0 (f := fun j => Int32.ofInt (M o j)) (by rw [wWs_ar hk, wArr1 hk]) rfl hq.1 h1 ?_
      rw [hq.2, ← h2]
      exact hs3 hkm H locs ls hl hP hD hS
    · obtain ⟨hin, hs3⟩ := hs2
      have hq := z_in (n := 9) hin (by decide)
      refine va_ti hx hb hfix.2.2.1 hS hq.1 (v := .int (Int32.ofInt (10 ^ x.toNat))) (by rw [hq.2]) h1 ?_
      rw [← h2]
      exact hs3 hkm H locs ls hl hP hD hS
    · exact hs2.elim
  case laload =>
    obtain ⟨h1, h2⟩ := hc
    obtain ⟨x, r, rfl, hs1⟩ := pI_of hs
    obtain ⟨o, r, rfl, hk, hin, hs3⟩ := pO_of hs1
    have hq := z_in hin (wOA o (wAk_lt hk)).2.2.2
    refine va_lald hx hb hK hP o 1 (f := fun j => Int64.ofInt (M o j)) (by rw [wWs_ar hk, wArr2 hk]) rfl hq.1 h1 ?_
    rw [hq.2, ← h2]
    exact hs3 hkm H locs ls hl hP hD hS
  case aaload =>
    obtain ⟨h1, h2⟩ := hc
    obtain ⟨x, r, rfl, hs1⟩ := pI_of hs
    obtain ⟨o, r, rfl, hk, hin, hs3⟩ := pO_of hs1
    obtain ⟨kk, hkk⟩ : ∃ kk, wAk o = kk + 3 := ⟨wAk o - 3, by omega⟩
    have hlt := wAk_lt (n := o) (c := kk + 2) hkk
    have h5 := wOA o hlt
    have hq := z_in hin h5.2.2.2
    have hat := hP o _ (wWs_ar (k := kk + 2) hkk)
    rw [wArr3 hkk] at hat
    have hj : (Int32.ofInt x).toNatClampNeg < wAl o := Nat.not_le.mp fun q => hq.1 (Or.inr q)
    have key : ∀ (t0 : Nat) (ty : FieldType), (tysL cA)[t0]? = some (cA (kk + 3), ty) → ty.isReference = true → W p l e R s m args below meth c H locs kc (6 * kc) (vx_MQ below (Qcf ρ sg cA D Aw rk Q) (XCf ρ sg cA D Aw Q) args s km (6 * km) Aw) (F0 m (pcN pcs ip) ls (.int (Int32.ofInt x) :: .ref (ρ o) :: r.map (cpv ρ sg))) := by
      intro t0 ty ht hty
      refine W.aald (v := .ref (ρ (wRa o x.toNat))) (ty := ty) hx hb hat ((hK.2 t0 _ ht).1 (wAl o) (fun j => va_rf (some (ρ (wRa o j))))) hty (fun q => by cases q) (by show ¬ (_ < 0 ∨ (arrV _ _ _).slots.size ≤ _); rw [arrV_size]; exact hq.1) (by show (arrV _ _ _).slots[_]? = _; rw [arrV_read _ _ hj, hq.2]; rfl) rfl rfl h1 ?_
      show W _ _ _ _ _ _ _ _ _ _ _ _ _ _ _ (F0 m (pcN pcs ip + 1) ls _)
      rw [← h2]
      exact hs3 hkm H locs ls hl hP hD hS
    rcases kk with _ | _ | _ | kk
    · exact key 2 _ rfl rfl
    · exact key 3 _ rfl rfl
    · exact key 4 _ rfl rfl
    · omega
  case iastore =>
    obtain ⟨h1, h2⟩ := hc
    obtain ⟨v, r, rfl, hs1⟩ := pI_of hs
    obtain ⟨x, r, rfl, hs2⟩ := pI_of hs1
    obtain ⟨o, r, rfl, hk, hin, hs3⟩ := pO_of hs2
    have hq := z_in hin (wOA o (wAk_lt hk)).2.2.2
    refine va_iast hx hb hK hP hD hS o 0 (f := fun j => Int32.ofInt (M o j)) (by rw [wWs_ar hk, wArr1 hk]) rfl hq.1 h1 (fun H1 locs1 hP1 hD1 hS1 => ?_)
    rw [hq.2, wSetI hk (g := sr (M o) x.toNat v) (fun j => by unfold upd sr; split <;> rfl)] at hP1 hD1
    rw [← h2]
    exact hs3 hkm H1 locs1 ls hl hP1 hD1 hS1
  case lastore =>
    obtain ⟨h1, h2⟩ := hc
    obtain ⟨v, r, rfl, hs1⟩ := pL_of hs
    obtain ⟨x, r, rfl, hs2⟩ := pI_of hs1
    obtain ⟨o, r, rfl, hk, hin, hs3⟩ := pO_of hs2
    have hq := z_in hin (wOA o (wAk_lt hk)).2.2.2
    refine va_last hx hb hK hP hD hS o 1 (f := fun j => Int64.ofInt (M o j)) (by rw [wWs_ar hk, wArr2 hk]) rfl hq.1 h1 (fun H1 locs1 hP1 hD1 hS1 => ?_)
    rw [hq.2, wSetL hk (g := sr (M o) x.toNat v) (fun j => by unfold vp_updL sr; split <;> rfl)] at hP1 hD1
    rw [← h2]
    exact hs3 hkm H1 locs1 ls hl hP1 hD1 hS1
  case arraylength =>
    obtain ⟨h1, h2⟩ := hc
    obtain ⟨o, r, rfl, hk, hs1⟩ := pO_of hs
    obtain ⟨kk, hkk⟩ : ∃ kk, wAk o = kk + 1 := ⟨wAk o - 1, by omega⟩
    have h5 := (wOA o (wAk_lt hkk)).2.2.1
    have hv : Int32.ofNat (wAl o) = Int32.ofInt (wAl o : Int) := Int32.ofInt_eq_ofNat.symm
    have key : ∀ (t0 : Nat) (ty : FieldType), (tysL cA)[t0]? = some (cA (kk + 1), ty) → W p l e R s m args below meth c H locs kc (6 * kc) (vx_MQ below (Qcf ρ sg cA D Aw rk Q) (XCf ρ sg cA D Aw Q) args s km (6 * km) Aw) (F0 m (pcN pcs ip) ls (.ref (ρ o) :: r.map (cpv ρ sg))) := by
      intro t0 ty ht
      refine va_alen hx hb hK hP o t0 (wWs_ar hkk) ht hv h1 ?_
      rw [← h2]
      exact hs1 hkm H locs ls hl hP hD hS
    rcases kk with _ | _ | _ | _ | _ | kk
    · exact key 0 _ rfl
    · exact key 1 _ rfl
    · exact key 2 _ rfl
    · exact key 3 _ rfl
    · exact key 4 _ rfl
    · omega
  case tableswitch df lo2 hi2 offs =>
    obtain ⟨⟨⟨⟨h1, h2⟩, h3, h4⟩, h5⟩, h6, h7⟩ := hc
    split at h1
    · rename_i j len hd
      have h1 := of_decide_eq_true h1
      subst h1
      obtain ⟨x, r, rfl, hrx, hs1⟩ := pI_of hs
      obtain ⟨g1, g2⟩ := swt_of ts k hs1
      obtain ⟨q1, q2⟩ := chkTs_of _ _ h5
      have hxi := zi32 hrx
      by_cases hlo : x < lo2
      · exact lv_tableOut hx hb hd (Or.inl (by rw [hxi]; exact hlo)) h2 (g2 (Or.inl (by omega)) hkm H locs ls hl hP hD hS)
      · by_cases hhi : hi2 < x
        · exact lv_tableOut hx hb hd (Or.inr (by rw [hxi]; exact hhi)) h2 (g2 (Or.inr (by omega)) hkm H locs ls hl hP hD hS)
        · have hj : (x - lo2).toNat < offs.size := by
            rw [← Array.length_toList, q1]
            omega
          have ho : offs[(x - lo2).toNat]? = some offs[(x - lo2).toNat] := Array.getElem?_eq_getElem hj
          obtain ⟨t, t1, t2⟩ := q2 (x - lo2).toNat _ (by rw [Array.getElem?_toList]; exact ho)
          exact lv_tableIn hx hb hd (by rw [hxi]; exact hlo) (by rw [hxi]; exact hhi) (by rw [hxi]; exact ho) t2 (g1 _ t t1 (by omega) hkm H locs ls hl hP hD hS)
    · cases h1
end Steps3
