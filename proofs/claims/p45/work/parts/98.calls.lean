theorem wP0_kept {ρ : Nat → Nat} {cA : Nat → ClassId} {D : va_G} {Aw : Nat → Prop} {M : Mem} {H H1 : Heap} (h : wP0 ρ cA D Aw M H) (hz : H.size ≤ H1.size) (hq : ∀ q : Nat, q < H.size → H1[q]? = H[q]?) : wP0 ρ cA D Aw M H1 :=
  ⟨h.1.kept fun k q hk => hq q.1 (h.1 k q hk).lt, h.2.1, fun q k => h.2.2 q (Nat.le_trans hz k)⟩
theorem ex_fit : ∀ a, Bundle.fit (exN a) = true := by
  intro a
  rcases a with _ | _ | _ | _ | _ | a <;> first | decide | exact (by decide : Bundle.fit "java/util/NoSuchElementException" = true)
theorem ex_names : ∀ n ∈ exNames, Bundle.fit n = true := by decide
def isCast : Cond → Bool
  | .castable _ _ => true
  | .declares _ => true
  | _ => false
def exOk (a : Nat) : Bool := (vx_atS RX11 (exC a) (exN a) exNames).all fun w => (goodWord w || isCast w) && decide (w ∈ lw_tbl) && vx_ot w
/-- the throw of a NoSuchElementException: its constructor names its superclass's at another index than those of java.lang, the kit's row doesn't fit; owed apart -/
def NSOk (l : Launch) (ρ sg : Nat → Nat) (cA : Nat → ClassId) (D : va_G) (Aw : Nat → Prop) : Prop := ∀ (p : Program) (e : Env) (R : Room) (s : State) (m : MethodId) (args : Array Value) (below : List Frame) (meth : Method) (c : Code) (own : String) (bytes : ByteArray) (maxL km : Nat) (ret : Option FieldType) (pcs : List Nat) (rk : Nat) (Q : Rs → Mem → Prop) (wl : List Cond) (cal : Cal) (ip kc : Nat) (lo : PL) (st : PS) (M : Mem) (b c0 d : Nat) (k : Int) (ts ps : List Nat) (dp ik : Nat),
  HypM p l R s m args meth c sg cA D Aw own bytes maxL km ret dp → (∀ w ∈ wl, w ∈ lw_tbl) → (∀ w ∈ wl, goodWord w = true ∨ isNestW w = true ∨ isStrW w = true) →
  chkI infs wl own bytes maxL ret pcs ip ps (.new ik, (5, b, c0, d), k, ts) = true →
  stepG cal rk km Q (PW p l e R s m args below meth c ρ sg cA D Aw maxL km pcs rk Q) (.new ik, (5, b, c0, d), k, ts) ip kc lo st M → PW p l e R s m args below meth c ρ sg cA D Aw maxL km pcs rk Q ip kc lo st M
section Steps4
variable {p : Program} {l : Launch} {e : Env} {R : Room} {s : State} {m : MethodId} {args : Array Value} {below : List Frame} {meth : Method} {c : Code}
variable {ρ sg : Nat → Nat} {cA : Nat → ClassId} {D : va_G} {Aw : Nat → Prop} {own : String} {bytes : ByteArray} {maxL km : Nat} {ret : Option FieldType} {pcs : List Nat} {rk : Nat} {Q : Rs → Mem → Prop}
variable {wl : List Cond} {cal : Cal} {ip kc : Nat} {lo : PL} {st : PS} {M : Mem} {a b c0 d : Nat} {k : Int} {ts : List Nat} {ps : List Nat} {dp : Nat}
/-- ends -/
theorem w_ends (hX : HypM p l R s m args meth c sg cA D Aw own bytes maxL km ret dp) (hrk : rk = rkOf ret) {i : Instr}
    (hi : match i with
      | .ireturn | .lreturn | .return_ => True
      | _ => False)
    (hc : chkI infs wl own bytes maxL ret pcs ip ps (i, (a, b, c0, d), k, ts) = true)
    (hs : stepG cal rk km Q (PW p l e R s m args below meth c ρ sg cA D Aw maxL km pcs rk Q) (i, (a, b, c0, d), k, ts) ip kc lo st M) : PW p l e R s m args below meth c ρ sg cA D Aw maxL km pcs rk Q ip kc lo st M := by
  obtain ⟨hx, hb, hr, hml, hown, hlocks, hts, htab, hfix, hsz, htr, hR1, hR2, hm40⟩ := hX
  intro hkm H locs ls hl hP hD hS
  have hW0 : ∀ t : State, t.heap = H → wP0 ρ cA D Aw M t.heap := fun t ht => by rw [ht]; exact ⟨hP, hD, (fun q h => hsz q (Nat.le_trans hS.1 h))⟩
  cases i <;> try exact hi.elim
  all_goals clear hi
  all_goals simp only [stepG] at hs
  all_goals simp only [chkI, dN, dE, jT, Bool.and_eq_true, decide_eq_true_eq] at hc
  case ireturn =>
    obtain ⟨h1, h2⟩ := hc
    obtain ⟨x, r, rfl, hs1⟩ := pI_of hs
    obtain ⟨rfl, hs2⟩ := isE_of hs1
    refine W.widen hkm (Nat.mul_le_mul_left 6 hkm) (vx_ret ?_)
    rcases h2 with h2 | h2
    · subst h2
      subst hrk
      exact W.iret (v := Int32.ofInt x) hx hb hr (fun t ht hW => ⟨⟨_, M, rfl, ⟨x, rfl, hs2⟩, hW0 t ht⟩, hS.F ht⟩) hS.2.2 h1
    · subst h2
      subst hrk
      obtain ⟨h01, hs3⟩ := hs2
      exact W.zret (v := Int32.ofInt x) (ty := .boolean) hx hb hr (by rcases h01 with rfl | rfl <;> decide) (fun t ht hW => ⟨⟨_, M, rfl, ⟨x, rfl, hs3⟩, hW0 t ht⟩, hS.F ht⟩) hS.2.2 h1
  case lreturn =>
    obtain ⟨h1, h2⟩ := hc
    obtain ⟨x, r, rfl, hs1⟩ := pL_of hs
    obtain ⟨rfl, hs2⟩ := isE_of hs1
    refine W.widen hkm (Nat.mul_le_mul_left 6 hkm) (vx_ret ?_)
    subst h2
    subst hrk
    exact W.lret (v := Int64.ofInt x) hx hb hr (fun t ht hW => ⟨⟨_, M, rfl, ⟨x, rfl, hs2⟩, hW0 t ht⟩, hS.F ht⟩) hS.2.2 h1
  case return_ =>
    obtain ⟨h1, h2⟩ := hc
    obtain ⟨rfl, hs2⟩ := isE_of hs
    refine W.widen hkm (Nat.mul_le_mul_left 6 hkm) (vx_ret ?_)
    subst h2
    subst hrk
    exact W.vret hx hb hr (fun t ht hW => ⟨⟨M, rfl, hs2, hW0 t ht⟩, hS.F ht⟩) hS.2.2 h1
/-- a throw -/
theorem w_throw (hX : HypM p l R s m args meth c sg cA D Aw own bytes maxL km ret dp) (hwl : ∀ w ∈ wl, w ∈ lw_tbl) (hgd : ∀ w ∈ wl, goodWord w = true ∨ isNestW w = true ∨ isStrW w = true) (hns : NSOk l ρ sg cA D Aw) (hex : ∀ a, 1 ≤ a → a ≤ 4 → exOk a = true) {ik : Nat}
    (hc : chkI infs wl own bytes maxL ret pcs ip ps (.new ik, (a, b, c0, d), k, ts) = true)
    (hs : stepG cal rk km Q (PW p l e R s m args below meth c ρ sg cA D Aw maxL km pcs rk Q) (.new ik, (a, b, c0, d), k, ts) ip kc lo st M) : PW p l e R s m args below meth c ρ sg cA D Aw maxL km pcs rk Q ip kc lo st M := by
  by_cases h5 : a = 5
  · subst h5
    exact hns p e R s m args below meth c own bytes maxL km ret pcs rk Q wl cal ip kc lo st M b c0 d k ts ps dp ik hX hwl hgd hc hs
  obtain ⟨hx, hb, hr, hml, hown, hlocks, hts, htab, hfix, hsz, htr, hR1, hR2, hm40⟩ := hX
  intro hkm H locs ls hl hP hD hS
  have use : ∀ (pp : Nat) (w : Cond), wAt wl pp w = true → (isNestW w = false) → (isStrW w = false) → w ∈ LW := fun pp w h h1 h2 => by
    have hm := wAt_mem h
    rcases hgd w hm with q | q | q
    · exact LW_mem (hwl w hm) q
    · rw [h1] at q; cases q
    · rw [h2] at q; cases q
  simp only [stepG] at hs
  simp only [chkI, dN, dE, dEp, jT, Bool.and_eq_true, decide_eq_true_eq] at hc
  obtain ⟨⟨⟨⟨h0, h3⟩, hdd⟩, rfl, ha1, ha5, rfl⟩, hps⟩ := hc
  obtain ⟨hg, hs1⟩ := guardB_of hs
  rw [Bool.and_eq_true] at hg
  have hg1 := Nat.le_of_ble_eq_true hg.1
  have hg2 := Nat.le_of_ble_eq_true hg.2
  rcases ps with _ | ⟨p0, _ | ⟨p1, _ | ⟨p2, _ | ⟨p3, ps⟩⟩⟩⟩ <;> try (cases hps; done)
  simp only [Bool.and_eq_true] at hps
  obtain ⟨⟨w0, w1⟩, w2⟩ := hps
  cases hq : nth wl p2 with
  | none => rw [hq] at w2; cases w2
  | some v =>
    rw [hq] at w2
    cases v with
    | stringRef o x tx =>
      have w2 := of_decide_eq_true w2
      obtain ⟨rfl, rfl⟩ := w2
      have hm : Cond.stringRef RX11 x tx ∈ lw_tbl := by
        have : wAt wl p2 (.stringRef RX11 x tx) = true := by unfold wAt; rw [hq]; simp
        exact wAt_of hwl this
      obtain ⟨sa, hsa⟩ := hfix.2.2.2.1 _ _ _ hm
      have hat : ∀ w ∈ vx_atS RX11 (exC a) (exN a) exNames, w.before args s = true := by
        intro w hw
        have h9 := List.all_eq_true.mp (hex a ha1 (by omega)) w hw
        simp only [Bool.and_eq_true, Bool.or_eq_true, decide_eq_true_eq] at h9
        obtain ⟨⟨h91, h92⟩, h93⟩ := h9
        rcases h91 with h91 | h91
        · exact hts w (LW_mem h92 h91)
        · cases w <;> try (cases h91; done)
          · exact va_Nw.use rfl (hfix.2.2.2.2.2.2.2.2.2 _ h92)
          · exact va_Nw.use rfl (hfix.2.2.2.2.2.2.2.2.1 _ _ h92)
      have hgood : ∀ w ∈ Cond.classLink RX11 ik (exN a) :: Cond.initialized (exN a) :: vx_atS RX11 (exC a) (exN a) exNames, vx_ot w = true := by
        intro w hw
        rcases List.mem_cons.mp hw with rfl | hw
        · rfl
        · rcases List.mem_cons.mp hw with rfl | hw
          · rfl
          · have h9 := List.all_eq_true.mp (hex a ha1 (by omega)) w hw
            simp only [Bool.and_eq_true] at h9
            exact h9.2
      have hR : exNames.length + 3 < R.frames := by
        have := hm40.2.1
        show 5 < R.frames
        omega
      have hRl : ((st.map (cpv ρ sg)).map fun v => v.category).sum + (13 * (exNames.length + 1) + 43) ≤ R.locals := by
        rw [wsum_cat]
        have := hm40.2.2
        show wsum st + (13 * 3 + 43) ≤ R.locals
        omega
      have hxx : ∀ t : State, s.vm.Alike t.vm → H.size ≤ t.heap.size → (∀ q : Nat, q < H.size → t.heap[q]? = H[q]?) → XCf ρ sg cA D Aw Q (exN a) s t := fun t _ hz hqq =>
        ⟨(a, M), hs1, ⟨rfl, wP0_kept ⟨hP, hD, (fun q h => hsz q (Nat.le_trans hS.1 h))⟩ hz hqq⟩, Nat.le_trans hS.1 hz, fun q h1 h2 => by rw [hqq q (Nat.lt_of_lt_of_le h1 hS.1)]; exact hS.2.1 q h1 h2⟩
      rw [Bool.or_eq_true] at hdd
      simp only [Bool.and_eq_true, decide_eq_true_eq] at hdd
      rcases hdd with ⟨⟨d4, d6⟩, d9⟩ | ⟨⟨d4, d7⟩, d10⟩
      · exact vx_throwS hx hb htr (A := Aw) hown (ex_fit a) ex_names (hts _ (use _ _ w0 rfl rfl)) (hts _ (use _ _ w1 rfl rfl)) hsa hat hgood hfix.2.2.2.2.2.1 hfix.2.2.2.2.2.2.1 hS (by rw [hl.1, hml]) h0 h3 d4 d6 d9 (fun x hx => (htab x hx).elim) hR hRl (by rw [hR1]; exact hg1) (by rw [hR2]; omega) hlocks hxx hS.2.2 hg1 (by omega)
      · exact vx_throwSW hx hb htr (A := Aw) hown (ex_fit a) ex_names (hts _ (use _ _ w0 rfl rfl)) (hts _ (use _ _ w1 rfl rfl)) hsa hat hgood hfix.2.2.2.2.2.1 hfix.2.2.2.2.2.2.1 hS (by rw [hl.1, hml]) h0 h3 d4 d7 d10 (fun x hx => (htab x hx).elim) hR hRl (by rw [hR1]; exact hg1) (by rw [hR2]; omega) hlocks hxx hS.2.2 hg1 (by omega)
    | _ => cases w2
/-- behind a call -/
theorem w_cont (hX : HypM p l R s m args meth c sg cA D Aw own bytes maxL km ret dp) {H : Heap} {locs : List Loc} {ls : Array Slot} {pc kmf rkf : Nat} {stv rest : List Value} {aa : Array Value} {Q' : Rs → Mem → Prop} {R' : PS} (hrf : rkf ≤ 3)
    (hl : LR ρ sg ls maxL lo) (hS : va_S Aw s.heap H locs) (hkk : kc + kmf ≤ km) (hR' : rest = R'.map (cpv ρ sg))
    (hrun : vx_Run p l e R s m args below meth c H locs kc (6 * kc) kmf (6 * kmf) (F0 m pc ls stv) rest (Qcf ρ sg cA D Aw rkf Q' aa) (XCf ρ sg cA D Aw Q') Aw)
    (hpc : pcN pcs (ip + 1) = pc + 3)
    (hok : ∀ v M', Q' (.inl v) M' → PW p l e R s m args below meth c ρ sg cA D Aw maxL km pcs rk Q (ip + 1) (kc + kmf) lo (pushR rkf v R') M')
    (hno : ∀ x M', Q' (.inr x) M' → Q (.inr x) M') : W p l e R s m args below meth c H locs kc (6 * kc) (vx_MQ below (Qcf ρ sg cA D Aw rk Q) (XCf ρ sg cA D Aw Q) args s km (6 * km) Aw) (F0 m pc ls stv) := by
  obtain ⟨hx, hb, hr, hml, hown, hlocks, hts, htab, hfix, hsz, htr, hR1, hR2, hm40⟩ := hX
  have e6 : 6 * kc + 6 * kmf = 6 * (kc + kmf) := by omega
  have kx : ∀ (E : String) (ce : Cell) (q9 : Addr) (u : Nat × Mem) (t : State) (H1 : Heap) (locs1 : List Loc), t.heap = H1 → s.vm.Alike t.vm → Q' (.inr u.1) u.2 → (E = exN u.1 ∧ wP0 ρ cA D Aw u.2 t.heap) → H.size ≤ H1.size → (∀ q : Nat, q < H.size → ¬ Aw q → H1[q]? = H[q]?) → va_S Aw s.heap H1 locs1 → H1[q9]? = some ce → ce.vm = .none → s.vm.findClass E = some ce.cls → vx_W p l e R s m args below meth c H1 locs1 (kc + kmf) (6 * kc + 6 * kmf) (vx_MQ below (Qcf ρ sg cA D Aw rk Q) (XCf ρ sg cA D Aw Q) args s km (6 * km) Aw) (F0 m pc ls rest) q9 := by
    intro E ce q9 u t H1 locs1 ht hal hpx hBX hz hfr hS1 hce hv hcl
    refine vx_out (fun x hx => (htab x hx).elim) hlocks hce hv hcl (fun t2 ht2 _ => ⟨u, hno _ _ hpx, ⟨hBX.1, ?_⟩, hS1.F ht2⟩) hS1.2.2 hkk (by omega)
    rw [ht2, ← ht]
    exact hBX.2
  have kk : ∀ (v : Int) (M' : Mem) (t : State) (H1 : Heap) (locs1 : List Loc), t.heap = H1 → Q' (.inl v) M' → wP0 ρ cA D Aw M' t.heap → va_S Aw s.heap H1 locs1 → W p l e R s m args below meth c H1 locs1 (kc + kmf) (6 * kc + 6 * kmf) (vx_MQ below (Qcf ρ sg cA D Aw rk Q) (XCf ρ sg cA D Aw Q) args s km (6 * km) Aw) (F0 m (pc + 3) ls ((pushR rkf v R').map (cpv ρ sg))) := by
    intro v M' t H1 locs1 ht hq hB hS1
    rw [ht] at hB
    rw [e6, ← hpc]
    exact hok v M' hq hkk H1 locs1 ls hl hB.1 hB.2.1 hS1
  rcases rkf with _ | _ | _ | _ | rkf
  · refine vx_callv (a := aa) hrun hS (fun q _ h => h) (fun q h => h) (fun q _ h => h) kx (fun u t H1 locs1 ht hal hpo hB hz hfr hS1 => ?_)
    have := kk 0 u t H1 locs1 ht hpo hB hS1
    rw [hR']
    exact this
  · refine vx_calli (a := aa) hrun hS (fun q _ h => h) (fun q h => h) (fun q _ h => h) kx (fun r u t H1 locs1 ht hal hpo hB hz hfr hS1 => ?_)
    obtain ⟨x, rfl, hq⟩ := hpo
    have := kk x u t H1 locs1 ht hq hB hS1
    rw [hR']
    exact this
  · refine vx_calll (a := aa) hrun hS (fun q _ h => h) (fun q h => h) (fun q _ h => h) kx (fun r u t H1 locs1 ht hal hpo hB hz hfr hS1 => ?_)
    obtain ⟨x, rfl, hq⟩ := hpo
    have := kk x u t H1 locs1 ht hq hB hS1
    rw [hR']
    exact this
  · refine vx_calli (a := aa) hrun hS (fun q _ h => h) (fun q h => h) (fun q _ h => h) kx (fun r u t H1 locs1 ht hal hpo hB hz hfr hS1 => ?_)
    obtain ⟨x, rfl, hq⟩ := hpo
    have := kk x u t H1 locs1 ht hq hB hS1
    rw [hR']
    exact this
  · omega
theorem wPic_blind {M : Mem} {av : List Value} : FrameBlind (va_Pc av (fun U => wPic ρ sg cA D Aw M U)) := fun a U g mk q =>
  ⟨q.1, q.2.1, q.2.2.1, q.2.2.2.1, wFix.warm (s := U) (U := U.calling g mk a) (State.WarmedH.refl U) (fun _ _ _ => rfl) q.2.2.2.2⟩
theorem chkF_of {f : Inf} (h : chkF wl f = true) : wAt wl f.2.2.2.2.2.2.2 (.code f.2.1 f.2.2.1 f.2.2.2.1 f.2.2.2.2.1) = true ∧ f.1 = f.2.1.cls ∧ plainName f.2.1.cls = true ∧ f.2.2.2.2.2.1.2.1 = rkOf f.2.2.2.2.1 ∧ f.2.2.2.2.2.1.2.2.2.1 = f.2.2.2.1 ∧ f.2.2.2.1 ≤ 40 ∧ (f.2.2.2.2.2.1.2.2.2.2 = 0 ∨ clR (f.2.2.2.2.2.1.2.2.2.2 - 1) = f.1 ∧ f.2.2.2.2.2.1.2.2.2.2 ≤ 12) ∧ f.2.1.cls ≠ "java/lang/invoke/MethodHandle" ∧ f.2.1.cls ≠ "java/lang/invoke/VarHandle" ∧ rkOf f.2.2.2.2.1 ≤ 3 := by
  unfold chkF at h
  rw [Bool.and_eq_true] at h
  exact ⟨h.1, of_decide_eq_true h.2⟩
/-- calls -/
theorem w_call (hX : HypM p l R s m args meth c sg cA D Aw own bytes maxL km ret dp) (hwl : ∀ w ∈ wl, w ∈ lw_tbl) (hgd : ∀ w ∈ wl, goodWord w = true ∨ isNestW w = true ∨ isStrW w = true)
    (hinf : ∀ y f, nth infs y = some f → ∃ wl', (∀ w ∈ wl', w ∈ lw_tbl) ∧ chkF wl' f = true)
    (hIH : ∀ y a M Q, cal y a M Q → SoundC l ρ sg cA D Aw dp y a M Q)
    (hrec : ∀ y a M Q f, cal y a M Q → nth infs y = some f → 1 ≤ f.2.2.2.2.2.1.2.2.2.2 → ∃ o r, a = .inr (.inr (.inl o)) :: r ∧ wOb o = f.2.2.2.2.2.1.2.2.2.2) {i : Instr} {idx : Nat} (hi : i = .invokevirtual idx ∨ (i = .invokestatic idx ∧ ¬ (4 ≤ c0 ∧ c0 ≤ 7)))
    (hc : chkI infs wl own bytes maxL ret pcs ip ps (i, (a, b, c0, d), k, ts) = true)
    (hs : stepG cal rk km Q (PW p l e R s m args below meth c ρ sg cA D Aw maxL km pcs rk Q) (i, (a, b, c0, d), k, ts) ip kc lo st M) : PW p l e R s m args below meth c ρ sg cA D Aw maxL km pcs rk Q ip kc lo st M := by
  have hX0 := hX
  obtain ⟨hx, hb, hr, hml, hown, hlocks, hts, htab, hfix, hsz, htr, hR1, hR2, hm40⟩ := hX
  intro hkm H locs ls hl hP hD hS
  have use : ∀ (pp : Nat) (w : Cond), wAt wl pp w = true → (isNestW w = false) → (isStrW w = false) → w ∈ LW := fun pp w h h1 h2 => by
    have hm := wAt_mem h
    rcases hgd w hm with q | q | q
    · exact LW_mem (hwl w hm) q
    · rw [h1] at q; cases q
    · rw [h2] at q; cases q
  have hgs : guardB (Nat.ble (kc + d) km && Nat.ble (wsum (st.drop b)) 8 && Nat.ble b st.length) (cal a (st.take b).reverse M fun r M' => Rt r (fun v => PW p l e R s m args below meth c ρ sg cA D Aw maxL km pcs rk Q (ip + 1) (kc + d) lo (pushR c0 v (st.drop b)) M') (fun x => Q (.inr x) M')) := by
    rcases hi with rfl | ⟨rfl, hi⟩
    · exact hs
    · rcases c0 with _ | _ | _ | _ | _ | _ | _ | _ | c0 <;> first | exact hs | (exfalso; omega)
  have hcc : (decode bytes (pcN pcs ip) = .ok (i, 3) ∧ pcN pcs (ip + 1) = pcN pcs ip + 3) ∧ ∃ isV, (isV = true → i = .invokevirtual idx) ∧ (isV = false → i = .invokestatic idx) ∧ chkC infs wl own idx isV ps a b c0 d = true := by
    rcases hi with rfl | ⟨rfl, hi⟩
    · simp only [chkI, dN, Bool.and_eq_true, decide_eq_true_eq] at hc
      exact ⟨hc.1, true, fun _ => rfl, (fun q => by cases q), hc.2⟩
    · rcases c0 with _ | _ | _ | _ | _ | _ | _ | _ | c0 <;> first
        | (exfalso; omega)
        | (simp only [chkI, dN, Bool.and_eq_true, decide_eq_true_eq] at hc
           exact ⟨hc.1, false, (fun q => by cases q), fun _ => rfl, hc.2⟩)
  obtain ⟨⟨h1, h2⟩, isV, hv1, hv2, h3⟩ := hcc
  obtain ⟨hg, hcal⟩ := guardB_of hgs
  simp only [Bool.and_eq_true] at hg
  have hg1 := Nat.le_of_ble_eq_true hg.1.1
  have hg2 := Nat.le_of_ble_eq_true hg.1.2
  have hg3 := Nat.le_of_ble_eq_true hg.2
  unfold chkC at h3
  cases hf : nth infs a with
  | none => rw [hf] at h3; cases h3
  | some f =>
    rw [hf] at h3
    obtain ⟨wl', hwl', hcf⟩ := hinf a f hf
    obtain ⟨f1, f2, f3, f4, f5, f6, f7, f8, f9, f10⟩ := chkF_of hcf
    have hcode : Cond.code f.2.1 f.2.2.1 f.2.2.2.1 f.2.2.2.2.1 ∈ LW := LW_mem (wAt_of hwl' f1) rfl
    have hGws : GoodIn LW (wsI f) := fun w hw => by
      rcases List.mem_cons.mp hw with rfl | hw
      · exact ⟨hcode, good_of_word rfl⟩
      · exact ⟨hw, good_of_word (LW_good w hw)⟩
    have hM := hIH a _ M _ hcal f hf
    rcases ps with _ | ⟨p0, _ | ⟨q0, ps⟩⟩
    · cases h3
    · cases h3
    · simp only [Bool.and_eq_true, decide_eq_true_eq] at h3
      obtain ⟨⟨⟨⟨w0, hc0⟩, hd0⟩, hcls⟩, h4⟩ := h3
      have hRr : (rmd dp f.2.2.2.2.2.1.2.2.1).frames + 1 ≤ R.frames ∧ 8 + (f.2.2.2.1 + 11) + (rmd dp f.2.2.2.2.2.1.2.2.1).locals ≤ R.locals := by
        refine ⟨?_, ?_⟩
        · show dp + 8 + 1 ≤ R.frames
          have := hm40.2.1
          omega
        · show 8 + (f.2.2.2.1 + 11) + (60 * dp + 200) ≤ R.locals
          have := hm40.2.2
          omega
      have hkk : kc + f.2.2.2.2.2.1.2.2.1 ≤ km := by rw [← hd0]; exact hg1
      have hff : kc + f.2.2.2.2.2.1.2.2.1 ≤ R.cells ∧ 6 * kc + 6 * f.2.2.2.2.2.1.2.2.1 ≤ R.slots := by
        rw [hR1, hR2]
        exact ⟨hkk, by omega⟩
      have hroom : 2 * (F0 m (pcN pcs ip) ls (st.map (cpv ρ sg))).monitorRoom + (((st.drop b).map (cpv ρ sg)).map fun v => v.category).sum ≤ 8 := by
        show 2 * 0 + _ ≤ 8
        rw [wsum_cat]
        omega
      have hst : st = st.take b ++ st.drop b := (List.take_append_drop b st).symm
      have hpic : ∀ U : State, U.heap = H → s.WarmedH U.vm → wPic ρ sg cA D Aw M U := fun U hU hW => ⟨by rw [hU]; exact hP, hD, by rw [hU]; exact (fun q h => hsz q (Nat.le_trans hS.1 h)), hfix.warm hW (fun q q1 q2 => by rw [hU]; exact hS.2.1 q q1 q2)⟩
      have hok : ∀ v M', (fun r M' => Rt r (fun v => PW p l e R s m args below meth c ρ sg cA D Aw maxL km pcs rk Q (ip + 1) (kc + d) lo (pushR c0 v (st.drop b)) M') (fun x => Q (.inr x) M')) (.inl v) M' → PW p l e R s m args below meth c ρ sg cA D Aw maxL km pcs rk Q (ip + 1) (kc + f.2.2.2.2.2.1.2.2.1) lo (pushR f.2.2.2.2.2.1.2.1 v (st.drop b)) M' := fun v M' q => by
        rw [f4, ← hc0, ← hd0]
        exact q
      have hrk3 : f.2.2.2.2.2.1.2.1 ≤ 3 := by rw [f4]; exact f10
      cases isV with
      | true =>
        have hi2 := hv1 rfl
        subst hi2
        rw [Bool.not_true, Bool.and_false, Bool.false_and, Bool.or_false] at w0
        rcases ps with _ | ⟨q1, _ | ⟨q2, _ | ⟨q3, ps⟩⟩⟩ <;> try (cases h4; done)
        simp only [Bool.and_eq_true, decide_eq_true_eq] at h4
        obtain ⟨⟨⟨⟨u1, u2⟩, u3⟩, u4, u5⟩, u6⟩ := h4
        obtain ⟨o, r, hor, hob⟩ := hrec a _ M _ f hcal hf u6
        have htk : st.take b = r.reverse ++ [.inr (.inr (.inl o))] := by
          have := congrArg List.reverse hor
          rw [List.reverse_reverse, List.reverse_cons] at this
          exact this
        have hlen : r.length = b - 1 := by
          have := congrArg List.length htk
          rw [List.length_take, List.length_append, List.length_reverse] at this
          simp at this
          omega
        have hcls13 : f.2.2.2.2.2.1.2.2.2.2 - 1 < 12 ∧ clR (f.2.2.2.2.2.1.2.2.2.2 - 1) = f.2.1.cls := by
          rcases f7 with q | q
          · omega
          · exact ⟨by omega, q.1.trans f2⟩
        have hob' : wOb o = (f.2.2.2.2.2.1.2.2.2.2 - 1) + 1 := by omega
        have hrv := va_recv hfix.1 hP (gCl_at _ hcls13.1) (wWs_ob hob')
        dsimp only at hrv
        rw [hcls13.2] at hrv
        have hcw : CallW R s args own f.2.1.cls idx f.2.1 f.2.2.1 f.2.2.2.1 f.2.2.2.2.1 (wsI f) (rmd dp f.2.2.2.2.2.1.2.2.1) f.2.2.2.2.2.1.2.2.1 (6 * f.2.2.2.2.2.1.2.2.1) (b - 1) := by
          refine cwV (b - 1) hts ?_ rfl rfl rfl ⟨rfl, f8, f9, u5⟩ hRr
          intro w hw
          unfold wsV at hw
          rcases List.mem_append.mp hw with hw | hw
          · have hww : w ∈ LW := by
              simp only [List.mem_cons, List.not_mem_nil, or_false] at hw
              rcases hw with rfl | rfl | rfl | rfl
              · exact use _ _ w0 rfl rfl
              · exact use _ _ u1 rfl rfl
              · exact use _ _ u2 rfl rfl
              · exact use _ _ u3 rfl rfl
            exact ⟨hww, good_of_word (LW_good w hww)⟩
          · exact hGws w hw
        rw [hor] at hM
        have hstk : (F0 m (pcN pcs ip) ls (st.map (cpv ρ sg))).stack = (r.map (cpv ρ sg)).reverse ++ .ref (ρ o) :: (st.drop b).map (cpv ρ sg) := by
          show st.map (cpv ρ sg) = _
          conv => lhs; rw [hst, htk]
          simp [List.map_append, List.map_reverse, cpv]
        refine w_cont hX0 hrk3 hl hS hkk rfl (vx_runV ⟨hx, hb, hml, hown, hts⟩ hM hcw ⟨wPic_blind, hrv, fun U hU hW => ⟨rfl, hpic U hU hW⟩⟩ rfl (by rw [List.length_map]; exact hlen) hl.1 hstk hroom h1 hff) h2 hok (fun x M' q => q)
      | false =>
        have hi2 := hv2 rfl
        subst hi2
        rcases ps with _ | ⟨q1, _ | ⟨q2, ps⟩⟩ <;> try (cases h4; done)
        simp only [Bool.and_eq_true, decide_eq_true_eq] at h4
        obtain ⟨⟨⟨u1, u2⟩, u3⟩, u4⟩ := h4
        have hlen : ((st.take b).reverse.map (cpv ρ sg)).length = b := by
          rw [List.length_map, List.length_reverse, List.length_take]
          omega
        have hstk : (F0 m (pcN pcs ip) ls (st.map (cpv ρ sg))).stack = ((st.take b).reverse.map (cpv ρ sg)).reverse ++ (st.drop b).map (cpv ρ sg) := by
          show st.map (cpv ρ sg) = _
          conv => lhs; rw [hst]
          simp [List.map_append, List.map_reverse]
        have hini : (Cond.initialized f.2.1.cls).before args s = true := hts _ (use _ _ u2 rfl rfl)
        have hst9 : (Cond.static f.2.1).before args s = true := hts _ (use _ _ u1 rfl rfl)
        rw [Bool.or_eq_true] at w0
        rcases w0 with w0 | w0
        · have hcw := va_cwS (R := R) (s := s) (args := args) (own := own) (index := idx) (y := f.2.1) (bytes := f.2.2.1) (maxL := f.2.2.2.1) (ret := f.2.2.2.2.1) (ws := wsI f) (rm := rmd dp f.2.2.2.2.2.1.2.2.1) (mc := f.2.2.2.2.2.1.2.2.1) (ms := 6 * f.2.2.2.2.2.1.2.2.1) (Ts := LW) b hts (by
            intro w hw
            unfold va_wsS at hw
            rcases List.mem_append.mp hw with hw | hw
            · have hww : w ∈ LW := by
                simp only [List.mem_cons, List.not_mem_nil, or_false] at hw
                rcases hw with rfl | rfl | rfl
                · exact use _ _ w0 rfl rfl
                · exact use _ _ u1 rfl rfl
                · exact use _ _ u2 rfl rfl
              exact ⟨hww, good_of_word (LW_good w hww)⟩
            · exact hGws w hw) rfl rfl rfl ⟨f8, f9, u3⟩ hRr
          exact w_cont hX0 hrk3 hl hS hkk rfl (vx_runS ⟨hx, hb, hml, hown, hts⟩ hM hcw ⟨wPic_blind, fun U hU hW => ⟨rfl, hpic U hU hW⟩⟩ rfl hlen hl.1 hstk hroom h1 hff) h2 hok (fun x M' q => q)
        · simp only [Bool.and_eq_true, decide_eq_true_eq] at w0
          obtain ⟨⟨w0, -⟩, w1⟩ := w0
          have hn := hfix.2.2.2.2.2.2.2.1 _ _ _ _ (wAt_of hwl w0)
          have hcw := va_cnB (R := R) (s := s) (args := args) (own := own) (host := RX11) (index := idx) (y := f.2.1) (bytes := f.2.2.1) (maxL := f.2.2.2.1) (ret := f.2.2.2.2.1) (ws := wsI f) (rm := rmd dp f.2.2.2.2.2.1.2.2.1) (mc := f.2.2.2.2.2.1.2.2.1) (ms := 6 * f.2.2.2.2.2.1.2.2.1) (Ts := LW) b hts hGws rfl rfl rfl hn hini ⟨f8, f9, u3⟩ hRr
          exact w_cont hX0 hrk3 hl hS hkk rfl (vx_runSN ⟨hx, hb, hml, hown, hts⟩ hM ⟨hcw, hst9, trivial⟩ ⟨wPic_blind, fun U hU hW => ⟨rfl, hpic U hU hW⟩⟩ rfl hlen hl.1 hstk hroom h1 hff) h2 hok (fun x M' q => q)
end Steps4
