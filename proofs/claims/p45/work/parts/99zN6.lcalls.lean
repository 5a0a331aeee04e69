/-! The law's calls: its own methods, and the class's. -/
theorem wStr.narrow {sg : Nat → Nat} {A A' : Nat → Prop} {U : State} (h : wStr sg A U) (hq : ∀ q, A' q → A q) : wStr sg A' U := by
  obtain ⟨h1, h2, h3⟩ := h
  refine ⟨fun j a b => ?_, h2.narrow hq, h3.narrow hq⟩
  obtain ⟨g1, g2, t, g3, g4⟩ := h1 j a b
  exact ⟨g1.narrow hq, g2.narrow hq, t, g3.narrow hq, g4.narrow hq⟩
theorem wFix.narrow {sg : Nat → Nat} {cA : Nat → ClassId} {D : va_G} {A A' : Nat → Prop} {U : State} (h : wFix sg cA D A U) (hq : ∀ q, A' q → A q) : wFix sg cA D A' U := by
  obtain ⟨h1, h2, h3, h4, h5, h6, h7, h8, h9, h10⟩ := h
  exact ⟨h1, h2.narrow hq, h3.narrow hq, h4, ⟨h5.1, h5.2.narrow hq⟩, h6.narrow hq, h7.narrow hq, h8, h9, h10⟩
theorem strAt.narrow {wd : List Int} {a0 : Nat} {A A' : Nat → Prop} {U : State} (h : strAt wd a0 A U) (hq : ∀ q, A' q → A q) : strAt wd a0 A' U := by
  obtain ⟨g1, g2, t, g3, g4⟩ := h
  exact ⟨g1.narrow hq, g2.narrow hq, t, g3.narrow hq, g4.narrow hq⟩
theorem wFixL.narrow {sg sgL : Nat → Nat} {cA cW : Nat → ClassId} {D : va_G} {A A' J : Nat → Prop} {U : State} (h : wFixL sg sgL cA cW D A J U) (hq : ∀ q, A' q → A q) : wFixL sg sgL cA cW D A' J U := by
  obtain ⟨h1, h2, h3, h4, h5, h6, h7, h8, h9, h10⟩ := h
  exact ⟨h1.narrow hq, h2, h3, h4, fun j hj => ⟨(h5 j hj).1.narrow hq, (h5 j hj).2⟩, h6, h7, h8, h9.narrow hq, h10.narrow hq⟩
/-- the class's own cells, and all that is new -/
def Awc (ρ : Nat → Nat) (sz : Nat) : Nat → Prop := fun q => (∃ n, n < 150 ∧ ρ n = q) ∨ sz ≤ q
theorem numA_map {ρ sg sgL : Nat → Nat} {B hq : Nat} : ∀ as : List PV, numA as = true → as.map (cpv ρ sg) = as.map (lpv B hq sgL)
  | [], _ => rfl
  | .inl x :: r, h => by
    show _ :: r.map _ = _ :: r.map _
    rw [numA_map r h]
    rfl
  | .inr (.inl x) :: r, h => by
    show _ :: r.map _ = _ :: r.map _
    rw [numA_map r h]
    rfl
  | .inr (.inr (.inl x)) :: r, h => by cases h
  | .inr (.inr (.inr x)) :: r, h => by cases h
def retV (rk : Nat) (v : Int) : List Value := match rk with
  | 0 => []
  | 2 => [.long (Int64.ofInt v)]
  | _ => [.int (Int32.ofInt v)]
/-- what a call of the law answers, on the machine -/
def SoundL (l : Launch) (linfs : List Inf) (ρ sg : Nat → Nat) (cA cW : Nat → ClassId) (D : va_G) (B : Nat) (d y : Nat) (a : List PV) (M : Mem) (C : LMem) (Q : LQ) : Prop :=
  ∀ f : Inf, nth linfs y = some f → ∀ (sgL : Nat → Nat) (A J : Nat → Prop), (∀ k, (.inr (.inr (.inr (k + 1))) : PV) ∈ a → J (k + 1)) →
    ∃ ws, GoodIn LW ws ∧ (ws = wsI f ∨ ∃ hh, ws = Cond.codeWith f.2.1 f.2.2.1 f.2.2.2.1 f.2.2.2.2.1 hh :: LW) ∧ Met l f.2.1 ws (rmL d f.2.2.2.2.2.1.2.2.1) (va_Pc (a.map (lpv B (ρ 149) sgL)) (fun U => wWL D cA cW A ρ B M C U.heap ∧ B ≤ U.heap.size ∧ (∀ q : Nat, U.heap.size ≤ q → A q) ∧ wFixL sg sgL cA cW D A J U)) (QcL D cA cW A ρ B f.2.2.2.2.2.1.2.1 Q) f.2.2.2.2.2.1.2.2.1 (52 * f.2.2.2.2.2.1.2.2.1) A
theorem wsL_good {idx : Nat} {y : MethodName} {ws : List Cond} (h1 : Cond.methodLink RL idx y ∈ LW) (h2 : Cond.static y ∈ LW) (h4 : Cond.initialized y.cls ∈ LW) (h : GoodIn LW ws) : GoodIn LW (va_wsS RL idx y ws) := fun w hw => by
  unfold va_wsS at hw
  rcases List.mem_append.mp hw with hw | hw
  · have hww : w ∈ LW := by
      simp only [List.mem_cons, List.not_mem_nil, or_false] at hw
      rcases hw with rfl | rfl | rfl
      · exact h1
      · exact h2
      · exact h4
    exact ⟨hww, good_of_word (LW_good w hww)⟩
  · exact h w hw
section StepsL6
variable {p : Program} {l : Launch} {e : Env} {R : Room} {s : State} {m : MethodId} {args : Array Value} {below : List Frame} {meth : Method} {c : Code}
variable {ρ sg sgL : Nat → Nat} {cA cW : Nat → ClassId} {D : va_G} {A J : Nat → Prop} {B : Nat} {bytes : ByteArray} {maxL km : Nat} {ret : Option FieldType} {pcs : List Nat} {rk : Nat} {Q : LQ}
variable {wl : List Cond} {linfs : List Inf} {mac : MacS} {cal : LCal} {cc : Cal} {ip kc : Nat} {lo : PL} {st : PS} {M : Mem} {C : LMem} {a b c0 d : Nat} {k : Int} {ts : List Nat} {ps : List Nat} {dp : Nat}
variable {Z : State → Prop} {H : Heap} {locs : List Loc} {ls : Array Slot} {cells slots : Nat} {rest : List Value} {pc : Nat}
theorem wWL.awc (hw : wWL D cA cW A ρ B M C H) (hsz : ∀ q : Nat, H.size ≤ q → A q) : ∀ q, Awc ρ H.size q → A q := by
  rintro q (⟨n, hn, rfl⟩ | h)
  · exact hw.2.1.2 n _ (wWs_at hn)
  · exact hsz q h
theorem wWL.back (hw : wWL D cA cW A ρ B M C H) (hsz : ∀ q : Nat, H.size ≤ q → A q) {M' : Mem} {H1 : Heap} (hB : wP0 ρ cA D (Awc ρ H.size) M' H1) (hfr : ∀ q : Nat, q < H.size → ¬ Awc ρ H.size q → H1[q]? = H[q]?) : wWL D cA cW A ρ B M' C H1 := by
  refine ⟨hB.1, hB.2.1.weaken (fun k q _ h => hw.awc hsz q.1 h), hw.2.2.kept fun k hk => hfr _ (hw.2.2.lt hk) ?_⟩
  rintro (⟨n, hn, e9⟩ | h)
  · exact (hw.2.2 k hk).2.1 n hn e9
  · have := hw.2.2.lt hk
    omega
/-- a call of the class -/
theorem l_class (hX : HypL p l R s m args meth c sg sgL cA cW D A J B bytes maxL km ret dp) {y : Nat} {f : Inf} (hf : nth infs y = some f) (hcf : ∃ wl', (∀ w ∈ wl', w ∈ lw_tbl) ∧ chkF wl' f = true) {idx nA : Nat} (w0 : Cond.methodLink RL idx f.2.1 ∈ LW) (w1 : Cond.instanceMethod f.2.1 ∈ LW) (w2 : Cond.selects RX11 f.2.1 f.2.1 ∈ LW) (w3 : Cond.initialized RX11 ∈ LW) (hcl : f.2.1.cls = RX11) (hob : f.2.2.2.2.2.1.2.1 ≤ 3) (hpar : (parseMethodDescriptor f.2.1.desc).map (fun q => q.parameters.length) = some nA)
    {as : List PV} (hna : numA as = true) (hlen : as.length = nA) {Q' : Rs → Mem → Prop} (hcal : cald 12 y (.inr (.inr (.inl kQ)) :: as) M Q') (hkk : kc + f.2.2.2.2.2.1.2.2.1 ≤ km) (hw : wWL D cA cW A ρ B M C H) (hS : va_S A s.heap H locs) (hl : ls.size = maxL) (hroom : (rest.map fun v => v.category).sum ≤ 8) (hd : decode bytes pc = .ok (.invokevirtual idx, 3))
    (kx : ∀ (x : Nat) (M' : Mem) (H1 : Heap) (locs1 : List Loc) (ce : Cell) (q9 : Addr), Q' (.inr x) M' → wWL D cA cW A ρ B M' C H1 → va_S A s.heap H1 locs1 → H1[q9]? = some ce → ce.vm = .none → s.vm.findClass (exN x) = some ce.cls → vx_W p l e R s m args below meth c H1 locs1 (kc + f.2.2.2.2.2.1.2.2.1) (52 * kc + 6 * f.2.2.2.2.2.1.2.2.1) Z (F0 m pc ls rest) q9)
    (kk : ∀ (v : Int) (M' : Mem) (H1 : Heap) (locs1 : List Loc), Q' (.inl v) M' → wWL D cA cW A ρ B M' C H1 → va_S A s.heap H1 locs1 → W p l e R s m args below meth c H1 locs1 (kc + f.2.2.2.2.2.1.2.2.1) (52 * (kc + f.2.2.2.2.2.1.2.2.1)) Z (F0 m (pc + 3) ls (retV f.2.2.2.2.2.1.2.1 v ++ rest))) : W p l e R s m args below meth c H locs kc (52 * kc) Z (F0 m pc ls ((as.map (lpv B (ρ 149) sgL)).reverse ++ .ref (ρ 149) :: rest)) := by
  obtain ⟨hx, hb, hr, hml, hown, hlocks, hts, hfix, hsz, hBs, htr, hR1, hR2, hm40⟩ := hX
  obtain ⟨wl', hwl', hcf⟩ := hcf
  obtain ⟨f1, f2, f3, f4, f5, f6, f7, f8, f9, f10⟩ := chkF_of hcf
  have hcode : Cond.code f.2.1 f.2.2.1 f.2.2.2.1 f.2.2.2.2.1 ∈ LW := LW_mem (wAt_of hwl' f1) rfl
  have hszH : ∀ q : Nat, H.size ≤ q → A q := fun q h => hsz q (Nat.le_trans hS.1 h)
  have hAw := hw.awc hszH
  have hM := snd (ρ := ρ) (sg := sg) (cA := cA) (D := D) (Aw := Awc ρ H.size) htr 12 y _ M Q' hcal f hf
  rw [List.map_cons, numA_map (sgL := sgL) (B := B) (hq := ρ 149) as hna] at hM
  have hrv := va_recv hfix.1.1 hw.1 (gCl_at 11 (by decide)) (wWs_ob (show wOb 149 = 11 + 1 from by decide +kernel))
  have hpic : ∀ U : State, U.heap = H → s.WarmedH U.vm → wPic ρ sg cA D (Awc ρ H.size) M U := fun U hU hW => ⟨by rw [hU]; exact hw.1, hw.2.1.weaken (fun k q hq _ => by
    by_cases h9 : k < 150
    · rw [wWs_at h9] at hq
      cases hq
      exact Or.inl ⟨k, h9, rfl⟩
    · rw [List.getElem?_eq_none (by simp [wWs]; omega)] at hq
      cases hq), fun q h => Or.inr (by rw [hU] at h; exact h), (hfix.1.warm hW (fun q q1 q2 => by rw [hU]; exact hS.2.1 q q1 q2)).narrow hAw⟩
  have hcw : CallW R s args RL RX11 idx f.2.1 f.2.2.1 f.2.2.2.1 f.2.2.2.2.1 (wsI f) (rmd 12 f.2.2.2.2.2.1.2.2.1) f.2.2.2.2.2.1.2.2.1 (6 * f.2.2.2.2.2.1.2.2.1) nA :=
    cwV nA hts (wsV_good w0 w1 w2 w3 hcode) rfl rfl rfl ⟨hcl, by rw [hcl]; decide, by rw [hcl]; decide, hpar⟩ ⟨by show 12 + 8 + 1 ≤ R.frames; omega, by show 8 + (f.2.2.2.1 + 11) + (60 * 12 + 200) ≤ R.locals; omega⟩
  have hrun := vx_runV (As := as.map (lpv B (ρ 149) sgL)) (rest := rest) (b := ρ 149) (g := F0 m pc ls ((as.map (lpv B (ρ 149) sgL)).reverse ++ .ref (ρ 149) :: rest)) (locs := locs) (cells := kc) (slots := 52 * kc) (e := e) (below := below) (meth := meth) (H := H) ⟨hx, hb, hml, hown, hts⟩ hM hcw ⟨wPic_blind, hrv, fun U hU hW => ⟨rfl, hpic U hU hW⟩⟩ rfl (by rw [List.length_map]; exact hlen) hl rfl (by show 2 * 0 + _ ≤ 8; omega) hd (by rw [hR1, hR2]; exact ⟨hkk, by omega⟩)
  have hA9 : ∀ q, q < H.size → Awc ρ H.size q → A q := fun q _ h => hAw q h
  have kx9 : ∀ (E : String) (ce : Cell) (q9 : Addr) (u : Nat × Mem) (t : State) (H1 : Heap) (locs1 : List Loc), t.heap = H1 → s.vm.Alike t.vm → Q' (.inr u.1) u.2 → (E = exN u.1 ∧ wP0 ρ cA D (Awc ρ H.size) u.2 t.heap) → H.size ≤ H1.size → (∀ q : Nat, q < H.size → ¬ Awc ρ H.size q → H1[q]? = H[q]?) → va_S A s.heap H1 locs1 → H1[q9]? = some ce → ce.vm = .none → s.vm.findClass E = some ce.cls → vx_W p l e R s m args below meth c H1 locs1 (kc + f.2.2.2.2.2.1.2.2.1) (52 * kc + 6 * f.2.2.2.2.2.1.2.2.1) Z (F0 m pc ls rest) q9 := fun E ce q9 u t H1 locs1 ht _ hp hB _ hfr hS1 hce hv hcl9 => by
    rw [ht] at hB
    rw [hB.1] at hcl9
    exact kx u.1 u.2 H1 locs1 ce q9 hp (hw.back hszH hB.2 hfr) hS1 hce hv hcl9
  have wid : ∀ {H1 : Heap} {locs1 : List Loc} {g : JFrame}, W p l e R s m args below meth c H1 locs1 (kc + f.2.2.2.2.2.1.2.2.1) (52 * (kc + f.2.2.2.2.2.1.2.2.1)) Z g → W p l e R s m args below meth c H1 locs1 (kc + f.2.2.2.2.2.1.2.2.1) (52 * kc + 6 * f.2.2.2.2.2.1.2.2.1) Z g := fun h => W.widen (Nat.le_refl _) (by omega) h
  revert hrun kk
  generalize f.2.2.2.2.2.1.2.1 = rkf at hob
  intro kk hrun
  rcases rkf with _ | _ | _ | _ | rkf
  · refine vx_callv (a := (Value.ref (ρ 149) :: List.map (lpv B (ρ 149) sgL) as).toArray) hrun hS hA9 hAw hA9 kx9 (fun u t H1 locs1 ht hal hp hB hz hfr hS1 => wid ?_)
    rw [ht] at hB
    exact kk 0 u H1 locs1 hp (hw.back hszH hB hfr) hS1
  · refine vx_calli (a := (Value.ref (ρ 149) :: List.map (lpv B (ρ 149) sgL) as).toArray) hrun hS hA9 hAw hA9 kx9 (fun r u t H1 locs1 ht hal hp hB hz hfr hS1 => wid ?_)
    rw [ht] at hB
    obtain ⟨x, rfl, hq⟩ := hp
    exact kk x u H1 locs1 hq (hw.back hszH hB hfr) hS1
  · refine vx_calll (a := (Value.ref (ρ 149) :: List.map (lpv B (ρ 149) sgL) as).toArray) hrun hS hA9 hAw hA9 kx9 (fun r u t H1 locs1 ht hal hp hB hz hfr hS1 => wid ?_)
    rw [ht] at hB
    obtain ⟨x, rfl, hq⟩ := hp
    exact kk x u H1 locs1 hq (hw.back hszH hB hfr) hS1
  · refine vx_calli (a := (Value.ref (ρ 149) :: List.map (lpv B (ρ 149) sgL) as).toArray) hrun hS hA9 hAw hA9 kx9 (fun r u t H1 locs1 ht hal hp hB hz hfr hS1 => wid ?_)
    rw [ht] at hB
    obtain ⟨x, rfl, hq⟩ := hp
    exact kk x u H1 locs1 hq (hw.back hszH hB hfr) hS1
  · omega
/-- a call of the law's own, and what comes behind it -/
theorem l_own (hX : HypL p l R s m args meth c sg sgL cA cW D A J B bytes maxL km ret dp) {y : Nat} {f : Inf} (hf : nth linfs y = some f) {idx nA : Nat} (w0 : Cond.methodLink RL idx f.2.1 ∈ LW) (w1 : Cond.static f.2.1 ∈ LW) (w2 : Cond.initialized RL ∈ LW) (hcl : f.2.1.cls = RL) (hmx : f.2.2.2.1 ≤ 40) (hrk4 : f.2.2.2.2.2.1.2.1 ≤ 4 ∧ f.2.2.2.2.2.1.2.1 ≠ 0) (hpar : (parseMethodDescriptor f.2.1.desc).map (fun q => q.parameters.length) = some nA)
    {as : List PV} (hlen : as.length = nA) {sg2 : Nat → Nat} {A2 J2 : Nat → Prop} (hA2 : ∀ q, A2 q → A q) (hJ2 : ∀ k, (.inr (.inr (.inr (k + 1))) : PV) ∈ as → J2 (k + 1)) {Q' : LQ} (hcal : SoundL l linfs ρ sg cA cW D B dp y as M C Q') (hkk : kc + f.2.2.2.2.2.1.2.2.1 ≤ km) (hw : wWL D cA cW A2 ρ B M C H) (hsz2 : ∀ q : Nat, H.size ≤ q → A2 q) (hfix2 : ∀ U : State, U.heap = H → s.WarmedH U.vm → wFixL sg sg2 cA cW D A2 J2 U) (hS : va_S A s.heap H locs) (hl : ls.size = maxL) (hroom : (rest.map fun v => v.category).sum ≤ 8) (hd : decode bytes pc = .ok (.invokestatic idx, 3))
    (kk : ∀ (v : Int) (M' : Mem) (C' : LMem) (H1 : Heap) (locs1 : List Loc) (u : Value), Q' v M' C' → wWL D cA cW A2 ρ B M' C' H1 → H.size ≤ H1.size → va_S A s.heap H1 locs1 → (match f.2.2.2.2.2.1.2.1 with | 2 => u = .long (Int64.ofInt v) | 4 => ∃ n : Nat, v = n ∧ u = va_rf (rfB B (n : Int)) | _ => u = .int (Int32.ofInt v)) → W p l e R s m args below meth c H1 locs1 (kc + f.2.2.2.2.2.1.2.2.1) (52 * (kc + f.2.2.2.2.2.1.2.2.1)) Z (F0 m (pc + 3) ls (u :: rest))) : W p l e R s m args below meth c H locs kc (52 * kc) Z (F0 m pc ls ((as.map (lpv B (ρ 149) sg2)).reverse ++ rest)) := by
  obtain ⟨hx, hb, hr, hml, hown, hlocks, hts, hfix, hsz, hBs, htr, hR1, hR2, hm40⟩ := hX
  obtain ⟨ws, hgood, hws, hM⟩ := hcal f hf sg2 A2 J2 hJ2
  have hblind : FrameBlind (va_Pc (as.map (lpv B (ρ 149) sg2)) (fun U => wWL D cA cW A2 ρ B M C U.heap ∧ B ≤ U.heap.size ∧ (∀ q : Nat, U.heap.size ≤ q → A2 q) ∧ wFixL sg sg2 cA cW D A2 J2 U)) := fun a U g mk q =>
    ⟨q.1, q.2.1, q.2.2.1, q.2.2.2.1, wFixL.warm (s := U) (U := U.calling g mk a) (State.WarmedH.refl U) (fun _ _ _ => rfl) q.2.2.2.2⟩
  have hB9 : B ≤ H.size := Nat.le_trans hBs hS.1
  have hpre : PreS s H (va_Pc (as.map (lpv B (ρ 149) sg2)) (fun U => wWL D cA cW A2 ρ B M C U.heap ∧ B ≤ U.heap.size ∧ (∀ q : Nat, U.heap.size ≤ q → A2 q) ∧ wFixL sg sg2 cA cW D A2 J2 U)) (as.map (lpv B (ρ 149) sg2)) :=
    ⟨hblind, fun U hU hW => ⟨rfl, by rw [hU]; exact hw, by rw [hU]; exact hB9, by rw [hU]; exact hsz2, hfix2 U hU hW⟩⟩
  have hrm : (rmL dp f.2.2.2.2.2.1.2.2.1).frames + 1 ≤ R.frames ∧ 8 + (f.2.2.2.1 + 11) + (rmL dp f.2.2.2.2.2.1.2.2.1).locals ≤ R.locals := ⟨by show dp + 40 + 1 ≤ R.frames; omega, by show 8 + (f.2.2.2.1 + 11) + (60 * dp + 1600) ≤ R.locals; omega⟩
  have hgd := wsL_good w0 w1 (by rw [hcl]; exact w2) hgood
  have hcls2 : f.2.1.cls ≠ "java/lang/invoke/MethodHandle" ∧ f.2.1.cls ≠ "java/lang/invoke/VarHandle" := by rw [hcl]; exact ⟨by decide, by decide⟩
  have hff : kc + f.2.2.2.2.2.1.2.2.1 ≤ R.cells ∧ 52 * kc + 52 * f.2.2.2.2.2.1.2.2.1 ≤ R.slots := by rw [hR1, hR2]; exact ⟨hkk, by omega⟩
  have hrun : va_Run p l e R s m args below meth c H locs kc (52 * kc) f.2.2.2.2.2.1.2.2.1 (52 * f.2.2.2.2.2.1.2.2.1) (F0 m pc ls ((as.map (lpv B (ρ 149) sg2)).reverse ++ rest)) rest (QcL D cA cW A2 ρ B f.2.2.2.2.2.1.2.1 Q' (as.map (lpv B (ρ 149) sg2)).toArray) A2 := by
    rcases hws with rfl | ⟨hh, rfl⟩
    · exact va_runS ⟨hx, hb, hml, hown, hts⟩ hM (va_cwS nA hts hgd rfl rfl rfl ⟨hcls2.1, hcls2.2, hpar⟩ hrm) hpre rfl (by rw [List.length_map]; exact hlen) hl rfl (by show 2 * 0 + _ ≤ 8; omega) hd hff
    · exact vx_runSW ⟨hx, hb, hml, hown, hts⟩ hM (vx_cwSW nA hts hgd rfl rfl rfl ⟨hcls2.1, hcls2.2, hpar⟩ hrm) hpre rfl (by rw [List.length_map]; exact hlen) hl rfl (by show 2 * 0 + _ ≤ 8; omega) hd hff
  have hA9 : ∀ q, q < H.size → A2 q → A q := fun q _ h => hA2 q h
  have e52 : 52 * kc + 52 * f.2.2.2.2.2.1.2.2.1 = 52 * (kc + f.2.2.2.2.2.1.2.2.1) := by omega
  revert hrun kk
  generalize f.2.2.2.2.2.1.2.1 = rkf at hrk4
  intro kk hrun
  rcases rkf with _ | _ | _ | _ | _ | rkf
  · exact absurd rfl hrk4.2
  · refine va_calli (a := (List.map (lpv B (ρ 149) sg2) as).toArray) hrun hS hA9 hA2 (fun r u t H1 locs1 ht hal hp hB hz hfr hS1 => ?_)
    obtain ⟨x, rfl, hq⟩ := hp
    rw [e52]
    exact kk x u.1 u.2 H1 locs1 _ hq (by rw [← ht]; exact hB) hz hS1 rfl
  · refine va_calll (a := (List.map (lpv B (ρ 149) sg2) as).toArray) hrun hS hA9 hA2 (fun r u t H1 locs1 ht hal hp hB hz hfr hS1 => ?_)
    obtain ⟨x, rfl, hq⟩ := hp
    rw [e52]
    exact kk x u.1 u.2 H1 locs1 _ hq (by rw [← ht]; exact hB) hz hS1 rfl
  · refine va_calli (a := (List.map (lpv B (ρ 149) sg2) as).toArray) hrun hS hA9 hA2 (fun r u t H1 locs1 ht hal hp hB hz hfr hS1 => ?_)
    obtain ⟨x, rfl, hq⟩ := hp
    rw [e52]
    exact kk x u.1 u.2 H1 locs1 _ hq (by rw [← ht]; exact hB) hz hS1 rfl
  · refine va_callq (a := (List.map (lpv B (ρ 149) sg2) as).toArray) hrun hS hA9 hA2 (fun r u t H1 locs1 ht hal hp hB hz hfr hS1 => ?_)
    obtain ⟨n, rfl, hq⟩ := hp
    rw [e52]
    exact kk (n : Int) u.1 u.2 H1 locs1 _ hq (by rw [← ht]; exact hB) hz hS1 ⟨n, rfl, rfl⟩
  · omega
end StepsL6
