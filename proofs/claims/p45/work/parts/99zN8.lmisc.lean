/-! The rest of the law's steps: sizes and signs of longs, texts, numbers out of the pool. -/
theorem txL_word {j : Nat} (h : 1 ≤ j ∧ j ≤ 5) : txL j = wordL j := if_pos (by omega)
theorem z64_abs {x : Int} (h : -9223372036854775808 < x ∧ x < 9223372036854775808) : (if 0 < Int64.ofInt x then Int64.ofInt x else -Int64.ofInt x) = Int64.ofInt (x.natAbs : Int) := by
  have r0 : R64 0 := ⟨by decide, by decide⟩
  have rx : R64 x := ⟨by omega, h.2⟩
  show (if Int64.ofInt 0 < Int64.ofInt x then Int64.ofInt x else -Int64.ofInt x) = Int64.ofInt (x.natAbs : Int)
  by_cases q : 0 < x
  · rw [if_pos ((z64_lt (x := 0) (y := x) r0 rx).mpr q)]
    congr 1
    omega
  · rw [if_neg (fun z => q ((z64_lt (x := 0) (y := x) r0 rx).mp z)), ← Int64.ofInt_neg]
    congr 1
    omega
section StepsL8
variable {p : Program} {l : Launch} {e : Env} {R : Room} {s : State} {m : MethodId} {args : Array Value} {below : List Frame} {meth : Method} {c : Code}
variable {ρ sg sgL : Nat → Nat} {cA cW : Nat → ClassId} {D : va_G} {A J : Nat → Prop} {B : Nat} {bytes : ByteArray} {maxL km : Nat} {ret : Option FieldType} {pcs : List Nat} {rk : Nat} {Q : LQ}
variable {wl : List Cond} {linfs : List Inf} {mac : MacS} {cal : LCal} {ip kc : Nat} {lo : PL} {st : PS} {M : Mem} {C : LMem} {a b c0 d : Nat} {k : Int} {ts : List Nat} {ps : List Nat} {dp : Nat}
variable {Z : State → Prop} {H : Heap} {locs : List Loc} {ls : Array Slot} {rest : List Value} {pc : Nat}
theorem l_ldcwS (hexec : p.tables.exec = Jvm.exec) (hb : c.code = bytes) {own tx : String} {index q : Nat} {cells slots : Nat} (hown : s.vm.findClass own = some m.cls) (hZ : vk_R own index tx q s) (hdg : decode bytes pc = .ok (.ldc_w index, 3))
    (k : W p l e R s m args below meth c H locs cells slots Z (F0 m (pc + 3) ls (.ref q :: rest))) : W p l e R s m args below meth c H locs cells slots Z (F0 m pc ls rest) := by
  intro T hT X
  obtain ⟨t, a1, b1⟩ := k T hT X
  exact ⟨t, X.ldcStringW hexec hown (text := tx) (a := q) hZ.1 hZ.2 (g := F0 m pc ls rest) rfl (by rw [hb]; exact hdg) t a1, b1⟩
theorem w_absL (hX : HypL p l R s m args meth c sg sgL cA cW D A J B bytes maxL km ret dp) (hwl : ∀ w ∈ wl, w ∈ lw_tbl) (hgd : ∀ w ∈ wl, goodWord w = true ∨ isStrW w = true) {idx : Nat} (h89 : c0 = 8 ∨ c0 = 9)
    (hc : chkIL linfs wl bytes maxL ret pcs ip ps (.invokestatic idx, (a, b, c0, d), k, ts) = true)
    (hs : stepL mac cal (cald 12) rk km Q (PWL p l e R s m args below meth c ρ sgL cA cW D A J B maxL km pcs rk Q) (.invokestatic idx, (a, b, c0, d), k, ts) ip kc lo st M C) : PWL p l e R s m args below meth c ρ sgL cA cW D A J B maxL km pcs rk Q ip kc lo st M C := by
  obtain ⟨hx, hb, hr, hml, hown, hlocks, hts, hfix, hsz, hBs, htr, hR1, hR2, hm40⟩ := hX
  intro hkm hJ H locs ls hl hw hS
  have use : ∀ (pp : Nat) (w : Cond), wAt wl pp w = true → (isStrW w = false) → w ∈ LW := fun pp w h h2 => by
    have hm := wAt_mem h
    rcases hgd w hm with q | q
    · exact LW_mem (hwl w hm) q
    · rw [h2] at q; cases q
  have hmls : c.maxLocals = ls.size := by rw [hml, hl.1]
  rcases h89 with rfl | rfl
  · simp only [stepL] at hs
    simp only [chkIL, dN, Bool.and_eq_true, decide_eq_true_eq] at hc
    obtain ⟨⟨h1, h2⟩, h3⟩ := hc
    obtain ⟨x, r, rfl, hs1⟩ := pL_of hs
    obtain ⟨hg, hrx, hs2⟩ := guardB_of hs1
    have hg := Nat.le_of_ble_eq_true hg
    rcases ps with _ | ⟨p0, _ | ⟨p1, _ | ⟨p2, _ | ⟨p3, _ | ⟨p4, ps⟩⟩⟩⟩⟩ <;> try (cases h3; done)
    simp only [Bool.and_eq_true] at h3
    obtain ⟨⟨⟨w0, w1⟩, w2⟩, w3⟩ := h3
    refine va_mabs_long hx hb hmls hown (hts _ (use _ _ w0 rfl)) (hts _ (use _ _ w1 rfl)) (hts _ (use _ _ w2 rfl)) (hts _ (use _ _ w3 rfl)) (by omega) (by rw [lsum_cat]; omega) (by rw [hR1]; exact hkm) (by rw [hR2]; omega) h1 ?_
    rw [z64_abs hrx, ← h2]
    exact hs2 hkm hJ H locs ls hl hw hS
  · simp only [stepL] at hs
    simp only [chkIL, dN, Bool.and_eq_true, decide_eq_true_eq] at hc
    obtain ⟨⟨h1, h2⟩, rfl⟩ := hc
    obtain ⟨x, r, rfl, hs1⟩ := pL_of hs
    obtain ⟨hg, hrx, hs2⟩ := guardB_of hs1
    have hg := Nat.le_of_ble_eq_true hg
    refine va_calli (a := ([.long (Int64.ofInt x)] : List Value).toArray) (va_runS (As := [.long (Int64.ofInt x)]) (rest := r.map (lpv B (ρ 149) sgL)) ⟨hx, hb, hml, hown, hts⟩ (m_sig hrx) (va_cwS 1 hts (wsT_good kL_sig iL_sig inLg cL_sig) rfl rfl rfl (by decide +kernel) ⟨by show 0 + 1 ≤ R.frames; omega, by show 8 + (2 + 11) + 0 ≤ R.locals; omega⟩) ⟨fun a U g mk q => ⟨q.1, trivial⟩, fun U hU hW => ⟨rfl, trivial⟩⟩ rfl rfl hl.1 rfl (by rw [lsum_cat]; show 2 * 0 + _ ≤ 8; omega) h1 ⟨by rw [hR1]; omega, by rw [hR2]; omega⟩) hS (fun q _ h => h.elim) (fun q h => h.elim) (fun r9 u tt H1 locs1 ht hvm hw9 hB hz1 hk1 hS1 => ?_)
    rw [hw9, ← h2]
    exact hs2 hkm hJ H1 locs1 ls hl (hw.kept fun q hq => hk1 q hq id) hS1
theorem l_strP (hfix : wFixL sg sgL cA cW D A J s) {t : Nat} (hJ : J t) : stP (txL t) (sgL t) A s ∧ okW (txL t) := ⟨⟨(hfix.2.2.2.2.1 t hJ).1, hfix.1.2.2.2.2.1.2.2⟩, (hfix.2.2.2.2.1 t hJ).2⟩
theorem l_strM {wd : List Int} {a0 : Nat} (h : stP wd a0 A s) (hS : va_S A s.heap H locs) {U : State} (hU : U.heap = H) (hW : s.vm.Alike U.vm) : stP wd a0 A U :=
  ⟨h.1.mv hW (fun q q1 q2 => by rw [hU]; exact hS.2.1 q q1 q2), h.2.mv hW (fun q q1 q2 => by rw [hU]; exact hS.2.1 q q1 q2)⟩
theorem w_aloadL (hX : HypL p l R s m args meth c sg sgL cA cW D A J B bytes maxL km ret dp) {n : Fin 4}
    (hc : chkIL linfs wl bytes maxL ret pcs ip ps (.aload_n n, (a, b, c0, d), k, ts) = true)
    (hs : stepL mac cal (cald 12) rk km Q (PWL p l e R s m args below meth c ρ sgL cA cW D A J B maxL km pcs rk Q) (.aload_n n, (a, b, c0, d), k, ts) ip kc lo st M C) : PWL p l e R s m args below meth c ρ sgL cA cW D A J B maxL km pcs rk Q ip kc lo st M C := by
  obtain ⟨hx, hb, hr, hml, hown, hlocks, hts, hfix, hsz, hBs, htr, hR1, hR2, hm40⟩ := hX
  intro hkm hJ H locs ls hl hw hS
  rcases c0 with _ | _ | _ | _ | _ | _ | _ | _ | _ | c0
  · simp only [chkIL, dN, Bool.and_eq_true, decide_eq_true_eq] at hc
    obtain ⟨⟨h1, h2⟩, h3⟩ := hc
    have hs : gRn (nth lo a) fun x => PWL p l e R s m args below meth c ρ sgL cA cW D A J B maxL km pcs rk Q (ip + 1) kc lo (.inr (.inr x) :: st) M C := hs
    obtain ⟨x, hg, hnt, hs11⟩ := gRn_of hs
    have hat := hl.at' hg
    rcases lref_cases (B := B) (ρ := ρ) (sgL := sgL) hnt with q | ⟨q, hq⟩
    · rw [q] at hat
      refine lv_aload_nN hx hb h1 h3 hat ?_
      rw [← q, ← h2]
      exact hs11 hkm hJ H locs ls hl hw hS
    · rw [hq] at hat
      refine lv_aload_n hx hb h1 h3 hat ?_
      rw [← hq, ← h2]
      exact hs11 hkm hJ H locs ls hl hw hS
  case succ.succ.succ.succ.succ.succ.succ.zero =>
    simp only [chkIL, dE, dEp, Bool.and_eq_true, decide_eq_true_eq] at hc
    obtain ⟨⟨⟨h1, h3⟩, h4⟩, h2⟩ := hc
    have hs : gX (nth lo a) fun t => guardB (Nat.ble (wsum st) 8) <| PWL p l e R s m args below meth c ρ sgL cA cW D A J B maxL km pcs rk Q (ip + 1) kc lo (.inl ((txL t).length : Int) :: st) M C := hs
    obtain ⟨t, hg, hs1⟩ := gX_of hs
    obtain ⟨hg8, hs2⟩ := guardB_of hs1
    have hg8 := Nat.le_of_ble_eq_true hg8
    have hJt := hJ a t hg
    obtain ⟨hst, hok⟩ := l_strP hfix hJt
    have hat := hl.at' hg
    refine lv_aload_n hx hb h1 h3 hat ?_
    refine va_calli (a := ([.ref (sgL (t + 1))] : List Value).toArray) (va_runV (As := []) (b := sgL (t + 1)) (rest := st.map (lpv B (ρ 149) sgL)) ⟨hx, hb, hml, hown, hts⟩ (m_len (l := l) (wd := txL (t + 1)) (a0 := sgL (t + 1)) (Aw := A) hok) (cwV 0 hts (wsV_good kL_len iS_len sS_len inS cS_len) rfl rfl rfl (by decide +kernel) ⟨by show 1 + 1 ≤ R.frames; omega, by show 8 + (1 + 11) + 20 ≤ R.locals; omega⟩) ⟨stP.blind, (by obtain ⟨cell, q1, q2, q3, -⟩ := hst.1.1.kept hS.2.1; exact ⟨cell, q1, q2, q3⟩), fun U hU hW => ⟨rfl, l_strM hst hS hU hW.alike⟩⟩ rfl rfl hl.1 rfl (by rw [lsum_cat]; show 2 * 0 + _ ≤ 8; omega) h4 ⟨by rw [hR1]; omega, by rw [hR2]; omega⟩) hS (fun q _ h => h.elim) (fun q h => h.elim) (fun r9 u tt H1 locs1 ht hvm hw9 hB hz1 hk1 hS1 => ?_)
    rw [hw9, show Int32.ofNat (txL (t + 1)).length = Int32.ofInt ((txL (t + 1)).length : Int) from Int32.ofInt_eq_ofNat.symm, show pcN pcs ip + 1 + 3 = pcN pcs (ip + 1) by omega]
    exact hs2 hkm hJ H1 locs1 ls hl (hw.kept fun q hq => hk1 q hq id) hS1
  case succ.succ.succ.succ.succ.succ.succ.succ.zero =>
    simp only [chkIL, dE, dEp, Bool.and_eq_true, decide_eq_true_eq] at hc
    obtain ⟨⟨⟨⟨h1, h3⟩, h4⟩, h5⟩, h2⟩ := hc
    have hs : gX (nth lo a) fun t => gI (nth lo b) fun x => guardB (Nat.ble (wsum st) 8) <| (0 ≤ x ∧ x < ((txL t).length : Int)) ∧ PWL p l e R s m args below meth c ρ sgL cA cW D A J B maxL km pcs rk Q (ip + 1) kc lo (.inl ((txL t).getD x.toNat 0) :: st) M C := hs
    obtain ⟨t, hg, hs1⟩ := gX_of hs
    obtain ⟨x, hgx, hs1⟩ := gI_of hs1
    obtain ⟨hg8, hix, hs2⟩ := guardB_of hs1
    have hg8 := Nat.le_of_ble_eq_true hg8
    have hJt := hJ a t hg
    obtain ⟨hst, hok⟩ := l_strP hfix hJt
    have hat := hl.at' hg
    have hatx := hl.at' hgx
    obtain ⟨i, rfl⟩ : ∃ i : Nat, x = i := ⟨x.toNat, by omega⟩
    refine lv_aload_n hx hb h1 h3 hat ?_
    refine lv_iload hx hb h4 hatx ?_
    refine va_calli (a := ([.ref (sgL (t + 1)), .int (Int32.ofInt (i : Int))] : List Value).toArray) (va_runV (As := [.int (Int32.ofInt (i : Int))]) (b := sgL (t + 1)) (rest := st.map (lpv B (ρ 149) sgL)) ⟨hx, hb, hml, hown, hts⟩ (m_chr (l := l) (wd := txL (t + 1)) (a0 := sgL (t + 1)) (Aw := A) (i := i) hok (by omega)) (cwV 1 hts (wsV_good kL_chr iS_chr sS_chr inS cS_chr) rfl rfl rfl (by decide +kernel) ⟨by show 3 + 1 ≤ R.frames; omega, by show 8 + (2 + 11) + 64 ≤ R.locals; omega⟩) ⟨stP.blind, (by obtain ⟨cell, q1, q2, q3, -⟩ := hst.1.1.kept hS.2.1; exact ⟨cell, q1, q2, q3⟩), fun U hU hW => ⟨rfl, l_strM hst hS hU hW.alike⟩⟩ rfl rfl hl.1 rfl (by rw [lsum_cat]; show 2 * 0 + _ ≤ 8; omega) h5 ⟨by rw [hR1]; omega, by rw [hR2]; omega⟩) hS (fun q _ h => h.elim) (fun q h => h.elim) (fun r9 u tt H1 locs1 ht hvm hw9 hB hz1 hk1 hS1 => ?_)
    rw [hw9, show pcN pcs ip + 3 + 3 = pcN pcs (ip + 1) by omega]
    have := hs2 hkm hJ H1 locs1 ls hl (hw.kept fun q hq => hk1 q hq id) hS1
    rw [Int.toNat_natCast] at this
    exact this
  all_goals (simp only [chkIL] at hc; cases hc)
/-- puts, called with a text on top of the stack -/
theorem l_puts (hX : HypL p l R s m args meth c sg sgL cA cW D A J B bytes maxL km ret dp) (hwl : ∀ w ∈ wl, w ∈ lw_tbl) (hgd : ∀ w ∈ wl, goodWord w = true ∨ isStrW w = true) (hmx : ∀ y f, nth linfs y = some f → f.2.2.2.1 ≤ 40)
    (hIH : ∀ y a M C Q, cal y a M C Q → SoundL l linfs ρ sg cA cW D B dp y a M C Q) {pn ipA cost t p0 p1 p2 t9 idx kc0 : Nat} (hchk : chkLC linfs wl idx [p0, p1, p2] pn 4 1 cost = true) (hd : decode bytes pc = .ok (.invokestatic idx, 3)) (hpc : pcN pcs ipA = pc + 3) (ht1 : 1 ≤ t)
    (hs : putT cal (PWL p l e R s m args below meth c ρ sgL cA cW D A J B maxL km pcs rk Q) km kc t [t9, pn, ipA, kc0] lo st M C) (hkc0 : kc0 = cost + (kc0 - cost)) {kc1 : Nat} (hkc1 : kc1 = kc + (kc0 - cost)) (hJ : txOk J lo)
    {sg2 : Nat → Nat} {A2 J2 : Nat → Prop} (hA2 : ∀ q, A2 q → A q) (hJ2 : J2 t) (hsg : ∀ v ∈ st.take 3, lpv B (ρ 149) sg2 v = lpv B (ρ 149) sgL v) (hw : wWL D cA cW A2 ρ B M C H) (hback : ∀ (M' : Mem) (C' : LMem) (H1 : Heap), wWL D cA cW A2 ρ B M' C' H1 → wWL D cA cW A ρ B M' C' H1) (hsz2 : ∀ q : Nat, H.size ≤ q → A2 q) (hfix2 : ∀ U : State, U.heap = H → s.WarmedH U.vm → wFixL sg sg2 cA cW D A2 J2 U) (hS : va_S A s.heap H locs) (hl : LG (lpv B (ρ 149) sgL) ls maxL lo) {slots : Nat} (hslots : slots ≤ 52 * kc1) :
    W p l e R s m args below meth c H locs kc1 slots (MQ below (QcL D cA cW A ρ B rk Q) args s km (52 * km) A) (F0 m pc ls (.ref (sg2 t) :: st.map (lpv B (ρ 149) sgL))) := by
  have hX0 := hX
  obtain ⟨hx, hb, hr, hml, hown, hlocks, hts, hfix, hsz, hBs, htr, hR1, hR2, hm40⟩ := hX
  have use : ∀ (pp : Nat) (w : Cond), wAt wl pp w = true → (isStrW w = false) → w ∈ LW := fun pp w h h2 => by
    have hm := wAt_mem h
    rcases hgd w hm with q | q
    · exact LW_mem (hwl w hm) q
    · rw [h2] at q; cases q
  obtain ⟨f, p0', p1', p2', hf, g0, g1, g2, g3, g4, g5, g6, g7, g8⟩ := chkLC_of hchk
  have hs : guardB (Nat.ble (wsum (st.drop 3)) 8 && Nat.ble 3 st.length && noTx (st.take 3)) (kc + kc0 ≤ km ∧ cal pn ((st.take 3).reverse ++ [.inr (.inr (.inr t))]) M C fun v M' C' => PWL p l e R s m args below meth c ρ sgL cA cW D A J B maxL km pcs rk Q ipA (kc + kc0) lo (.inl v :: st.drop 3) M' C') := hs
  obtain ⟨hg, hkk, hcal⟩ := guardB_of hs
  simp only [Bool.and_eq_true] at hg
  have hg1 := Nat.le_of_ble_eq_true hg.1.1
  have hg2 := Nat.le_of_ble_eq_true hg.1.2
  obtain ⟨t', rfl⟩ : ∃ t', t = t' + 1 := ⟨t - 1, by omega⟩
  have hst : .ref (sg2 (t' + 1)) :: st.map (lpv B (ρ 149) sgL) = ((((st.take 3).reverse ++ ([.inr (.inr (.inr (t' + 1)))] : List PV)).map (lpv B (ρ 149) sg2)).reverse : List Value) ++ (st.drop 3).map (lpv B (ρ 149) sgL) := by
    conv => lhs; rw [(List.take_append_drop 3 st).symm]
    rw [List.map_append, List.map_append, List.reverse_append, List.map_reverse, List.reverse_reverse]
    rw [List.map_congr_left hsg]
    rfl
  have hkc : kc + kc0 = kc1 + f.2.2.2.2.2.1.2.2.1 := by rw [← g6]; omega
  refine W.widen (k := kc1) (n := 52 * kc1) (Nat.le_refl _) hslots ?_
  rw [hst]
  refine l_own hX0 hf (use _ _ g0 rfl) (use _ _ g1 rfl) (use _ _ g2 rfl) g4 (hmx _ _ hf) ⟨by rw [← g5]; decide, by rw [← g5]; decide⟩ g8 (sg2 := sg2) (A2 := A2) (J2 := J2) (by rw [List.length_append, List.length_reverse, List.length_take]; simp; omega) hA2 (fun k hk => by
    rcases List.mem_append.mp hk with hk | hk
    · exact absurd (List.mem_reverse.mp hk) (noTx_of _ hg.2 k)
    · cases List.mem_singleton.mp hk
      exact hJ2) (hIH _ _ _ _ _ hcal) (by omega) hw hsz2 hfix2 hS hl.1 (by rw [lsum_cat]; exact hg1) hd (fun v M' C' H1 locs1 u hq hw1 hz hS1 hu => ?_)
  rw [← g5] at hu
  rw [show u = .int (Int32.ofInt v) from hu, ← hpc, ← hkc]
  exact hq hkk hJ H1 locs1 ls hl (hback _ _ _ hw1) hS1
theorem w_ldcL (hX : HypL p l R s m args meth c sg sgL cA cW D A J B bytes maxL km ret dp) (hwl : ∀ w ∈ wl, w ∈ lw_tbl) (hgd : ∀ w ∈ wl, goodWord w = true ∨ isStrW w = true) (hmx : ∀ y f, nth linfs y = some f → f.2.2.2.1 ≤ 40)
    (hIH : ∀ y a M C Q, cal y a M C Q → SoundL l linfs ρ sg cA cW D B dp y a M C Q) {i : Instr} {n : Nat} (hi : i = .ldc n ∨ i = .ldc_w n)
    (hc : chkIL linfs wl bytes maxL ret pcs ip ps (i, (a, b, c0, d), k, ts) = true)
    (hs : stepL mac cal (cald 12) rk km Q (PWL p l e R s m args below meth c ρ sgL cA cW D A J B maxL km pcs rk Q) (i, (a, b, c0, d), k, ts) ip kc lo st M C) : PWL p l e R s m args below meth c ρ sgL cA cW D A J B maxL km pcs rk Q ip kc lo st M C := by
  have hX0 := hX
  obtain ⟨hx, hb, hr, hml, hown, hlocks, hts, hfix, hsz, hBs, htr, hR1, hR2, hm40⟩ := hX
  intro hkm hJ H locs ls hl hw hS
  have use : ∀ (pp : Nat) (w : Cond), wAt wl pp w = true → (isStrW w = false) → w ∈ LW := fun pp w h h2 => by
    have hm := wAt_mem h
    rcases hgd w hm with q | q
    · exact LW_mem (hwl w hm) q
    · rw [h2] at q; cases q
  rcases hi with rfl | rfl
  · rcases c0 with _ | c0
    · simp only [stepL] at hs
      simp only [chkIL, chkI, dN, Bool.and_eq_true, decide_eq_true_eq] at hc
      obtain ⟨⟨h1, h2⟩, h3⟩ := hc
      rcases ps with _ | ⟨q0, _ | ⟨q1, ps⟩⟩ <;> try (cases h3; done)
      refine lv_ldc hx hb hown (hts _ (use _ _ h3 rfl)) h1 ?_
      rw [← h2]
      exact hs hkm hJ H locs ls hl hw hS
    · simp only [chkIL, dE, dEp, Bool.and_eq_true, decide_eq_true_eq] at hc
      obtain ⟨⟨⟨h1, h2⟩, h15⟩, h3⟩ := hc
      rcases ts with _ | ⟨t0, _ | ⟨pn, _ | ⟨ipA, _ | ⟨cost, _ | ⟨t5, ts⟩⟩⟩⟩⟩ <;> try (cases h3; done)
      rcases ps with _ | ⟨q0, _ | ⟨q1, _ | ⟨q2, _ | ⟨q3, _ | ⟨q4, ps⟩⟩⟩⟩⟩ <;> try (cases h3; done)
      simp only [Bool.and_eq_true, decide_eq_true_eq] at h3
      obtain ⟨⟨g1, g2⟩, g3⟩ := h3
      have hm := hwl _ (wAt_mem g1)
      refine va_ldcS hx hb hown (hfix.2.2.1 a n h15.1 h15.2 hm) h1 ?_
      exact l_puts hX0 hwl hgd hmx hIH g2 h2 (by omega) h15.1 (show putT cal _ km kc a [t0, pn, ipA, cost] lo st M C from hs) (by omega) (kc1 := kc) (by omega) hJ (sg2 := sgL) (A2 := A) (J2 := J) (fun q h => h) (hfix.2.2.2.1 a h15.1 h15.2) (fun _ _ => rfl) hw (fun _ _ _ h => h) (fun q h => hsz q (Nat.le_trans hS.1 h)) (fun U hU hW => hfix.warm hW (fun q q1 q2 => by rw [hU]; exact hS.2.1 q q1 q2)) hS hl (Nat.le_refl _)
  · rcases c0 with _ | c0
    · simp only [stepL] at hs
      simp only [chkIL, chkI, dN, Bool.and_eq_true, decide_eq_true_eq] at hc
      obtain ⟨⟨h1, h2⟩, h3⟩ := hc
      rcases ps with _ | ⟨q0, _ | ⟨q1, ps⟩⟩ <;> try (cases h3; done)
      refine lv_ldcw hx hb hown (hts _ (use _ _ h3 rfl)) h1 ?_
      rw [← h2]
      exact hs hkm hJ H locs ls hl hw hS
    · simp only [chkIL, dE, dEp, Bool.and_eq_true, decide_eq_true_eq] at hc
      obtain ⟨⟨⟨h1, h2⟩, h15⟩, h3⟩ := hc
      rcases ts with _ | ⟨t0, _ | ⟨pn, _ | ⟨ipA, _ | ⟨cost, _ | ⟨t5, ts⟩⟩⟩⟩⟩ <;> try (cases h3; done)
      rcases ps with _ | ⟨q0, _ | ⟨q1, _ | ⟨q2, _ | ⟨q3, _ | ⟨q4, ps⟩⟩⟩⟩⟩ <;> try (cases h3; done)
      simp only [Bool.and_eq_true, decide_eq_true_eq] at h3
      obtain ⟨⟨g1, g2⟩, g3⟩ := h3
      have hm := hwl _ (wAt_mem g1)
      refine l_ldcwS hx hb hown (hfix.2.2.1 a n h15.1 h15.2 hm) h1 ?_
      exact l_puts hX0 hwl hgd hmx hIH g2 h2 (by omega) h15.1 (show putT cal _ km kc a [t0, pn, ipA, cost] lo st M C from hs) (by omega) (kc1 := kc) (by omega) hJ (sg2 := sgL) (A2 := A) (J2 := J) (fun q h => h) (hfix.2.2.2.1 a h15.1 h15.2) (fun _ _ => rfl) hw (fun _ _ _ h => h) (fun q h => hsz q (Nat.le_trans hS.1 h)) (fun U hU hW => hfix.warm hW (fun q q1 q2 => by rw [hU]; exact hS.2.1 q q1 q2)) hS hl (Nat.le_refl _)
end StepsL8
