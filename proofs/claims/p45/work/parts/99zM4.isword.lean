/-! isWord on the machine. -/
theorem nth_none {α : Type} : ∀ (l : List α) (i : Nat), l.length ≤ i → nth l i = none
  | [], _, _ => rfl
  | _ :: l, 0, h => absurd h (by simp)
  | _ :: l, i + 1, h => nth_none l i (by simpa using h)
theorem nth_getD : ∀ (l : List Int) (i : Nat), i < l.length → nth l i = some (l.getD i 0)
  | [], i, h => absurd h (by simp)
  | a :: l, 0, _ => rfl
  | a :: l, i + 1, h => by
    show nth l i = some (l.getD i 0)
    exact nth_getD l i (by simpa using h)
theorem dW_0 : decode cX10_isWord 0 = .ok (.iload_n 3, 1) := by decide +kernel
theorem dW_1 : decode cX10_isWord 1 = .ok (.iload_n 2, 1) := by decide +kernel
theorem dW_2 : decode cX10_isWord 2 = .ok (.isub, 1) := by decide +kernel
theorem dW_3 : decode cX10_isWord 3 = .ok (.aload_n 1, 1) := by decide +kernel
theorem dW_4 : decode cX10_isWord 4 = .ok (.invokevirtual 94, 3) := by decide +kernel
theorem dW_7 : decode cX10_isWord 7 = .ok (.if_icmp .ne 15, 3) := by decide +kernel
theorem dW_10 : decode cX10_isWord 10 = .ok (.iload_n 2, 1) := by decide +kernel
theorem dW_11 : decode cX10_isWord 11 = .ok (.ifCond .lt 11, 3) := by decide +kernel
theorem dW_14 : decode cX10_isWord 14 = .ok (.iload_n 3, 1) := by decide +kernel
theorem dW_15 : decode cX10_isWord 15 = .ok (.aload_n 0, 1) := by decide +kernel
theorem dW_16 : decode cX10_isWord 16 = .ok (.getfield 20, 3) := by decide +kernel
theorem dW_19 : decode cX10_isWord 19 = .ok (.if_icmp .le 5, 3) := by decide +kernel
theorem dW_22 : decode cX10_isWord 22 = .ok (.iconst 0, 1) := by decide +kernel
theorem dW_23 : decode cX10_isWord 23 = .ok (.ireturn, 1) := by decide +kernel
theorem dW_24 : decode cX10_isWord 24 = .ok (.iconst 0, 1) := by decide +kernel
theorem dW_25 : decode cX10_isWord 25 = .ok (.istore 4, 2) := by decide +kernel
theorem dW_27 : decode cX10_isWord 27 = .ok (.iload 4, 2) := by decide +kernel
theorem dW_29 : decode cX10_isWord 29 = .ok (.aload_n 1, 1) := by decide +kernel
theorem dW_30 : decode cX10_isWord 30 = .ok (.invokevirtual 94, 3) := by decide +kernel
theorem dW_33 : decode cX10_isWord 33 = .ok (.if_icmp .ge 29, 3) := by decide +kernel
theorem dW_36 : decode cX10_isWord 36 = .ok (.aload_n 0, 1) := by decide +kernel
theorem dW_37 : decode cX10_isWord 37 = .ok (.getfield 11, 3) := by decide +kernel
theorem dW_40 : decode cX10_isWord 40 = .ok (.iload_n 2, 1) := by decide +kernel
theorem dW_41 : decode cX10_isWord 41 = .ok (.iload 4, 2) := by decide +kernel
theorem dW_43 : decode cX10_isWord 43 = .ok (.iadd, 1) := by decide +kernel
theorem dW_44 : decode cX10_isWord 44 = .ok (.iaload, 1) := by decide +kernel
theorem dW_45 : decode cX10_isWord 45 = .ok (.aload_n 1, 1) := by decide +kernel
theorem dW_46 : decode cX10_isWord 46 = .ok (.iload 4, 2) := by decide +kernel
theorem dW_48 : decode cX10_isWord 48 = .ok (.invokevirtual 98, 3) := by decide +kernel
theorem dW_51 : decode cX10_isWord 51 = .ok (.if_icmp .eq 5, 3) := by decide +kernel
theorem dW_54 : decode cX10_isWord 54 = .ok (.iconst 0, 1) := by decide +kernel
theorem dW_55 : decode cX10_isWord 55 = .ok (.ireturn, 1) := by decide +kernel
theorem dW_56 : decode cX10_isWord 56 = .ok (.iinc 4 1, 3) := by decide +kernel
theorem dW_59 : decode cX10_isWord 59 = .ok (.goto (-32), 3) := by decide +kernel
theorem dW_62 : decode cX10_isWord 62 = .ok (.iconst 1, 1) := by decide +kernel
theorem dW_63 : decode cX10_isWord 63 = .ok (.ireturn, 1) := by decide +kernel
set_option maxHeartbeats 4000000 in
set_option maxRecDepth 100000 in
theorem m_isWord {l : Launch} {ρ sg : Nat → Nat} {cA : Nat → ClassId} {D : va_G} {Aw : Nat → Prop} (d : Nat) {M : Mem} {Q : Rs → Mem → Prop} {k : Nat} {a b : Int} (hj : 1 ≤ k) (hk : k ≤ 5) (hr0 : 0 ≤ a ∧ a ≤ 900 ∧ 0 ≤ b ∧ b ≤ 901 ∧ 0 ≤ M kT 1 ∧ M kT 1 ≤ 900 ∧ ∀ i, R32 (M kT_signs i))
    (hQ : ∀ r : Int, (r = 0 ∨ r = 1) → (r = 1 ↔ isWordP M k a b) → Q (.inl r) M) : SoundC l ρ sg cA D Aw (d + 1) cT_isWord [.inr (.inr (.inl kT)), .inr (.inr (.inr k)), .inl a, .inl b] M Q := by
  intro f hf
  have hff : f = nT_isWord := by
    have h9 : nth infs cT_isWord = some nT_isWord := rfl
    rw [h9] at hf
    exact (Option.some.inj hf).symm
  subst hff
  refine vx_ofW (cc := cX10_isWord) (maxL := 5) (ret := some .boolean) (by decide) rfl ?_
  intro p e s m args below meth c s₁ B hml htab hv
  obtain ⟨rfl, hP, hD, hsz, hfix⟩ := hv
  have hx := B.exec
  have hb := B.bytes
  have hr := B.returns
  have hts0 := atoms_spec (ws := wsI nT_isWord) B.pre
  have hts : ∀ w ∈ LW, w.before _ s = true := fun w hw => hts0 w (List.mem_cons_of_mem _ hw)
  have hown : s.vm.findClass RX10 = some m.cls := findClass_of_methodNamed B.named
  have hlocks := B.notSynchronized
  have hK := hfix.1
  have hst : stP (wordL k) (sg k) Aw s := ⟨hfix.2.2.2.2.1.2.1 k hj hk, hfix.2.2.2.2.1.2.2⟩
  have hS : va_S noA s.heap s.heap [] := va_S.rf
  obtain ⟨hO, -⟩ := hst.1
  obtain ⟨ra, ra9, rb, rb9, rL, rL9, rM⟩ := hr0
  have h7 := (okW_word k).1
  have rL : 0 ≤ M 93 1 := rL
  have rL9 : M 93 1 ≤ 900 := rL9
  have e0 : fvl ρ (gTy 10 0) (wRf 10 93 0) (M 93 0) = .ref (ρ 91) := by rw [show wRf 10 93 0 = 91 by decide +kernel]; rfl
  have G : wP0 ρ cA D Aw M s.heap := ⟨hP, hD, hsz⟩
  have eL : ∀ n : Nat, Int32.ofNat n = Int32.ofInt (n : Int) := fun n => Int32.ofInt_eq_ofNat.symm
  have e93 : wOb 93 = 10 + 1 := by decide +kernel
  have e91 : wAk 91 = 0 + 1 := by decide +kernel
  have l91 : wAl 91 = 900 := by decide +kernel
  have hl := lv_entry ([.ref (ρ 93), .ref (sg k), .int (Int32.ofInt a), .int (Int32.ofInt b)]) (n := 5) (Nat.le_of_ble_eq_true rfl)
  show W p l e _ s m _ below meth c s.heap [] 0 0 _ (entryFrame m ([.ref (ρ 93), .ref (sg k), .int (Int32.ofInt a), .int (Int32.ofInt b)] : List Value).toArray 5)
  rw [lg_entry_eq]
  generalize (lg_sl ([.ref (ρ 93), .ref (sg k), .int (Int32.ofInt a), .int (Int32.ofInt b)]) ++ List.replicate (5 - (lg_sl ([.ref (ρ 93), .ref (sg k), .int (Int32.ofInt a), .int (Int32.ofInt b)])).length) Slot.unset).toArray = ls at hl ⊢
  have hl : lv_has ls 5 [(0, .ref (ρ 93)), (1, .ref (sg k)), (2, .int (Int32.ofInt a)), (3, .int (Int32.ofInt b))] := hl
  have fin : ∀ (r : Int) (pc : Nat) (H : Heap) (locs : List Loc) (ls : Array Slot), decode cX10_isWord pc = .ok (.ireturn, 1) → (r = 0 ∨ r = 1) → (r = 1 ↔ isWordP M k a b) → wP0 ρ cA D Aw M H → va_S noA s.heap H locs → W p l e (headSpec (wsI nT_isWord) (rmd (d + 1) nT_isWord.2.2.2.2.2.1.2.2.1)).room s m ([.ref (ρ 93), .ref (sg k), .int (Int32.ofInt a), .int (Int32.ofInt b)] : List Value).toArray below meth c H locs 0 0 (vx_MQ below (Qcf ρ sg cA D Aw nT_isWord.2.2.2.2.2.1.2.1 Q) (XCf ρ sg cA D Aw Q) ([.ref (ρ 93), .ref (sg k), .int (Int32.ofInt a), .int (Int32.ofInt b)] : List Value).toArray s nT_isWord.2.2.2.2.2.1.2.2.1 (6 * nT_isWord.2.2.2.2.2.1.2.2.1) (Aw)) (F0 m pc ls [.int (Int32.ofInt r)]) := by
    intro r pc H locs ls hd h01 hiff hG hS
    refine vx_ret ?_
    exact W.zret (v := Int32.ofInt r) (ty := .boolean) hx hb hr (by rcases h01 with rfl | rfl <;> decide) (fun t ht hW => ⟨⟨_, M, rfl, ⟨r, rfl, hQ r h01 hiff⟩, (by show wP0 ρ cA D Aw M t.heap; rw [ht]; exact hG)⟩, (sNo hS).F ht⟩) (sNo hS).2.2 hd
  have loop : ∀ (g i : Nat) (H : Heap) (locs : List Loc) (ls : Array Slot), i + g = (wordL k).length → b - a = (wordL k).length → b ≤ M kT 1 → (∀ (q : Nat) (v : Int), q < i → nth (wordL k) q = some v → M kT_signs (a.toNat + q) = v) → wP0 ρ cA D Aw M H → va_S noA s.heap H locs → lv_has ls 5 [(4, .int (Int32.ofInt (i : Int))), (0, .ref (ρ 93)), (1, .ref (sg k)), (2, .int (Int32.ofInt a)), (3, .int (Int32.ofInt b))] →
      W p l e (headSpec (wsI nT_isWord) (rmd (d + 1) nT_isWord.2.2.2.2.2.1.2.2.1)).room s m ([.ref (ρ 93), .ref (sg k), .int (Int32.ofInt a), .int (Int32.ofInt b)] : List Value).toArray below meth c H locs 0 0 (vx_MQ below (Qcf ρ sg cA D Aw nT_isWord.2.2.2.2.2.1.2.1 Q) (XCf ρ sg cA D Aw Q) ([.ref (ρ 93), .ref (sg k), .int (Int32.ofInt a), .int (Int32.ofInt b)] : List Value).toArray s nT_isWord.2.2.2.2.2.1.2.2.1 (6 * nT_isWord.2.2.2.2.2.1.2.2.1) (Aw)) (F0 m 27 ls []) := by
    intro g
    induction g with
    | zero =>
      intro i H locs ls hi hba hbL hpre G hS hl
      refine lv_iload hx hb dW_27 (lv_at hl 0 rfl) ?_
      refine lv_aload_n hx hb dW_29 rfl (lv_at hl 2 rfl) ?_
      refine va_calli (va_runV (As := []) (rest := [.int (Int32.ofInt (i : Int))]) ⟨hx, hb, hml, hown, hts⟩ (m_len (l := l) (wd := wordL k) (a0 := sg k) (Aw := Aw) (okW_word k)) (cwV 0 hts (wsV_good kT_len iS_len sS_len inS cS_len) rfl rfl rfl (by decide +kernel) ⟨(show 1 + 1 ≤ d + 1 + 8 by omega), (show 8 + (1 + 11) + 20 ≤ 60 * (d + 1) + 200 by omega)⟩) ⟨stP.blind, (by obtain ⟨cell, q1, q2, q3, -⟩ := hO.kept (sNo (A := Aw) hS).2.1; exact ⟨cell, q1, q2, q3⟩), fun U hU hW => ⟨rfl, hst.mv hS hU hW.alike⟩⟩ rfl rfl hl.1 rfl (lv_room (Nat.le_of_ble_eq_true rfl)) dW_30 ⟨Nat.zero_le _, Nat.zero_le _⟩) hS (fun q _ h => h.elim) (fun q h => h.elim) (fun r u tt H1 locs1 ht hvm hw hB hz1 hk1 hS => ?_)
      rw [hw, eL]
      have G := wP0_kept G hz1 (fun q hq => hk1 q hq id)
      refine w_icmp hx hb (x := (i : Int)) (y := ((wordL k).length : Int)) ⟨by omega, by omega⟩ ⟨by omega, by omega⟩ (cn := .ge) (tgt := 62) dW_33 (by decide) (fun _ => ?_) (fun h => absurd (show ((wordL k).length : Int) ≤ (i : Int) by omega) h)
      refine lv_iconst (v := 1) hx hb dW_62 (by decide) ?_
      exact fin 1 63 H1 locs1 ls dW_63 (Or.inr rfl) ⟨fun _ => ⟨hba, ra, hbL, fun q v hq => by
        by_cases h : q < i
        · exact hpre q v h hq
        · exfalso
          have : (wordL k).length ≤ q := by omega
          rw [nth_none _ _ this] at hq
          cases hq⟩, fun _ => rfl⟩ G hS
    | succ g ih =>
      intro i H locs ls hi hba hbL hpre G hS hl
      refine lv_iload hx hb dW_27 (lv_at hl 0 rfl) ?_
      refine lv_aload_n hx hb dW_29 rfl (lv_at hl 2 rfl) ?_
      refine va_calli (va_runV (As := []) (rest := [.int (Int32.ofInt (i : Int))]) ⟨hx, hb, hml, hown, hts⟩ (m_len (l := l) (wd := wordL k) (a0 := sg k) (Aw := Aw) (okW_word k)) (cwV 0 hts (wsV_good kT_len iS_len sS_len inS cS_len) rfl rfl rfl (by decide +kernel) ⟨(show 1 + 1 ≤ d + 1 + 8 by omega), (show 8 + (1 + 11) + 20 ≤ 60 * (d + 1) + 200 by omega)⟩) ⟨stP.blind, (by obtain ⟨cell, q1, q2, q3, -⟩ := hO.kept (sNo (A := Aw) hS).2.1; exact ⟨cell, q1, q2, q3⟩), fun U hU hW => ⟨rfl, hst.mv hS hU hW.alike⟩⟩ rfl rfl hl.1 rfl (lv_room (Nat.le_of_ble_eq_true rfl)) dW_30 ⟨Nat.zero_le _, Nat.zero_le _⟩) hS (fun q _ h => h.elim) (fun q h => h.elim) (fun r u tt H1 locs1 ht hvm hw hB hz1 hk1 hS => ?_)
      rw [hw, eL]
      have G := wP0_kept G hz1 (fun q hq => hk1 q hq id)
      refine w_icmp hx hb (x := (i : Int)) (y := ((wordL k).length : Int)) ⟨by omega, by omega⟩ ⟨by omega, by omega⟩ (cn := .ge) (tgt := 62) dW_33 (by decide) (fun h => absurd (show ((wordL k).length : Int) ≤ (i : Int) from h) (by omega)) (fun _ => ?_)
      refine lv_aload_n hx hb dW_36 rfl (lv_at hl 1 rfl) ?_
      refine va_get (D := D) (ci := 10) (C := clR 10) (T := gT 10) (N := gN 10) hx hb hts (uw_in 10 (by decide)) hown hK G.1 93 (wWs_ob e93) (gCl_at 10 (by decide)) 0 (by decide) (hts _ fT11) (fun _ h9 => h9) (wFs_at (by decide)) dW_37 ?_
      rw [e0]
      refine lv_iload_n hx hb dW_40 rfl (lv_at hl 3 rfl) ?_
      refine lv_iload hx hb dW_41 (lv_at hl 0 rfl) ?_
      refine lv_iadd hx hb dW_43 ?_
      rw [← Int32.ofInt_add]
      have hq := z_in (x := a + (i : Int)) (n := wAl 91) ⟨by omega, by rw [l91]; omega⟩ (by rw [l91]; decide)
      refine va_iald hx hb hK G.1 91 0 (f := fun j => Int32.ofInt (M 91 j)) (by rw [wWs_ar e91, wArr1 e91]) rfl hq.1 dW_44 ?_
      rw [hq.2]
      refine lv_aload_n hx hb dW_45 rfl (lv_at hl 2 rfl) ?_
      refine lv_iload hx hb dW_46 (lv_at hl 0 rfl) ?_
      have hil : i < (wordL k).length := by omega
      refine va_calli (va_runV (As := [.int (Int32.ofInt (i : Int))]) (rest := [.int (Int32.ofInt (M 91 (a + (i : Int)).toNat))]) ⟨hx, hb, hml, hown, hts⟩ (m_chr (l := l) (wd := wordL k) (a0 := sg k) (Aw := Aw) (i := i) (okW_word k) hil) (cwV 1 hts (wsV_good kT_chr iS_chr sS_chr inS cS_chr) rfl rfl rfl (by decide +kernel) ⟨(show 3 + 1 ≤ d + 1 + 8 by omega), (show 8 + (2 + 11) + 64 ≤ 60 * (d + 1) + 200 by omega)⟩) ⟨stP.blind, (by obtain ⟨cell, q1, q2, q3, -⟩ := hO.kept (sNo (A := Aw) hS).2.1; exact ⟨cell, q1, q2, q3⟩), fun U hU hW => ⟨rfl, hst.mv hS hU hW.alike⟩⟩ rfl rfl hl.1 rfl (lv_room (Nat.le_of_ble_eq_true rfl)) dW_48 ⟨Nat.zero_le _, Nat.zero_le _⟩) hS (fun q _ h => h.elim) (fun q h => h.elim) (fun r u tt H1 locs1 ht hvm hw hB hz1 hk1 hS => ?_)
      rw [hw]
      have G := wP0_kept G hz1 (fun q hq => hk1 q hq id)
      have hrx := (okW_all (okW_word k) _ (okW_at hil)).2.2
      have en : nth (wordL k) i = some ((wordL k).getD i 0) := nth_getD _ _ hil
      have et : (a + (i : Int)).toNat = a.toNat + i := by omega
      refine w_icmp hx hb (x := M 91 (a + (i : Int)).toNat) (y := (wordL k).getD i 0) (rM _) hrx (cn := .eq) (tgt := 56) dW_51 (by decide) (fun h => ?_) (fun h => ?_)
      · refine lv_iinc (v := Int32.ofInt ((i + 1 : Nat) : Int)) (lv' := [(4, .int (Int32.ofInt ((i + 1 : Nat) : Int))), (0, .ref (ρ 93)), (1, .ref (sg k)), (2, .int (Int32.ofInt a)), (3, .int (Int32.ofInt b))]) hx hb dW_56 hl (k := 0) rfl (by rw [Int.natCast_add, Int32.ofInt_add]; rfl) (by decide) rfl (fun ls hl => ?_)
        refine lv_goto (tgt := 27) hx hb dW_59 (by decide) ?_
        refine ih (i + 1) H1 locs1 ls (by omega) hba hbL (fun q v hq hn => ?_) G hS hl
        by_cases e : q = i
        · subst e
          rw [en] at hn
          cases hn
          rw [← et]
          exact h
        · exact hpre q v (by omega) hn
      · refine lv_iconst (v := 0) hx hb dW_54 (by decide) ?_
        exact fin 0 55 H1 locs1 ls dW_55 (Or.inl rfl) ⟨fun z => absurd z (by decide), fun z => absurd (by rw [et]; exact z.2.2.2 i _ en) h⟩ G hS
  refine lv_iload_n hx hb dW_0 rfl (lv_at hl 3 rfl) ?_
  refine lv_iload_n hx hb dW_1 rfl (lv_at hl 2 rfl) ?_
  refine lv_isub hx hb dW_2 ?_
  rw [← Int32.ofInt_sub]
  refine lv_aload_n hx hb dW_3 rfl (lv_at hl 1 rfl) ?_
  refine va_calli (va_runV (As := []) (rest := [.int (Int32.ofInt (b - a))]) ⟨hx, hb, hml, hown, hts⟩ (m_len (l := l) (wd := wordL k) (a0 := sg k) (Aw := Aw) (okW_word k)) (cwV 0 hts (wsV_good kT_len iS_len sS_len inS cS_len) rfl rfl rfl (by decide +kernel) ⟨(show 1 + 1 ≤ d + 1 + 8 by omega), (show 8 + (1 + 11) + 20 ≤ 60 * (d + 1) + 200 by omega)⟩) ⟨stP.blind, (by obtain ⟨cell, q1, q2, q3, -⟩ := hO.kept (sNo (A := Aw) hS).2.1; exact ⟨cell, q1, q2, q3⟩), fun U hU hW => ⟨rfl, hst.mv hS hU hW.alike⟩⟩ rfl rfl hl.1 rfl (lv_room (Nat.le_of_ble_eq_true rfl)) dW_4 ⟨Nat.zero_le _, Nat.zero_le _⟩) hS (fun q _ h => h.elim) (fun q h => h.elim) (fun r u tt H1 locs1 ht hvm hw hB hz1 hk1 hS => ?_)
  rw [hw, eL]
  have G := wP0_kept G hz1 (fun q hq => hk1 q hq id)
  have no : ¬ isWordP M k a b → W p l e (headSpec (wsI nT_isWord) (rmd (d + 1) nT_isWord.2.2.2.2.2.1.2.2.1)).room s m ([.ref (ρ 93), .ref (sg k), .int (Int32.ofInt a), .int (Int32.ofInt b)] : List Value).toArray below meth c H1 locs1 0 0 (vx_MQ below (Qcf ρ sg cA D Aw nT_isWord.2.2.2.2.2.1.2.1 Q) (XCf ρ sg cA D Aw Q) ([.ref (ρ 93), .ref (sg k), .int (Int32.ofInt a), .int (Int32.ofInt b)] : List Value).toArray s nT_isWord.2.2.2.2.2.1.2.2.1 (6 * nT_isWord.2.2.2.2.2.1.2.2.1) (Aw)) (F0 m 22 ls []) := fun z => by
    refine lv_iconst (v := 0) hx hb dW_22 (by decide) ?_
    exact fin 0 23 H1 locs1 ls dW_23 (Or.inl rfl) ⟨fun q => absurd q (by decide), fun q => absurd q z⟩ G hS
  refine w_icmp hx hb (x := b - a) (y := ((wordL k).length : Int)) ⟨by omega, by omega⟩ ⟨by omega, by omega⟩ (cn := .ne) (tgt := 22) dW_7 (by decide) (fun h => no fun z => h z.1) (fun h => ?_)
  have hba : b - a = ((wordL k).length : Int) := Decidable.not_not.mp h
  refine lv_iload_n hx hb dW_10 rfl (lv_at hl 2 rfl) ?_
  refine w_if hx hb (x := a) ⟨by omega, by omega⟩ (cn := .lt) (tgt := 22) dW_11 (by decide) (fun h => no fun z => absurd (show a < 0 from h) (by omega)) (fun _ => ?_)
  refine lv_iload_n hx hb dW_14 rfl (lv_at hl 3 rfl) ?_
  refine lv_aload_n hx hb dW_15 rfl (lv_at hl 0 rfl) ?_
  refine va_get (D := D) (ci := 10) (C := clR 10) (T := gT 10) (N := gN 10) hx hb hts (uw_in 10 (by decide)) hown hK G.1 93 (wWs_ob e93) (gCl_at 10 (by decide)) 1 (by decide) (hts _ fT20) (fun _ h9 => h9) (wFs_at (by decide)) dW_16 ?_
  refine w_icmp hx hb (x := b) (y := M 93 1) ⟨by omega, by omega⟩ ⟨by omega, by omega⟩ (cn := .le) (tgt := 24) dW_19 (by decide) (fun h => ?_) (fun h => no fun z => h z.2.2.1)
  refine lv_iconst (v := 0) hx hb dW_24 (by decide) ?_
  refine lv_istore (lv' := [(4, .int 0), (0, .ref (ρ 93)), (1, .ref (sg k)), (2, .int (Int32.ofInt a)), (3, .int (Int32.ofInt b))]) hx hb dW_25 hl (by decide) rfl (fun ls hl => ?_)
  exact loop (wordL k).length 0 H1 locs1 ls (by omega) hba h (fun q v hq => absurd hq (by omega)) G hS hl

