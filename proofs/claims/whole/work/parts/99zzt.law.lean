theorem wL_0 : ((Jvm.Cond.methodLink "QueuewardLaw" (138 : Nat) ({ cls := "QueuewardModel", name := "thrown", desc := "()I" } : Jvm.MethodName)) : Cond) ∈ LW := LW_mem (lw_in8 _ (List.mem_of_getElem? (i := 10) (by decide +kernel))) rfl
theorem wL_1 : ((Jvm.Cond.instanceMethod ({ cls := "QueuewardModel", name := "thrown", desc := "()I" } : Jvm.MethodName)) : Cond) ∈ LW := LW_mem (lw_in8 _ (List.mem_of_getElem? (i := 11) (by decide +kernel))) rfl
theorem wL_2 : ((Jvm.Cond.selects "QueuewardModel" ({ cls := "QueuewardModel", name := "thrown", desc := "()I" } : Jvm.MethodName) ({ cls := "QueuewardModel", name := "thrown", desc := "()I" } : Jvm.MethodName)) : Cond) ∈ LW := LW_mem (lw_in8 _ (List.mem_of_getElem? (i := 12) (by decide +kernel))) rfl
theorem wL_3 : ((Jvm.Cond.initialized "QueuewardModel") : Cond) ∈ LW := LW_mem (lw_in1 _ (List.mem_of_getElem? (i := 15) (by decide +kernel))) rfl
theorem wL_4 : ((Jvm.Cond.code ({ cls := "QueuewardModel", name := "thrown", desc := "()I" } : Jvm.MethodName) prog_14_method_2_code (1 : Nat) (Option.some Jvm.ClassFile.FieldType.int)) : Cond) ∈ LW := LW_mem (lw_in8 _ (List.mem_of_getElem? (i := 13) (by decide +kernel))) rfl
/-! The law: its cases (by program). -/
theorem s_thrown {d : Nat} {M : Mem} : Post (d + 1) cM_thrown [oM] M (fun v M' => M' = M ∧ v = M 175 0) := fun Q hQ => e_M_thrown (b_M_thrown_0 (hQ _ _ ⟨rfl, rfl⟩))
theorem agr.no {es : List Nat} {r : Rs} {e : Nat} {M2 : Mem} (h : agr es r (.inr e) M2) : False := by
  rcases h with ⟨v, _, h, _⟩ | ⟨k, e1, v, _, _, h, _⟩ <;> cases h
theorem agr_es {d y : Nat} {a : List PV} {M : Mem} {es : List Nat} {e : Nat} (h : cald d y a M (fun r2 M2 => Iv M2 ∧ agr es (.inr e) r2 M2)) : e ∈ es := by
  by_cases q : e ∈ es
  · exact q
  · refine (cald_no d y a M (calM (fun r m z => ?_) h)).elim
    rcases z.2 with ⟨v, h1, _⟩ | ⟨k, e1, v, h1, h2, _⟩
    · cases h1
    · cases h2
      exact q (List.mem_of_getElem? h1)
theorem wWh_good {y : MethodName} {b : ByteArray} {ml : Nat} {r : Option FieldType} {hh : List (Nat × Nat × Nat × Nat)} (h : Cond.codeWith y b ml r hh ∈ LW) : GoodIn LW (wWh y b ml r hh) := fun w hw => by
  rcases List.mem_cons.mp hw with rfl | hw
  · exact ⟨h, good_of_word (LW_good _ h)⟩
  · exact ⟨hw, good_of_word (LW_good w hw)⟩
theorem wsH_good {own : String} {i : Nat} {y : MethodName} {b : ByteArray} {ml : Nat} {r : Option FieldType} {hh : List (Nat × Nat × Nat × Nat)} (h1 : Cond.methodLink own i y ∈ LW) (h2 : Cond.static y ∈ LW) (h4 : Cond.initialized y.cls ∈ LW) (h : Cond.codeWith y b ml r hh ∈ LW) : GoodIn LW (va_wsS own i y (wWh y b ml r hh)) := fun w hw => by
  unfold va_wsS at hw
  rcases List.mem_append.mp hw with hw | hw
  · have hww : w ∈ LW := by
      simp only [List.mem_cons, List.not_mem_nil, or_false] at hw
      rcases hw with rfl | rfl | rfl
      · exact h1
      · exact h2
      · exact h4
    exact ⟨hww, good_of_word (LW_good w hww)⟩
  · exact wWh_good h w hw
/-- what the law's walk stands on -/
def LC (p : Program) (l : Launch) (s : State) (m : MethodId) (args : Array Value) (c : Code) (sg : Nat → Nat) (cA : Nat → ClassId) (D : va_G) (b L : Nat) (xs : Nat → Int32) : Prop := l.stackTraces = false ∧ p.tables.exec = Jvm.exec ∧ c.code = code ∧ c.maxLocals = 9 ∧ s.vm.findClass RL = some m.cls ∧ (∀ w ∈ LW, w.before args s = true) ∧ va_X b L xs s s.heap ∧ b < s.heap.size ∧ wFix sg cA D s.heap.size s ∧ wNc s ∧ L ≤ 2560
theorem LC.dr {p : Program} {l : Launch} {s : State} {m : MethodId} {args : Array Value} {c : Code} {sg : Nat → Nat} {cA : Nat → ClassId} {D : va_G} {b L : Nat} {xs : Nat → Int32} (C : LC p l s m args c sg cA D b L xs) (d : Drawn) : LC p l (s.setDrawn d) m args c sg cA D b L xs := by
  obtain ⟨h1, h2, h3, h4, h5, h6, h7, h8, h9, h10, h11⟩ := C
  exact ⟨h1, h2, h3, h4, h5, dr_words h6 d, va_X.moved (u := s) (U := s.setDrawn d) (Vm.Alike.refl s.vm) h7, h8, wFix.warm (s := s) (U := s.setDrawn d) (State.WarmedH.refl s) (fun _ _ _ => rfl) h9, wNc.moved (u := s) (U := s.setDrawn d) (Vm.Alike.refl s.vm) h10, h11⟩
/-- the loop's world -/
def LWS (cA : Nat → ClassId) (D : va_G) (B : Nat) (M : Mem) (z : Int64) (H : Heap) : Prop := wP0 (rho B) cA D B M H ∧ Iv M ∧ outAt cA B z H
abbrev LV (b B : Nat) (i : Nat) : List (Nat × Value) := [(4, .int (Int32.ofInt (i : Int))), (0, .ref b), (1, .ref (rho B 149)), (2, .ref (rho B 175)), (3, .ref (B + 176))]
def sc (xs : Nat → Int32) (k : Nat) : Int := (xs k).toInt
theorem sc_r (xs : Nat → Int32) (k : Nat) : R32 (sc xs k) := by
  have h1 := Int32.le_toInt (xs k)
  have h2 := Int32.toInt_lt (xs k)
  unfold sc
  constructor <;> omega
def bI (x : Int) : Int := if x = 0 then 0 else 1
theorem bI_r (x : Int) : R32 (bI x) := by
  unfold bI; split <;> decide
/-- the helper's answer, and the class's -/
def lRel (es : List Nat) (cv : Int → Int64) (r : Rs) (k : Int32) (z : Int64) : Prop := (∃ v, r = .inl v ∧ k = 0 ∧ z = cv v) ∨ (∃ j e, r = .inr e ∧ es[j]? = some e ∧ k = Int32.ofInt ((j + 1 : Nat) : Int))
theorem lPost.rel {es : List Nat} {cv : Int → Int64} {Q : Rs → Mem → Prop} {k : Int32} {u : Mem × Int64} (h : lPost es cv Q k u) : ∃ r, Q r u.1 ∧ lRel es cv r k u.2 := by
  rcases h with ⟨v, h1, h2, h3⟩ | ⟨j, e, h1, h2, h3⟩
  · exact ⟨.inl v, h2, Or.inl ⟨v, rfl, h1, h3⟩⟩
  · exact ⟨.inr e, h3, Or.inr ⟨j, e, rfl, h1, h2⟩⟩
theorem thr_eq {es : List Nat} {cv : Int → Int64} {r r2 : Rs} {k : Int32} {z : Int64} {M2 : Mem} (hnd : es.Nodup) (h : lRel es cv r k z) (g : agr es r r2 M2) : Int32.ofInt (M2 175 0) = k := by
  rcases h with ⟨v, rfl, h1, h2⟩ | ⟨j, e, rfl, h1, h2⟩
  · rcases g with ⟨v2, g1, g2, g3⟩ | ⟨k2, e2, v2, g1, g2, g3, g4⟩
    · rw [g3, h1]; rfl
    · cases g2
  · rcases g with ⟨v2, g1, g2, g3⟩ | ⟨k2, e2, v2, g1, g2, g3, g4⟩
    · cases g1
    · cases g2
      have hlt : j < es.length := (List.getElem?_eq_some_iff.mp h1).1
      have hjk : j = k2 := (List.getElem?_inj hlt hnd).mp (h1.trans g1.symm)
      subst hjk
      rw [g4, h2]
theorem agr_val {es : List Nat} {v : Int} {y : Int} {M2 : Mem} (g : agr es (.inl v) (.inl y) M2) : y = v := by
  rcases g with ⟨v2, g1, g2, _⟩ | ⟨k2, e2, v2, _, g2, _⟩
  · cases g1; cases g2; rfl
  · cases g2
section LROWS
variable {p : Program} {l : Launch} {e : Env} {s : State} {m : MethodId} {args : Array Value} {below : List Frame} {meth : Method} {c : Code} {H : Heap} {locs : List Loc} {cells slots : Nat} {Q : State → Prop}
variable {pc : Nat} {ls : Array Slot} {rest : List Value} {D : va_G} {cA : Nat → ClassId} {sg : Nat → Nat} {b L : Nat} {xs : Nat → Int32} {M : Mem} {z : Int64}
theorem l_arg (C : LC p l s m args c sg cA D b L xs) (hS : va_S (Al s.heap.size) s.heap H locs) {i : Nat} (j : Nat) (hl0 : ls[0]? = some (.val (.ref b))) (hl4 : ls[4]? = some (.val (.int (Int32.ofInt (i : Int))))) (hi : i + 5 ≤ L) (hj : j < 5) (d0 : decode code pc = .ok (.aload_n 0, 1)) (d1 : decode code (pc + 1) = .ok (.iload 4, 2)) (d3 : decode code (pc + 3) = .ok (.iconst (j : Int), 1)) (d4 : decode code (pc + 4) = .ok (.iadd, 1)) (d5 : decode code (pc + 5) = .ok (.iaload, 1))
    (kk : W p l e room_1 s m args below meth c H locs cells slots Q (F0 m (pc + 6) ls (.int (Int32.ofInt (sc xs (i + j))) :: rest))) : W p l e room_1 s m args below meth c H locs cells slots Q (F0 m pc ls rest) := by
  obtain ⟨htr, hx, hb, hml, hown, hts, hX, hbl, hfix, hnc, hLL⟩ := C
  have hbA : ¬ Al s.heap.size b := Nat.not_le.mpr hbl
  refine lv_aload_n hx hb d0 rfl hl0 ?_
  refine lv_iload hx hb d1 hl4 ?_
  refine lv_iconst (v := Int32.ofInt (j : Int)) hx hb d3 rfl ?_
  refine lv_iadd hx hb d4 ?_
  rw [← Int32.ofInt_add]
  have hq := z_in (x := (i : Int) + (j : Int)) (n := L) ⟨by omega, by omega⟩ (by omega)
  refine va_sld hx hb hX hbl hbA hS hq.1 d5 ?_
  rw [hq.2, show ((i : Int) + (j : Int)).toNat = i + j by omega]
  have e1 : xs (i + j) = Int32.ofInt (sc xs (i + j)) := (Int32.ofInt_toInt _).symm
  rw [e1]
  exact kk
theorem l_bool (hx : p.tables.exec = Jvm.exec) (hb : c.code = code) {x : Int} (rx : R32 x) (d0 : decode code pc = .ok (.ifCond .eq 7, 3)) (d3 : decode code (pc + 3) = .ok (.iconst 1, 1)) (d4 : decode code (pc + 4) = .ok (.goto 4, 3)) (d7 : decode code (pc + 7) = .ok (.iconst 0, 1))
    (kk : W p l e room_1 s m args below meth c H locs cells slots Q (F0 m (pc + 8) ls (.int (Int32.ofInt (bI x)) :: rest))) : W p l e room_1 s m args below meth c H locs cells slots Q (F0 m pc ls (.int (Int32.ofInt x) :: rest)) := by
  refine w_if hx hb (x := x) rx (cn := .eq) (tgt := pc + 7) d0 (by omega) (fun h => ?_) (fun h => ?_)
  · refine lv_iconst (v := Int32.ofInt 0) hx hb d7 rfl ?_
    have e1 : bI x = 0 := if_pos h
    rw [e1] at kk
    exact kk
  · refine lv_iconst (v := Int32.ofInt 1) hx hb d3 rfl ?_
    refine lv_goto (tgt := pc + 8) hx hb d4 (by omega) ?_
    have e1 : bI x = 1 := if_neg h
    rw [e1] at kk
    exact kk
/-- behind both calls: thrown() tells what the helper told -/
theorem l_tail0 (C : LC p l s m args c sg cA D b L xs) (hL : LWS cA D s.heap.size M z H) (hS : va_S (Al s.heap.size) s.heap H locs) {es : List Nat} {cv : Int → Int64} {r : Rs} {k : Int32} {y : Int} (hnd : es.Nodup) (h3 : es.length ≤ 3) (hrel : lRel es cv r k z) (hag : agr es r (.inl y) M) (h9 : ls.size = 9) (hl2 : ls[2]? = some (.val (.ref (rho s.heap.size 175)))) (hl5 : ls[5]? = some (.val (.int k))) {offn : Int} {X : Nat}
    (d0 : decode code pc = .ok (.aload_n 2, 1)) (d1 : decode code (pc + 1) = .ok (.invokevirtual 138, 3)) (d4 : decode code (pc + 4) = .ok (.iload 5, 2)) (d6 : decode code (pc + 6) = .ok (.if_icmp .eq 5, 3)) (d11 : decode code (pc + 11) = .ok (.iload 5, 2)) (d13 : decode code (pc + 13) = .ok (.ifCond .ne offn, 3)) (hXo : ((pc + 13 : Nat) : Int) + offn = (X : Int)) (hc : cells ≤ 603072) (hs : slots ≤ 7215210)
    (kA : ∀ (H1 : Heap) (locs1 : List Loc) (v : Int), LWS cA D s.heap.size M z H1 → va_S (Al s.heap.size) s.heap H1 locs1 → y = v → z = cv v → W p l e room_1 s m args below meth c H1 locs1 cells slots Q (F0 m (pc + 16) ls []))
    (kB : ∀ (H1 : Heap) (locs1 : List Loc), LWS cA D s.heap.size M z H1 → va_S (Al s.heap.size) s.heap H1 locs1 → W p l e room_1 s m args below meth c H1 locs1 cells slots Q (F0 m X ls [])) : W p l e room_1 s m args below meth c H locs cells slots Q (F0 m pc ls []) := by
  obtain ⟨htr, hx, hb, hml, hown, hts, hX, hbl, hfix, hnc, hLL⟩ := C
  obtain ⟨hW, hI, hO⟩ := hL
  refine lv_aload_n hx hb d0 rfl hl2 ?_
  have hcal : cald 1 cM_thrown [oM] M (fun r M' => ∃ v, r = .inl v ∧ M' = M ∧ v = M 175 0) := (s_thrown (d := 0)) _ fun v M' q => ⟨v, rfl, q⟩
  have hM := snd (ρ := rho s.heap.size) (sg := sg) (cA := cA) (D := D) (sz0 := s.heap.size) htr 1 cM_thrown _ M _ hcal nM_thrown rfl
  have hrv := va_recv hfix.1 hW.1 (gCl_at 12 (by decide)) (wWs_ob (show wOb 175 = 12 + 1 from by decide +kernel))
  refine vx_calli (vx_runV (As := []) (rest := []) ⟨hx, hb, hml, hown, hts⟩ hM (cwV 0 hts (wsV_good wL_0 wL_1 wL_2 wL_3 wL_4) rfl rfl rfl (by decide +kernel) ⟨Nat.le_of_ble_eq_true rfl, Nat.le_of_ble_eq_true rfl⟩) ⟨wPic_blind, hrv, fun U hU hW9 => ⟨rfl, (by rw [hU]; exact hW.1), hW.2.1, (by rw [hU]; exact hW.2.2), hfix.warm hW9 (fun q q1 q2 => by rw [hU]; exact hS.2.1 q q1 (fun h => absurd h (Nat.not_le.mpr q1)))⟩⟩ rfl rfl h9 rfl (lv_room (Nat.le_of_ble_eq_true rfl)) d1 ⟨by show cells + 0 ≤ 603072; omega, by show slots + 6 * 0 ≤ 7215210; omega⟩) hS (fun q _ h => h.1) (fun q h => h.1) (fun q _ h => h.1) (fun E ce q9 u t H1 locs1 ht hal hp hB => by obtain ⟨v, hv, -⟩ := hp; cases hv) (fun r1 u t H1 locs1 ht hal hp hB hz1 hfr hS => ?_)
  obtain ⟨x, rfl, v1, hv1, hu, hv2⟩ := hp
  cases hv1
  subst hu
  subst hv2
  rw [ht] at hB
  have hO := hO.kept hfr
  refine W.widen (k := cells) (n := slots) (by show cells + 0 ≤ cells; omega) (by show slots + 6 * 0 ≤ slots; omega) ?_
  refine lv_iload hx hb d4 hl5 ?_
  refine lv_icmp_eq (tgt := pc + 11) hx hb d6 (by omega) (fun _ => ?_) (fun h => absurd (thr_eq hnd hrel hag) h)
  refine lv_iload hx hb d11 hl5 ?_
  refine lv_if_ne (tgt := X) hx hb d13 hXo (fun _ => kB H1 locs1 ⟨hB, hI, hO⟩ hS) (fun hk => ?_)
  rcases hrel with ⟨v, h1, h2, h4⟩ | ⟨j, e9, h1, h2, h4⟩
  · subst h1
    exact kA H1 locs1 v ⟨hB, hI, hO⟩ hS (agr_val hag) h4
  · exfalso
    have hlt : j < es.length := (List.getElem?_eq_some_iff.mp h2).1
    rw [hk] at h4
    rcases (show j = 0 ∨ j = 1 ∨ j = 2 by omega) with e1 | e1 | e1 <;> (subst e1; revert h4; decide)
theorem l_tailI (C : LC p l s m args c sg cA D b L xs) (hL : LWS cA D s.heap.size M z H) (hS : va_S (Al s.heap.size) s.heap H locs) {es : List Nat} {r : Rs} {k : Int32} {y : Int} (hnd : es.Nodup) (h3 : es.length ≤ 3) (hrel : lRel es cvI r k z) (hag : agr es r (.inl y) M) (h9 : ls.size = 9) (hl2 : ls[2]? = some (.val (.ref (rho s.heap.size 175)))) (hl3 : ls[3]? = some (.val (.ref (s.heap.size + 176)))) (hl5 : ls[5]? = some (.val (.int k))) (hl6 : ls[6]? = some (.val (.int (Int32.ofInt y)))) {offg : Int}
    (d0 : decode code pc = .ok (.aload_n 2, 1)) (d1 : decode code (pc + 1) = .ok (.invokevirtual 138, 3)) (d4 : decode code (pc + 4) = .ok (.iload 5, 2)) (d6 : decode code (pc + 6) = .ok (.if_icmp .eq 5, 3)) (d11 : decode code (pc + 11) = .ok (.iload 5, 2)) (d13 : decode code (pc + 13) = .ok (.ifCond .ne 15, 3)) (d16 : decode code (pc + 16) = .ok (.aload_n 3, 1)) (d17 : decode code (pc + 17) = .ok (.iconst 0, 1)) (d18 : decode code (pc + 18) = .ok (.laload, 1)) (d19 : decode code (pc + 19) = .ok (.iload 6, 2)) (d21 : decode code (pc + 21) = .ok (.i2l, 1)) (d22 : decode code (pc + 22) = .ok (.lcmp, 1)) (d23 : decode code (pc + 23) = .ok (.ifCond .eq 5, 3)) (d28 : decode code (pc + 28) = .ok (.goto offg, 3)) (hg : ((pc + 28 : Nat) : Int) + offg = ((2729 : Nat) : Int)) (hc : cells ≤ 603072) (hs : slots ≤ 7215210)
    (kk : ∀ (H1 : Heap) (locs1 : List Loc), LWS cA D s.heap.size M z H1 → va_S (Al s.heap.size) s.heap H1 locs1 → W p l e room_1 s m args below meth c H1 locs1 cells slots Q (F0 m 2729 ls [])) : W p l e room_1 s m args below meth c H locs cells slots Q (F0 m pc ls []) := by
  have kB : ∀ (H1 : Heap) (locs1 : List Loc), LWS cA D s.heap.size M z H1 → va_S (Al s.heap.size) s.heap H1 locs1 → W p l e room_1 s m args below meth c H1 locs1 cells slots Q (F0 m (pc + 28) ls []) := fun H1 locs1 h1 h2 => lv_goto (tgt := 2729) C.2.1 C.2.2.1 d28 hg (kk H1 locs1 h1 h2)
  refine l_tail0 C hL hS hnd h3 hrel hag h9 hl2 hl5 (X := pc + 28) d0 d1 d4 d6 d11 d13 (by omega) hc hs (fun H1 locs1 v h1 h2 hy hz => ?_) kB
  obtain ⟨htr, hx, hb, hml, hown, hts, hX, hbl, hfix, hnc, hLL⟩ := C
  refine lv_aload_n hx hb d16 rfl hl3 ?_
  refine lv_iconst (v := 0) hx hb d17 rfl ?_
  refine out_lald hx hb hfix.1 h1.2.2 d18 ?_
  refine lv_iload hx hb d19 hl6 ?_
  refine lv_i2l hx hb d21 rfl ?_
  subst hy
  refine W.lcmp hx hb d22 ?_
  refine lv_if_eq (tgt := pc + 28) hx hb d23 (by omega) (fun _ => kB H1 locs1 h1 h2) (fun h => absurd ((lg_cmp_eq _ _).mpr hz) h)
theorem l_tailL (C : LC p l s m args c sg cA D b L xs) (hL : LWS cA D s.heap.size M z H) (hS : va_S (Al s.heap.size) s.heap H locs) {es : List Nat} {r : Rs} {k : Int32} {y : Int} (hnd : es.Nodup) (h3 : es.length ≤ 3) (hrel : lRel es cvL r k z) (hag : agr es r (.inl y) M) (h9 : ls.size = 9) (hl2 : ls[2]? = some (.val (.ref (rho s.heap.size 175)))) (hl3 : ls[3]? = some (.val (.ref (s.heap.size + 176)))) (hl5 : ls[5]? = some (.val (.int k))) (hl6 : ls[6]? = some (.val (.long (Int64.ofInt y)))) {offg : Int}
    (d0 : decode code pc = .ok (.aload_n 2, 1)) (d1 : decode code (pc + 1) = .ok (.invokevirtual 138, 3)) (d4 : decode code (pc + 4) = .ok (.iload 5, 2)) (d6 : decode code (pc + 6) = .ok (.if_icmp .eq 5, 3)) (d11 : decode code (pc + 11) = .ok (.iload 5, 2)) (d13 : decode code (pc + 13) = .ok (.ifCond .ne 14, 3)) (d16 : decode code (pc + 16) = .ok (.aload_n 3, 1)) (d17 : decode code (pc + 17) = .ok (.iconst 0, 1)) (d18 : decode code (pc + 18) = .ok (.laload, 1)) (d19 : decode code (pc + 19) = .ok (.lload 6, 2)) (d21 : decode code (pc + 21) = .ok (.lcmp, 1)) (d22 : decode code (pc + 22) = .ok (.ifCond .eq 5, 3)) (d27 : decode code (pc + 27) = .ok (.goto offg, 3)) (hg : ((pc + 27 : Nat) : Int) + offg = ((2729 : Nat) : Int)) (hc : cells ≤ 603072) (hs : slots ≤ 7215210)
    (kk : ∀ (H1 : Heap) (locs1 : List Loc), LWS cA D s.heap.size M z H1 → va_S (Al s.heap.size) s.heap H1 locs1 → W p l e room_1 s m args below meth c H1 locs1 cells slots Q (F0 m 2729 ls [])) : W p l e room_1 s m args below meth c H locs cells slots Q (F0 m pc ls []) := by
  have kB : ∀ (H1 : Heap) (locs1 : List Loc), LWS cA D s.heap.size M z H1 → va_S (Al s.heap.size) s.heap H1 locs1 → W p l e room_1 s m args below meth c H1 locs1 cells slots Q (F0 m (pc + 27) ls []) := fun H1 locs1 h1 h2 => lv_goto (tgt := 2729) C.2.1 C.2.2.1 d27 hg (kk H1 locs1 h1 h2)
  refine l_tail0 C hL hS hnd h3 hrel hag h9 hl2 hl5 (X := pc + 27) d0 d1 d4 d6 d11 d13 (by omega) hc hs (fun H1 locs1 v h1 h2 hy hz => ?_) kB
  obtain ⟨htr, hx, hb, hml, hown, hts, hX, hbl, hfix, hnc, hLL⟩ := C
  refine lv_aload_n hx hb d16 rfl hl3 ?_
  refine lv_iconst (v := 0) hx hb d17 rfl ?_
  refine out_lald hx hb hfix.1 h1.2.2 d18 ?_
  refine lv_lload hx hb d19 hl6 ?_
  subst hy
  refine W.lcmp hx hb d21 ?_
  refine lv_if_eq (tgt := pc + 27) hx hb d22 (by omega) (fun _ => kB H1 locs1 h1 h2) (fun h => absurd ((lg_cmp_eq _ _).mpr hz) h)
theorem l_tailB (C : LC p l s m args c sg cA D b L xs) (hL : LWS cA D s.heap.size M z H) (hS : va_S (Al s.heap.size) s.heap H locs) {es : List Nat} {r : Rs} {k : Int32} {y : Int} (hnd : es.Nodup) (h3 : es.length ≤ 3) (hrel : lRel es cvB r k z) (hag : agr es r (.inl y) M) (h9 : ls.size = 9) (hl2 : ls[2]? = some (.val (.ref (rho s.heap.size 175)))) (hl3 : ls[3]? = some (.val (.ref (s.heap.size + 176)))) (hl5 : ls[5]? = some (.val (.int k))) (hl6 : ls[6]? = some (.val (.int (Int32.ofInt y)))) {offg : Int}
    (d0 : decode code pc = .ok (.aload_n 2, 1)) (d1 : decode code (pc + 1) = .ok (.invokevirtual 138, 3)) (d4 : decode code (pc + 4) = .ok (.iload 5, 2)) (d6 : decode code (pc + 6) = .ok (.if_icmp .eq 5, 3)) (d11 : decode code (pc + 11) = .ok (.iload 5, 2)) (d13 : decode code (pc + 13) = .ok (.ifCond .ne 22, 3)) (d16 : decode code (pc + 16) = .ok (.aload_n 3, 1)) (d17 : decode code (pc + 17) = .ok (.iconst 0, 1)) (d18 : decode code (pc + 18) = .ok (.laload, 1)) (d19 : decode code (pc + 19) = .ok (.iload 6, 2)) (d21 : decode code (pc + 21) = .ok (.ifCond .eq 7, 3)) (d24 : decode code (pc + 24) = .ok (.lconst 1, 1)) (d25 : decode code (pc + 25) = .ok (.goto 4, 3)) (d28 : decode code (pc + 28) = .ok (.lconst 0, 1)) (d29 : decode code (pc + 29) = .ok (.lcmp, 1)) (d30 : decode code (pc + 30) = .ok (.ifCond .eq 5, 3)) (d35 : decode code (pc + 35) = .ok (.goto offg, 3)) (hg : ((pc + 35 : Nat) : Int) + offg = ((2729 : Nat) : Int)) (hc : cells ≤ 603072) (hs : slots ≤ 7215210)
    (kk : ∀ (H1 : Heap) (locs1 : List Loc), LWS cA D s.heap.size M z H1 → va_S (Al s.heap.size) s.heap H1 locs1 → W p l e room_1 s m args below meth c H1 locs1 cells slots Q (F0 m 2729 ls [])) : W p l e room_1 s m args below meth c H locs cells slots Q (F0 m pc ls []) := by
  have kB : ∀ (H1 : Heap) (locs1 : List Loc), LWS cA D s.heap.size M z H1 → va_S (Al s.heap.size) s.heap H1 locs1 → W p l e room_1 s m args below meth c H1 locs1 cells slots Q (F0 m (pc + 35) ls []) := fun H1 locs1 h1 h2 => lv_goto (tgt := 2729) C.2.1 C.2.2.1 d35 hg (kk H1 locs1 h1 h2)
  refine l_tail0 C hL hS hnd h3 hrel hag h9 hl2 hl5 (X := pc + 35) d0 d1 d4 d6 d11 d13 (by omega) hc hs (fun H1 locs1 v h1 h2 hy hz => ?_) kB
  obtain ⟨htr, hx, hb, hml, hown, hts, hX, hbl, hfix, hnc, hLL⟩ := C
  refine lv_aload_n hx hb d16 rfl hl3 ?_
  refine lv_iconst (v := 0) hx hb d17 rfl ?_
  refine out_lald hx hb hfix.1 h1.2.2 d18 ?_
  refine lv_iload hx hb d19 hl6 ?_
  subst hy
  have fin : ∀ w9 : Int64, z = w9 → W p l e room_1 s m args below meth c H1 locs1 cells slots Q (F0 m (pc + 29) ls [.long w9, .long z]) := fun w9 hw => by
    refine W.lcmp hx hb d29 ?_
    refine lv_if_eq (tgt := pc + 35) hx hb d30 (by omega) (fun _ => kB H1 locs1 h1 h2) (fun h => absurd ((lg_cmp_eq _ _).mpr hw) h)
  refine lv_if_eq (tgt := pc + 28) hx hb d21 (by omega) (fun h => ?_) (fun h => ?_)
  · refine lv_lconst (v := 0) hx hb d28 rfl ?_
    exact fin 0 (by rw [hz]; exact if_pos h)
  · refine lv_lconst (v := 1) hx hb d24 rfl ?_
    refine lv_goto (tgt := pc + 29) hx hb d25 (by omega) ?_
    exact fin 1 (by rw [hz]; exact if_neg h)
end LROWS
