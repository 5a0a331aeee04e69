/-! The two tests of the law on mean and doneShare. -/
theorem wQ_mean_l : ((Jvm.Cond.methodLink "QueuewardLaw" (168 : Nat) ({ cls := "Queueward", name := "mean", desc := "()D" } : Jvm.MethodName)) : Cond) ∈ LW := LW_mem (lw_in6 _ (List.mem_of_getElem? (i := 160) (by decide +kernel))) rfl
theorem wQ_mean_i : ((Jvm.Cond.instanceMethod ({ cls := "Queueward", name := "mean", desc := "()D" } : Jvm.MethodName)) : Cond) ∈ LW := LW_mem (lw_in6 _ (List.mem_of_getElem? (i := 161) (by decide +kernel))) rfl
theorem wQ_mean_s : ((Jvm.Cond.selects "Queueward" ({ cls := "Queueward", name := "mean", desc := "()D" } : Jvm.MethodName) ({ cls := "Queueward", name := "mean", desc := "()D" } : Jvm.MethodName)) : Cond) ∈ LW := LW_mem (lw_in6 _ (List.mem_of_getElem? (i := 162) (by decide +kernel))) rfl
theorem wQ_mean_c : ((Jvm.Cond.code ({ cls := "Queueward", name := "mean", desc := "()D" } : Jvm.MethodName) prog_1_method_46_code (1 : Nat) (Option.some Jvm.ClassFile.FieldType.double)) : Cond) ∈ LW := LW_mem (lw_in6 _ (List.mem_of_getElem? (i := 163) (by decide +kernel))) rfl
theorem wQ_doneShare_l : ((Jvm.Cond.methodLink "QueuewardLaw" (172 : Nat) ({ cls := "Queueward", name := "doneShare", desc := "()F" } : Jvm.MethodName)) : Cond) ∈ LW := LW_mem (lw_in6 _ (List.mem_of_getElem? (i := 164) (by decide +kernel))) rfl
theorem wQ_doneShare_i : ((Jvm.Cond.instanceMethod ({ cls := "Queueward", name := "doneShare", desc := "()F" } : Jvm.MethodName)) : Cond) ∈ LW := LW_mem (lw_in6 _ (List.mem_of_getElem? (i := 165) (by decide +kernel))) rfl
theorem wQ_doneShare_s : ((Jvm.Cond.selects "Queueward" ({ cls := "Queueward", name := "doneShare", desc := "()F" } : Jvm.MethodName) ({ cls := "Queueward", name := "doneShare", desc := "()F" } : Jvm.MethodName)) : Cond) ∈ LW := LW_mem (lw_in6 _ (List.mem_of_getElem? (i := 166) (by decide +kernel))) rfl
theorem wQ_doneShare_c : ((Jvm.Cond.code ({ cls := "Queueward", name := "doneShare", desc := "()F" } : Jvm.MethodName) prog_1_method_47_code (3 : Nat) (Option.some Jvm.ClassFile.FieldType.float)) : Cond) ∈ LW := LW_mem (lw_in6 _ (List.mem_of_getElem? (i := 167) (by decide +kernel))) rfl
theorem wQ_ini : ((Jvm.Cond.initialized "Queueward") : Cond) ∈ LW := LW_mem (lw_in1 _ (List.mem_of_getElem? (i := 1) (by decide +kernel))) rfl
theorem dcmp0 {x : UInt64} (h : vf_n64 x) : Op.cmpValue (FP.dcmp x x) CmpOp.l = 0 := by
  rw [show FP.dcmp x x = some .eq from Jvm.FP.Core.dcmp_self (Jvm.Free.Fl.val64_no.mp h)]; rfl
theorem fcmp0 {x : UInt32} (h : vf_n32 x) : Op.cmpValue (FP.fcmp x x) CmpOp.l = 0 := by
  rw [show FP.fcmp x x = some .eq from Jvm.FP.Core.fcmp_self (Jvm.Free.Fl.val32_no.mp h)]; rfl
section StepsL9
variable {p : Program} {l : Launch} {e : Env} {R : Room} {s : State} {m : MethodId} {args : Array Value} {below : List Frame} {meth : Method} {c : Code}
variable {ρ sg sgL : Nat → Nat} {cA cW : Nat → ClassId} {D : va_G} {A J : Nat → Prop} {B : Nat} {bytes : ByteArray} {maxL km : Nat} {ret : Option FieldType} {pcs : List Nat} {rk : Nat} {Q : LQ}
variable {wl : List Cond} {linfs : List Inf} {cal : LCal} {ip kc : Nat} {lo : PL} {st : PS} {M : Mem} {C : LMem} {a b c0 d : Nat} {k : Int} {ts : List Nat} {ps : List Nat} {dp : Nat}
set_option maxHeartbeats 1000000 in
theorem w_meanL (hX : HypL p l R s m args meth c sg sgL cA cW D A J B bytes maxL km ret dp) {idx : Nat}
    (hc : chkIL linfs wl bytes maxL ret pcs ip ps (.invokevirtual idx, (a, b, 5, d), k, ts) = true)
    (hs : stepL macS cal (cald 12) rk km Q (PWL p l e R s m args below meth c ρ sgL cA cW D A J B maxL km pcs rk Q) (.invokevirtual idx, (a, b, 5, d), k, ts) ip kc lo st M C) : PWL p l e R s m args below meth c ρ sgL cA cW D A J B maxL km pcs rk Q ip kc lo st M C := by
  obtain ⟨hx, hb, hr, hml, hown, hlocks, hts, hfix, hsz, hBs, htr, hR1, hR2, hm40⟩ := hX
  intro hkm hJ H locs ls hl hw hS
  have hK := hfix.2.1
  simp only [chkIL, dE, dEp, Bool.and_eq_true, decide_eq_true_eq] at hc
  obtain ⟨⟨⟨⟨⟨⟨⟨⟨⟨⟨⟨h1, rfl⟩, rfl⟩, h3⟩, h5⟩, h6⟩, h7⟩, h8⟩, h9⟩, h10⟩, h11⟩, h12⟩ := hc
  simp only [stepL] at hs
  obtain ⟨rfl, hs⟩ := isH_of hs
  obtain ⟨x, gx, hs⟩ := gI_of hs
  obtain ⟨o, go, hs⟩ := gR_of hs
  rcases o with o | o
  case inr => exact hs.elim
  obtain ⟨q, rfl, hk1, hk0, n, ja, jb, jc, je, hV, hn, hg, hn0, hz, hx9, -, hF⟩ := cellAt_get hs
  have hn24 : n ≤ 24 := hV.1
  have hszH : ∀ q : Nat, H.size ≤ q → A q := fun q h => hsz q (Nat.le_trans hS.1 h)
  have hAw := hw.awc hszH
  have hrv := va_recv hfix.1.1 hw.1 (gCl_at 11 (by decide)) (wWs_ob (show wOb 149 = 11 + 1 from by decide +kernel))
  have hpic : ∀ U : State, U.heap = H → s.WarmedH U.vm → wPic ρ sg cA D (Awc ρ H.size) M U := fun U hU hW => ⟨by rw [hU]; exact hw.1, hw.2.1.weaken (fun k q hq _ => by
    by_cases h9 : k < 150
    · rw [wWs_at h9] at hq
      cases hq
      exact Or.inl ⟨k, h9, rfl⟩
    · rw [List.getElem?_eq_none (by simp [wWs]; omega)] at hq
      cases hq), fun q h => Or.inr (by rw [hU] at h; exact h), (hfix.1.warm hW (fun q q1 q2 => by rw [hU]; exact hS.2.1 q q1 q2)).narrow hAw⟩
  have hM := mt_Qmean (l := l) (ρ := ρ) (sg := sg) (cA := cA) (D := D) (Aw := Awc ρ H.size) htr hV hn hg hn0
  have hA9 : ∀ q, q < H.size → Awc ρ H.size q → A q := fun q _ h => hAw q h
  refine va_calld (a := ([.ref (ρ 149)] : List Value).toArray) (va_runV (As := []) (rest := []) ⟨hx, hb, hml, hown, hts⟩ hM (cwV 0 hts (wsV_good wQ_mean_l wQ_mean_i wQ_mean_s wQ_ini wQ_mean_c) rfl rfl rfl (by decide +kernel) ⟨by show 14 + 1 ≤ R.frames; omega, by show 8 + (1 + 11) + 700 ≤ R.locals; omega⟩) ⟨wPic_blind, hrv, fun U hU hW => ⟨rfl, hpic U hU hW⟩⟩ rfl rfl hl.1 rfl (by show 2 * 0 + 0 ≤ 8; omega) h1 ⟨by rw [hR1]; omega, by rw [hR2]; omega⟩) hS hA9 hAw (fun r u t H1 locs1 ht hal hp hB hz1 hfr hS => ?_)
  obtain ⟨hlf, T, hT, rfl⟩ := hp
  rw [ht] at hB
  have hw := hw.back hszH hB hfr
  have hx9 := hx9 T hT
  simp only [] at hx9
  refine lv_iload hx hb h3 (hl.at' gx) ?_
  refine lv_i2d hx hb h5 ?_
  refine lv_aload_n hx hb h6 rfl (hl.at' go) ?_
  refine lv_iconst (v := Int32.ofInt 0) hx hb h7 (by decide) ?_
  obtain ⟨-, -, ⟨-, hl9⟩, hat⟩ := hw.2.2 q (by omega)
  rw [lCell_k hk1] at hat
  have hq := z_in (x := 0) (n := (C q).2.1) ⟨by omega, by omega⟩ hl9
  refine va_iald (ws := [(B + q, .inl (cW 1, (C q).2.1, .inl fun j => Int32.ofInt ((C q).2.2 j)))]) hx hb hK (lat_one hat) 0 0 rfl (tysW_at 1 (by decide) (by decide)) hq.1 h8 ?_
  rw [hq.2]
  refine lv_i2d hx hb h9 ?_
  rw [show (C q).2.2 (0 : Int).toNat = (n : Int) from hz]
  refine lv_ddiv hx hb h10 (ddiv_ok hn0 hn24) ?_
  rw [hx9]
  refine lv_dcmp hx hb h11 ?_
  rw [dcmp0 (ddiv_ok hn0 hn24)]
  rcases h9d : decode bytes (pcN pcs ip + 12) with _ | ⟨i12, n12⟩
  · rw [h9d] at h12; cases h12
  rw [h9d] at h12
  revert h12
  split
  case h_2 => intro h12; cases h12
  rename_i off heq
  intro h12
  cases heq
  exact w_if hx hb (x := 0) ⟨by omega, by omega⟩ h9d (of_decide_eq_true h12) (fun _ => hF u hlf (Nat.le_trans (Nat.le_of_eq rfl) hkm) hJ H1 locs1 ls hl hw hS) (fun h => absurd rfl h)
set_option maxHeartbeats 1000000 in
theorem w_doneShareL (hX : HypL p l R s m args meth c sg sgL cA cW D A J B bytes maxL km ret dp) {idx : Nat}
    (hc : chkIL linfs wl bytes maxL ret pcs ip ps (.invokevirtual idx, (a, b, 6, d), k, ts) = true)
    (hs : stepL macS cal (cald 12) rk km Q (PWL p l e R s m args below meth c ρ sgL cA cW D A J B maxL km pcs rk Q) (.invokevirtual idx, (a, b, 6, d), k, ts) ip kc lo st M C) : PWL p l e R s m args below meth c ρ sgL cA cW D A J B maxL km pcs rk Q ip kc lo st M C := by
  obtain ⟨hx, hb, hr, hml, hown, hlocks, hts, hfix, hsz, hBs, htr, hR1, hR2, hm40⟩ := hX
  intro hkm hJ H locs ls hl hw hS
  have hK := hfix.2.1
  simp only [chkIL, dE, dEp, Bool.and_eq_true, decide_eq_true_eq] at hc
  obtain ⟨⟨⟨⟨⟨⟨⟨⟨⟨⟨⟨h1, rfl⟩, rfl⟩, h3⟩, h5⟩, h6⟩, h7⟩, h8⟩, h9⟩, h10⟩, h11⟩, h12⟩ := hc
  simp only [stepL] at hs
  obtain ⟨rfl, hs⟩ := isH_of hs
  obtain ⟨x, gx, hs⟩ := gI_of hs
  obtain ⟨o, go, hs⟩ := gR_of hs
  rcases o with o | o
  case inr => exact hs.elim
  obtain ⟨q, rfl, hk1, hk0, n, ja, jb, jc, je, hV, hn, hg, hn0, hz, hx9, -, hF⟩ := cellAt_get hs
  have hn24 : n ≤ 24 := hV.1
  have hszH : ∀ q : Nat, H.size ≤ q → A q := fun q h => hsz q (Nat.le_trans hS.1 h)
  have hAw := hw.awc hszH
  have hrv := va_recv hfix.1.1 hw.1 (gCl_at 11 (by decide)) (wWs_ob (show wOb 149 = 11 + 1 from by decide +kernel))
  have hpic : ∀ U : State, U.heap = H → s.WarmedH U.vm → wPic ρ sg cA D (Awc ρ H.size) M U := fun U hU hW => ⟨by rw [hU]; exact hw.1, hw.2.1.weaken (fun k q hq _ => by
    by_cases h9 : k < 150
    · rw [wWs_at h9] at hq
      cases hq
      exact Or.inl ⟨k, h9, rfl⟩
    · rw [List.getElem?_eq_none (by simp [wWs]; omega)] at hq
      cases hq), fun q h => Or.inr (by rw [hU] at h; exact h), (hfix.1.warm hW (fun q q1 q2 => by rw [hU]; exact hS.2.1 q q1 q2)).narrow hAw⟩
  have hM := mt_Qdone (l := l) (ρ := ρ) (sg := sg) (cA := cA) (D := D) (Aw := Awc ρ H.size) htr hV hn hg hn0
  have hA9 : ∀ q, q < H.size → Awc ρ H.size q → A q := fun q _ h => hAw q h
  refine va_callf (a := ([.ref (ρ 149)] : List Value).toArray) (va_runV (As := []) (rest := []) ⟨hx, hb, hml, hown, hts⟩ hM (cwV 0 hts (wsV_good wQ_doneShare_l wQ_doneShare_i wQ_doneShare_s wQ_ini wQ_doneShare_c) rfl rfl rfl (by decide +kernel) ⟨by show 14 + 1 ≤ R.frames; omega, by show 8 + (3 + 11) + 700 ≤ R.locals; omega⟩) ⟨wPic_blind, hrv, fun U hU hW => ⟨rfl, hpic U hU hW⟩⟩ rfl rfl hl.1 rfl (by show 2 * 0 + 0 ≤ 8; omega) h1 ⟨by rw [hR1]; omega, by rw [hR2]; omega⟩) hS hA9 hAw (fun r u t H1 locs1 ht hal hp hB hz1 hfr hS => ?_)
  obtain ⟨hlf, T, hT, rfl⟩ := hp
  rw [ht] at hB
  have hw := hw.back hszH hB hfr
  have hx9 := hx9 T hT
  simp only [] at hx9
  refine lv_iload hx hb h3 (hl.at' gx) ?_
  refine lv_i2f hx hb h5 ?_
  refine lv_aload_n hx hb h6 rfl (hl.at' go) ?_
  refine lv_iconst (v := Int32.ofInt 0) hx hb h7 (by decide) ?_
  obtain ⟨-, -, ⟨-, hl9⟩, hat⟩ := hw.2.2 q (by omega)
  rw [lCell_k hk1] at hat
  have hq := z_in (x := 0) (n := (C q).2.1) ⟨by omega, by omega⟩ hl9
  refine va_iald (ws := [(B + q, .inl (cW 1, (C q).2.1, .inl fun j => Int32.ofInt ((C q).2.2 j)))]) hx hb hK (lat_one hat) 0 0 rfl (tysW_at 1 (by decide) (by decide)) hq.1 h8 ?_
  rw [hq.2]
  refine lv_i2f hx hb h9 ?_
  rw [show (C q).2.2 (0 : Int).toNat = (n : Int) from hz]
  refine lv_fdiv hx hb h10 (fdiv_ok hn0 hn24) ?_
  rw [hx9]
  refine lv_fcmp hx hb h11 ?_
  rw [fcmp0 (fdiv_ok hn0 hn24)]
  rcases h9d : decode bytes (pcN pcs ip + 12) with _ | ⟨i12, n12⟩
  · rw [h9d] at h12; cases h12
  rw [h9d] at h12
  revert h12
  split
  case h_2 => intro h12; cases h12
  rename_i off heq
  intro h12
  cases heq
  simp only [Bool.and_eq_true, decide_eq_true_eq] at h12
  have h13 := hF u hlf hkm hJ H1 locs1 ls hl hw hS
  rw [h12.1] at h13
  exact w_if hx hb (x := 0) ⟨by omega, by omega⟩ h9d (Int.toNat_of_nonneg h12.2).symm (fun h => absurd rfl h) (fun _ => h13)
end StepsL9
