/-! mean() and doneShare(): what they divide (by program). -/
section GROWS
variable {p : Program} {l : Launch} {e : Env} {R : Room} {s : State} {m : MethodId} {args : Array Value} {below : List Frame} {meth : Method} {c : Code} {H H0 : Heap} {locs : List Loc} {cells slots : Nat} {Q : State → Prop}
variable {cc : ByteArray} {pc : Nat} {ls : Array Slot} {rest : List Value} {ρ : Nat → Nat} {D : va_G} {cA : Nat → ClassId} {Aw : Nat → Prop} {M : Mem}
theorem g_fld (hexec : p.tables.exec = Jvm.exec) (hb : c.code = cc) (hts : ∀ w ∈ LW, w.before args s = true) {own : String} (hown : s.vm.findClass own = some m.cls) (hK : va_K D gCl (tysL cA) s) (hP : va_P D gCl (wWs ρ cA M) H) {index o : Nat} (b k : Nat) {v : Value} (b13 : b < 12) (hob : wOb o = b + 1) (hk : k < gN b) (hlink : Cond.fieldLink own index (gT b k).1 (gT b k).2.1 (gT b k).2.2.1 ∈ LW) (hv : fvl ρ (gTy b k) (wRf b o k) (M o k) = v) (hdg : decode cc pc = .ok (.getfield index, 3))
    (kk : W p l e R s m args below meth c H locs cells slots Q (F0 m (pc + 3) ls (v :: rest))) : W p l e R s m args below meth c H locs cells slots Q (F0 m pc ls (.ref (ρ o) :: rest)) := by
  subst hv
  exact va_get (D := D) (ci := b) (C := clR b) (T := gT b) (N := gN b) hexec hb hts (uw_in b b13) hown hK hP o (wWs_ob hob) (gCl_at b b13) k hk (hts _ hlink) (fun _ h9 => h9) (wFs_at hk) hdg kk
theorem g_iald (hexec : p.tables.exec = Jvm.exec) (hb : c.code = cc) (hK : va_K D gCl (tysL cA) s) (hP : va_P D gCl (wWs ρ cA M) H) {o : Nat} (hk : wAk o = 1) {x : Int} (h1 : 0 ≤ x ∧ x < (wAl o : Int)) (hdg : decode cc pc = .ok (.iaload, 1))
    (kk : W p l e R s m args below meth c H locs cells slots Q (F0 m (pc + 1) ls (.int (Int32.ofInt (M o x.toNat)) :: rest))) : W p l e R s m args below meth c H locs cells slots Q (F0 m pc ls (.int (Int32.ofInt x) :: .ref (ρ o) :: rest)) := by
  have hq := z_in h1 (wOA o (wAk_lt hk)).2.2.2
  refine va_iald hexec hb hK hP o 0 (f := fun j => Int32.ofInt (M o j)) (by rw [wWs_ar hk, wArr1 hk]) rfl hq.1 hdg ?_
  rw [hq.2]
  exact kk
end GROWS
theorem i32_nz {n : Nat} (h0 : n ≠ 0) (h : n ≤ 24) : Int32.ofInt (n : Int) ≠ 0 := by
  intro h1
  have h2 := congrArg Int32.toInt h1
  rw [Int32.toInt_ofInt_of_le (by omega) (by omega)] at h2
  have h3 : (0 : Int32).toInt = 0 := rfl
  omega
theorem ddiv_ok {x : Int32} {n : Nat} (h0 : n ≠ 0) (h : n ≤ 24) : vf_n64 (FP.ddiv (FP.i2d x) (FP.i2d (Int32.ofInt (n : Int)))) := Jvm.Free.Fl.ddiv_out (Jvm.Free.Fl.i2d_fin x).noNaN (Jvm.Free.Fl.i2d_fin _) (Jvm.Free.Fl.i2d_nz (i32_nz h0 h))
theorem fdiv_ok {x : Int32} {n : Nat} (h0 : n ≠ 0) (h : n ≤ 24) : vf_n32 (FP.fdiv (FP.i2f x) (FP.i2f (Int32.ofInt (n : Int)))) := Jvm.Free.Fl.fdiv_out (Jvm.Free.Fl.i2f_fin x).noNaN (Jvm.Free.Fl.i2f_fin _) (Jvm.Free.Fl.i2f_nz (i32_nz h0 h))
theorem st_r {n : Nat} {J : Nat → Int} {many by_ space wait : Int} {T : Nat} (hV : VJ n J) (hm : 1 ≤ many) (h : PT n J many by_ space wait T) : ∀ k, k < n → 0 ≤ (sAt n J many by_ space wait T).2.2.2 0 k ∧ (sAt n J many by_ space wait T).2.2.2 0 k ≤ 2 := fun k hk => ((off_all (J := J) (at_inv (by_ := by_) (space := space) (wait := wait) hV hm T).1 h.2).2.2.2 k hk).2
theorem dX11_mean_0 : decode cX11_mean 0 = .ok (.aload_n 0, 1) := by decide +kernel
theorem dX11_mean_1 : decode cX11_mean 1 = .ok (.getfield 26, 3) := by decide +kernel
theorem dX11_mean_4 : decode cX11_mean 4 = .ok (.getfield 163, 3) := by decide +kernel
theorem dX11_mean_7 : decode cX11_mean 7 = .ok (.ifCond .ne 5, 3) := by decide +kernel
theorem dX11_mean_10 : decode cX11_mean 10 = .ok (.dconst 0, 1) := by decide +kernel
theorem dX11_mean_11 : decode cX11_mean 11 = .ok (.dreturn, 1) := by decide +kernel
theorem dX11_mean_12 : decode cX11_mean 12 = .ok (.aload_n 0, 1) := by decide +kernel
theorem dX11_mean_13 : decode cX11_mean 13 = .ok (.invokevirtual 216, 3) := by decide +kernel
theorem dX11_mean_16 : decode cX11_mean 16 = .ok (.aload_n 0, 1) := by decide +kernel
theorem dX11_mean_17 : decode cX11_mean 17 = .ok (.getfield 33, 3) := by decide +kernel
theorem dX11_mean_20 : decode cX11_mean 20 = .ok (.aload_n 0, 1) := by decide +kernel
theorem dX11_mean_21 : decode cX11_mean 21 = .ok (.getfield 26, 3) := by decide +kernel
theorem dX11_mean_24 : decode cX11_mean 24 = .ok (.invokevirtual 254, 3) := by decide +kernel
theorem dX11_mean_27 : decode cX11_mean 27 = .ok (.i2d, 1) := by decide +kernel
theorem dX11_mean_28 : decode cX11_mean 28 = .ok (.aload_n 0, 1) := by decide +kernel
theorem dX11_mean_29 : decode cX11_mean 29 = .ok (.getfield 26, 3) := by decide +kernel
theorem dX11_mean_32 : decode cX11_mean 32 = .ok (.getfield 163, 3) := by decide +kernel
theorem dX11_mean_35 : decode cX11_mean 35 = .ok (.i2d, 1) := by decide +kernel
theorem dX11_mean_36 : decode cX11_mean 36 = .ok (.ddiv, 1) := by decide +kernel
theorem dX11_mean_37 : decode cX11_mean 37 = .ok (.dreturn, 1) := by decide +kernel
theorem dX11_doneShare_0 : decode cX11_doneShare 0 = .ok (.aload_n 0, 1) := by decide +kernel
theorem dX11_doneShare_1 : decode cX11_doneShare 1 = .ok (.getfield 26, 3) := by decide +kernel
theorem dX11_doneShare_4 : decode cX11_doneShare 4 = .ok (.getfield 163, 3) := by decide +kernel
theorem dX11_doneShare_7 : decode cX11_doneShare 7 = .ok (.ifCond .ne 5, 3) := by decide +kernel
theorem dX11_doneShare_10 : decode cX11_doneShare 10 = .ok (.fconst 0, 1) := by decide +kernel
theorem dX11_doneShare_11 : decode cX11_doneShare 11 = .ok (.freturn, 1) := by decide +kernel
theorem dX11_doneShare_12 : decode cX11_doneShare 12 = .ok (.aload_n 0, 1) := by decide +kernel
theorem dX11_doneShare_13 : decode cX11_doneShare 13 = .ok (.invokevirtual 216, 3) := by decide +kernel
theorem dX11_doneShare_16 : decode cX11_doneShare 16 = .ok (.iconst 0, 1) := by decide +kernel
theorem dX11_doneShare_17 : decode cX11_doneShare 17 = .ok (.istore_n 1, 1) := by decide +kernel
theorem dX11_doneShare_18 : decode cX11_doneShare 18 = .ok (.iconst 0, 1) := by decide +kernel
theorem dX11_doneShare_19 : decode cX11_doneShare 19 = .ok (.istore_n 2, 1) := by decide +kernel
theorem dX11_doneShare_20 : decode cX11_doneShare 20 = .ok (.iload_n 2, 1) := by decide +kernel
theorem dX11_doneShare_21 : decode cX11_doneShare 21 = .ok (.aload_n 0, 1) := by decide +kernel
theorem dX11_doneShare_22 : decode cX11_doneShare 22 = .ok (.getfield 26, 3) := by decide +kernel
theorem dX11_doneShare_25 : decode cX11_doneShare 25 = .ok (.getfield 163, 3) := by decide +kernel
theorem dX11_doneShare_28 : decode cX11_doneShare 28 = .ok (.if_icmp .ge 29, 3) := by decide +kernel
theorem dX11_doneShare_31 : decode cX11_doneShare 31 = .ok (.iload_n 1, 1) := by decide +kernel
theorem dX11_doneShare_32 : decode cX11_doneShare 32 = .ok (.aload_n 0, 1) := by decide +kernel
theorem dX11_doneShare_33 : decode cX11_doneShare 33 = .ok (.getfield 33, 3) := by decide +kernel
theorem dX11_doneShare_36 : decode cX11_doneShare 36 = .ok (.getfield 219, 3) := by decide +kernel
theorem dX11_doneShare_39 : decode cX11_doneShare 39 = .ok (.iload_n 2, 1) := by decide +kernel
theorem dX11_doneShare_40 : decode cX11_doneShare 40 = .ok (.iaload, 1) := by decide +kernel
theorem dX11_doneShare_41 : decode cX11_doneShare 41 = .ok (.ifCond .ne 7, 3) := by decide +kernel
theorem dX11_doneShare_44 : decode cX11_doneShare 44 = .ok (.iconst 1, 1) := by decide +kernel
theorem dX11_doneShare_45 : decode cX11_doneShare 45 = .ok (.goto 4, 3) := by decide +kernel
theorem dX11_doneShare_48 : decode cX11_doneShare 48 = .ok (.iconst 0, 1) := by decide +kernel
theorem dX11_doneShare_49 : decode cX11_doneShare 49 = .ok (.iadd, 1) := by decide +kernel
theorem dX11_doneShare_50 : decode cX11_doneShare 50 = .ok (.istore_n 1, 1) := by decide +kernel
theorem dX11_doneShare_51 : decode cX11_doneShare 51 = .ok (.iinc 2 1, 3) := by decide +kernel
theorem dX11_doneShare_54 : decode cX11_doneShare 54 = .ok (.goto (-34), 3) := by decide +kernel
theorem dX11_doneShare_57 : decode cX11_doneShare 57 = .ok (.iload_n 1, 1) := by decide +kernel
theorem dX11_doneShare_58 : decode cX11_doneShare 58 = .ok (.i2f, 1) := by decide +kernel
theorem dX11_doneShare_59 : decode cX11_doneShare 59 = .ok (.aload_n 0, 1) := by decide +kernel
theorem dX11_doneShare_60 : decode cX11_doneShare 60 = .ok (.getfield 26, 3) := by decide +kernel
theorem dX11_doneShare_63 : decode cX11_doneShare 63 = .ok (.getfield 163, 3) := by decide +kernel
theorem dX11_doneShare_66 : decode cX11_doneShare 66 = .ok (.i2f, 1) := by decide +kernel
theorem dX11_doneShare_67 : decode cX11_doneShare 67 = .ok (.fdiv, 1) := by decide +kernel
theorem dX11_doneShare_68 : decode cX11_doneShare 68 = .ok (.freturn, 1) := by decide +kernel
theorem wN_0 : ((Jvm.Cond.fieldLink "Queueward" (26 : Nat) "Queueward" "jobs" "LQueueward$Jobs;") : Cond) ∈ LW := LW_mem (lw_in2 _ (List.mem_of_getElem? (i := 172) (by decide +kernel))) rfl
theorem wN_1 : ((Jvm.Cond.fieldLink "Queueward" (163 : Nat) "Queueward$Jobs" "count" "I") : Cond) ∈ LW := LW_mem (lw_in1 _ (List.mem_of_getElem? (i := 133) (by decide +kernel))) rfl
theorem wN_2 : ((Jvm.Cond.fieldLink "Queueward" (33 : Nat) "Queueward" "linePlay" "LQueueward$Play;") : Cond) ∈ LW := LW_mem (lw_in2 _ (List.mem_of_getElem? (i := 173) (by decide +kernel))) rfl
theorem wN_3 : ((Jvm.Cond.fieldLink "Queueward" (219 : Nat) "Queueward$Play" "state" "[I") : Cond) ∈ LW := LW_mem (lw_in1 _ (List.mem_of_getElem? (i := 169) (by decide +kernel))) rfl
theorem wN_4 : ((Jvm.Cond.methodLink "Queueward" (216 : Nat) ({ cls := "Queueward", name := "playLine", desc := "()V" } : Jvm.MethodName)) : Cond) ∈ LW := LW_mem (lw_in3 _ (List.mem_of_getElem? (i := 146) (by decide +kernel))) rfl
theorem wN_5 : ((Jvm.Cond.instanceMethod ({ cls := "Queueward", name := "playLine", desc := "()V" } : Jvm.MethodName)) : Cond) ∈ LW := LW_mem (lw_in3 _ (List.mem_of_getElem? (i := 148) (by decide +kernel))) rfl
theorem wN_6 : (.selects "Queueward" ⟨"Queueward", "playLine", "()V"⟩ ⟨"Queueward", "playLine", "()V"⟩ : Cond) ∈ LW := LW_mem (lw_inP (List.mem_of_getElem? (i := 3) (by decide +kernel))) rfl
theorem wN_7 : ((Jvm.Cond.initialized "Queueward") : Cond) ∈ LW := LW_mem (lw_in1 _ (List.mem_of_getElem? (i := 1) (by decide +kernel))) rfl
theorem wN_8 : ((Jvm.Cond.code ({ cls := "Queueward", name := "playLine", desc := "()V" } : Jvm.MethodName) prog_1_method_52_code (1 : Nat) (Option.none : Option Jvm.ClassFile.FieldType)) : Cond) ∈ LW := LW_mem (lw_in3 _ (List.mem_of_getElem? (i := 149) (by decide +kernel))) rfl
theorem wN_9 : ((Jvm.Cond.methodLink "Queueward" (254 : Nat) ({ cls := "Queueward$Play", name := "sumOfTimes", desc := "(LQueueward$Jobs;)I" } : Jvm.MethodName)) : Cond) ∈ LW := LW_mem (lw_in6 _ (List.mem_of_getElem? (i := 136) (by decide +kernel))) rfl
theorem wN_10 : ((Jvm.Cond.instanceMethod ({ cls := "Queueward$Play", name := "sumOfTimes", desc := "(LQueueward$Jobs;)I" } : Jvm.MethodName)) : Cond) ∈ LW := LW_mem (lw_in6 _ (List.mem_of_getElem? (i := 137) (by decide +kernel))) rfl
theorem wN_11 : ((Jvm.Cond.selects "Queueward$Play" ({ cls := "Queueward$Play", name := "sumOfTimes", desc := "(LQueueward$Jobs;)I" } : Jvm.MethodName) ({ cls := "Queueward$Play", name := "sumOfTimes", desc := "(LQueueward$Jobs;)I" } : Jvm.MethodName)) : Cond) ∈ LW := LW_mem (lw_in6 _ (List.mem_of_getElem? (i := 138) (by decide +kernel))) rfl
theorem wN_12 : ((Jvm.Cond.initialized "Queueward$Play") : Cond) ∈ LW := LW_mem (lw_in1 _ (List.mem_of_getElem? (i := 8) (by decide +kernel))) rfl
theorem wN_13 : ((Jvm.Cond.code ({ cls := "Queueward$Play", name := "sumOfTimes", desc := "(LQueueward$Jobs;)I" } : Jvm.MethodName) prog_10_method_14_code (4 : Nat) (Option.some Jvm.ClassFile.FieldType.int)) : Cond) ∈ LW := LW_mem (lw_in6 _ (List.mem_of_getElem? (i := 139) (by decide +kernel))) rfl
set_option maxHeartbeats 4000000 in
set_option maxRecDepth 100000 in
theorem mt_Qmean {l : Launch} (htr : l.stackTraces = false) {ρ sg : Nat → Nat} {cA : Nat → ClassId} {D : va_G} {Aw : Nat → Prop} {M : Mem} {n : Nat} {ja jb jc je : Int} (hV : VJ n (M 94)) (hn : M 117 0 = n) (hg : lineC M n (M 94) ja jb jc je) (hn0 : n ≠ 0) : Met l yX11_mean (wMt yX11_mean cX11_mean 1 (some .double)) ({ frames := 14, cells := 0, slots := 0, locals := 700 }) (va_Pc [.ref (ρ 149)] (fun U => wPic ρ sg cA D Aw M U)) (va_Qd (fun (r : UInt64) (M1 : Mem) => lineFr M M1 n (M 94) ja jb jc je ∧ ∃ T, PT n (M 94) ja jb jc je T ∧ r = FP.ddiv (FP.i2d (Int32.ofInt (pSum n (M 94) ja jb jc je T))) (FP.i2d (Int32.ofInt (n : Int)))) (fun M1 t => wP0 ρ cA D Aw M1 t.heap) Aw) 0 0 Aw := by
  refine Met.ofW (cc := cX11_mean) (maxL := 1) (ret := (some .double)) (by decide) rfl ?_
  intro p e s m args below meth c9 s₁ B9 hml hv
  obtain ⟨rfl, hP, hD, hsz, hfix⟩ := hv
  have hx := B9.exec
  have hb := B9.bytes
  have hr := B9.returns
  have hts0 := atoms_spec (ws := wMt yX11_mean cX11_mean 1 (some .double)) B9.pre
  have hts : ∀ w ∈ LW, w.before _ s = true := fun w hw => hts0 w (List.mem_cons_of_mem _ hw)
  have hown : s.vm.findClass RX11 = some m.cls := findClass_of_methodNamed B9.named
  have hlocks := B9.notSynchronized
  have hK := hfix.1
  have hS : va_S Aw s.heap s.heap [] := va_S.rf
  have hl := lv_entry ([.ref (ρ 149)]) (n := 1) (Nat.le_of_ble_eq_true rfl)
  rw [lg_entry_eq]
  generalize (lg_sl ([.ref (ρ 149)]) ++ List.replicate (1 - (lg_sl ([.ref (ρ 149)])).length) Slot.unset).toArray = ls at hl ⊢
  have hl : lv_has ls 1 [(0, .ref (ρ 149))] := hl
  have hn24 : n ≤ 24 := hV.1
  suffices key : W p l e (headSpec (wMt yX11_mean cX11_mean 1 (some .double)) ({ frames := 14, cells := 0, slots := 0, locals := 700 })).room s m ([.ref (ρ 149)] : List Value).toArray below meth c9 s.heap [] 0 0 (MQ below (va_Qd (fun (r : UInt64) (M1 : Mem) => lineFr M M1 n (M 94) ja jb jc je ∧ ∃ T, PT n (M 94) ja jb jc je T ∧ r = FP.ddiv (FP.i2d (Int32.ofInt (pSum n (M 94) ja jb jc je T))) (FP.i2d (Int32.ofInt (n : Int)))) (fun M1 t => wP0 ρ cA D Aw M1 t.heap) Aw) ([.ref (ρ 149)] : List Value).toArray s 0 0 Aw) (F0 m 0 ls []) from key
  refine lv_aload_n hx hb dX11_mean_0 rfl (lv_at hl 0 rfl) ?_
  refine g_fld hx hb hts hown hK hP (o := 149) 11 2 (v := .ref (ρ 117)) (by decide) (by decide +kernel) (by decide) wN_0 rfl dX11_mean_1 ?_
  refine g_fld hx hb hts hown hK hP (o := 117) 5 0 (v := .int (Int32.ofInt (n : Int))) (by decide) (by decide +kernel) (by decide) wN_1 (by show Value.int (Int32.ofInt (M 117 0)) = _; rw [hn]) dX11_mean_4 ?_
  refine w_if hx hb (x := (n : Int)) ⟨by omega, by omega⟩ (cn := .ne) (tgt := 12) dX11_mean_7 (by decide) (fun h => ?_) (fun h => ?_)
  case' refine_2 =>
    have h0 : n = 0 := by have h : ¬ ¬ (n : Int) = 0 := h; omega
    exact absurd h0 hn0
  refine lv_aload_n hx hb dX11_mean_12 rfl (lv_at hl 0 rfl) ?_
  have hc1 : cald 5 cQ_playLine [oQ] M (fun r M1 => ∃ v, r = .inl v ∧ lineFr M M1 n (M 94) ja jb jc je ∧ ∃ T, RunC M1 54 n (M 94) ja jb jc je T) := (s_playLine' (d := 0) hV hn rfl hg) _ fun v M1 q => ⟨v, rfl, q⟩
  have hM := snd (ρ := ρ) (sg := sg) (cA := cA) (D := D) (Aw := Aw) htr 5 cQ_playLine _ M (fun r M1 => ∃ v, r = .inl v ∧ lineFr M M1 n (M 94) ja jb jc je ∧ ∃ T, RunC M1 54 n (M 94) ja jb jc je T) hc1 nQ_playLine rfl
  have hrv := va_recv hfix.1 hP (gCl_at 11 (by decide)) (wWs_ob (show wOb 149 = 11 + 1 from by decide +kernel))
  refine vx_callv (vx_runV (As := []) (rest := []) ⟨hx, hb, hml, hown, hts⟩ hM (cwV 0 hts (wsV_good wN_4 wN_5 wN_6 wN_7 wN_8) rfl rfl rfl (by decide +kernel) ⟨Nat.le_of_ble_eq_true rfl, Nat.le_of_ble_eq_true rfl⟩) ⟨wPic_blind, hrv, fun U hU hW => ⟨rfl, (by rw [hU]; exact hP), hD, (by rw [hU]; exact hsz), hfix.warm hW (fun q q1 q2 => (congrArg (fun h9 : Heap => h9[q]?) hU).trans (hS.2.1 q q1 q2))⟩⟩ rfl rfl hl.1 rfl (lv_room (Nat.le_of_ble_eq_true rfl)) dX11_mean_13 ⟨Nat.le_of_ble_eq_true rfl, Nat.le_of_ble_eq_true rfl⟩) hS (fun q _ h => h) (fun q h => h) (fun q _ h => h) (fun E ce q9 u t H1 locs1 ht hal hp hB => by obtain ⟨v, hv, -⟩ := hp; cases hv) (fun u t H1 locs1 ht hal hp hB hz1 hfr hS => ?_)
  obtain ⟨v0, -, hl1, T, hT⟩ := hp
  rw [ht] at hB
  obtain ⟨hP, hD, hsz⟩ := hB
  have hn1 : u 117 0 = n := by rw [hl1.1 117 (by decide)]; exact hn
  have e94 : u 94 = M 94 := hl1.1 94 (by decide)
  refine lv_aload_n hx hb dX11_mean_16 rfl (lv_at hl 0 rfl) ?_
  refine g_fld hx hb hts hown hK hP (o := 149) 11 3 (v := .ref (ρ 54)) (by decide) (by decide +kernel) (by decide) wN_2 rfl dX11_mean_17 ?_
  refine lv_aload_n hx hb dX11_mean_20 rfl (lv_at hl 0 rfl) ?_
  refine g_fld hx hb hts hown hK hP (o := 149) 11 2 (v := .ref (ρ 117)) (by decide) (by decide +kernel) (by decide) wN_0 rfl dX11_mean_21 ?_
  have hc2 : cald 3 cP_sumOfTimes [oP 54, oJ] u (fun r M2 => ∃ v, r = .inl v ∧ M2 = u ∧ v = pSum n (M 94) ja jb jc je T) := (s_sumOfTimes (d := 0) (n := n) (f := pTime n (M 94) ja jb jc je T) iP1 hn1 hn24 (fun k hk => by rw [(hT.2.2.2.2 k hk).2.2, e94]; rfl)) _ fun v M1 q => ⟨v, rfl, q.1, q.2⟩
  have hM := snd (ρ := ρ) (sg := sg) (cA := cA) (D := D) (Aw := Aw) htr 3 cP_sumOfTimes _ u (fun r M2 => ∃ v, r = .inl v ∧ M2 = u ∧ v = pSum n (M 94) ja jb jc je T) hc2 nP_sumOfTimes rfl
  have hrv := va_recv hfix.1 hP (gCl_at 8 (by decide)) (wWs_ob (show wOb 54 = 8 + 1 from by decide +kernel))
  refine vx_calli (vx_runV (As := [.ref (ρ 117)]) (rest := []) ⟨hx, hb, hml, hown, hts⟩ hM (cwV 1 hts (wsV_good wN_9 wN_10 wN_11 wN_12 wN_13) rfl rfl rfl (by decide +kernel) ⟨Nat.le_of_ble_eq_true rfl, Nat.le_of_ble_eq_true rfl⟩) ⟨wPic_blind, hrv, fun U hU hW => ⟨rfl, (by rw [hU]; exact hP), hD, (by rw [hU]; exact hsz), hfix.warm hW (fun q q1 q2 => (congrArg (fun h9 : Heap => h9[q]?) hU).trans (hS.2.1 q q1 q2))⟩⟩ rfl rfl hl.1 rfl (lv_room (Nat.le_of_ble_eq_true rfl)) dX11_mean_24 ⟨Nat.le_of_ble_eq_true rfl, Nat.le_of_ble_eq_true rfl⟩) hS (fun q _ h => h) (fun q h => h) (fun q _ h => h) (fun E ce q9 u t H1 locs1 ht hal hp hB => by obtain ⟨v, hv, -⟩ := hp; cases hv) (fun r u t H1 locs1 ht hal hp hB hz1 hfr hS => ?_)
  obtain ⟨x, rfl, v1, hv1, hu, hv2⟩ := hp
  cases hv1
  subst hv2
  rename_i u0
  subst hu
  rw [ht] at hB
  obtain ⟨hP, hD, hsz⟩ := hB
  refine lv_i2d hx hb dX11_mean_27 ?_
  refine lv_aload_n hx hb dX11_mean_28 rfl (lv_at hl 0 rfl) ?_
  refine g_fld hx hb hts hown hK hP (o := 149) 11 2 (v := .ref (ρ 117)) (by decide) (by decide +kernel) (by decide) wN_0 rfl dX11_mean_29 ?_
  refine g_fld hx hb hts hown hK hP (o := 117) 5 0 (v := .int (Int32.ofInt (n : Int))) (by decide) (by decide +kernel) (by decide) wN_1 (by show Value.int (Int32.ofInt (u 117 0)) = _; rw [hn1]) dX11_mean_32 ?_
  refine lv_i2d hx hb dX11_mean_35 ?_
  refine lv_ddiv hx hb dX11_mean_36 (ddiv_ok hn0 hn24) ?_
  exact W.dret hx hb hr (fun t2 ht2 hW => ⟨⟨_, _, rfl, ⟨hl1, T, hT.pt, rfl⟩, ⟨(by rw [ht2]; exact hP), hD, (by rw [ht2]; exact hsz)⟩⟩, hS.F ht2⟩) hS.2.2 dX11_mean_37
set_option maxHeartbeats 4000000 in
set_option maxRecDepth 100000 in
theorem mt_Qdone {l : Launch} (htr : l.stackTraces = false) {ρ sg : Nat → Nat} {cA : Nat → ClassId} {D : va_G} {Aw : Nat → Prop} {M : Mem} {n : Nat} {ja jb jc je : Int} (hV : VJ n (M 94)) (hn : M 117 0 = n) (hg : lineC M n (M 94) ja jb jc je) (hn0 : n ≠ 0) : Met l yX11_doneShare (wMt yX11_doneShare cX11_doneShare 3 (some .float)) ({ frames := 14, cells := 0, slots := 0, locals := 700 }) (va_Pc [.ref (ρ 149)] (fun U => wPic ρ sg cA D Aw M U)) (va_Qf (fun (r : UInt32) (M1 : Mem) => lineFr M M1 n (M 94) ja jb jc je ∧ ∃ T, PT n (M 94) ja jb jc je T ∧ r = FP.fdiv (FP.i2f (Int32.ofInt (cntZ (fun k => (sAt n (M 94) ja jb jc je T).2.2.2 0 k) n))) (FP.i2f (Int32.ofInt (n : Int)))) (fun M1 t => wP0 ρ cA D Aw M1 t.heap) Aw) 0 0 Aw := by
  refine Met.ofW (cc := cX11_doneShare) (maxL := 3) (ret := (some .float)) (by decide) rfl ?_
  intro p e s m args below meth c9 s₁ B9 hml hv
  obtain ⟨rfl, hP, hD, hsz, hfix⟩ := hv
  have hx := B9.exec
  have hb := B9.bytes
  have hr := B9.returns
  have hts0 := atoms_spec (ws := wMt yX11_doneShare cX11_doneShare 3 (some .float)) B9.pre
  have hts : ∀ w ∈ LW, w.before _ s = true := fun w hw => hts0 w (List.mem_cons_of_mem _ hw)
  have hown : s.vm.findClass RX11 = some m.cls := findClass_of_methodNamed B9.named
  have hlocks := B9.notSynchronized
  have hK := hfix.1
  have hS : va_S Aw s.heap s.heap [] := va_S.rf
  have hl := lv_entry ([.ref (ρ 149)]) (n := 3) (Nat.le_of_ble_eq_true rfl)
  rw [lg_entry_eq]
  generalize (lg_sl ([.ref (ρ 149)]) ++ List.replicate (3 - (lg_sl ([.ref (ρ 149)])).length) Slot.unset).toArray = ls at hl ⊢
  have hl : lv_has ls 3 [(0, .ref (ρ 149))] := hl
  have hn24 : n ≤ 24 := hV.1
  suffices key : W p l e (headSpec (wMt yX11_doneShare cX11_doneShare 3 (some .float)) ({ frames := 14, cells := 0, slots := 0, locals := 700 })).room s m ([.ref (ρ 149)] : List Value).toArray below meth c9 s.heap [] 0 0 (MQ below (va_Qf (fun (r : UInt32) (M1 : Mem) => lineFr M M1 n (M 94) ja jb jc je ∧ ∃ T, PT n (M 94) ja jb jc je T ∧ r = FP.fdiv (FP.i2f (Int32.ofInt (cntZ (fun k => (sAt n (M 94) ja jb jc je T).2.2.2 0 k) n))) (FP.i2f (Int32.ofInt (n : Int)))) (fun M1 t => wP0 ρ cA D Aw M1 t.heap) Aw) ([.ref (ρ 149)] : List Value).toArray s 0 0 Aw) (F0 m 0 ls []) from key
  refine lv_aload_n hx hb dX11_doneShare_0 rfl (lv_at hl 0 rfl) ?_
  refine g_fld hx hb hts hown hK hP (o := 149) 11 2 (v := .ref (ρ 117)) (by decide) (by decide +kernel) (by decide) wN_0 rfl dX11_doneShare_1 ?_
  refine g_fld hx hb hts hown hK hP (o := 117) 5 0 (v := .int (Int32.ofInt (n : Int))) (by decide) (by decide +kernel) (by decide) wN_1 (by show Value.int (Int32.ofInt (M 117 0)) = _; rw [hn]) dX11_doneShare_4 ?_
  refine w_if hx hb (x := (n : Int)) ⟨by omega, by omega⟩ (cn := .ne) (tgt := 12) dX11_doneShare_7 (by decide) (fun h => ?_) (fun h => ?_)
  case' refine_2 =>
    have h0 : n = 0 := by have h : ¬ ¬ (n : Int) = 0 := h; omega
    exact absurd h0 hn0
  refine lv_aload_n hx hb dX11_doneShare_12 rfl (lv_at hl 0 rfl) ?_
  have hc1 : cald 5 cQ_playLine [oQ] M (fun r M1 => ∃ v, r = .inl v ∧ lineFr M M1 n (M 94) ja jb jc je ∧ ∃ T, RunC M1 54 n (M 94) ja jb jc je T) := (s_playLine' (d := 0) hV hn rfl hg) _ fun v M1 q => ⟨v, rfl, q⟩
  have hM := snd (ρ := ρ) (sg := sg) (cA := cA) (D := D) (Aw := Aw) htr 5 cQ_playLine _ M (fun r M1 => ∃ v, r = .inl v ∧ lineFr M M1 n (M 94) ja jb jc je ∧ ∃ T, RunC M1 54 n (M 94) ja jb jc je T) hc1 nQ_playLine rfl
  have hrv := va_recv hfix.1 hP (gCl_at 11 (by decide)) (wWs_ob (show wOb 149 = 11 + 1 from by decide +kernel))
  refine vx_callv (vx_runV (As := []) (rest := []) ⟨hx, hb, hml, hown, hts⟩ hM (cwV 0 hts (wsV_good wN_4 wN_5 wN_6 wN_7 wN_8) rfl rfl rfl (by decide +kernel) ⟨Nat.le_of_ble_eq_true rfl, Nat.le_of_ble_eq_true rfl⟩) ⟨wPic_blind, hrv, fun U hU hW => ⟨rfl, (by rw [hU]; exact hP), hD, (by rw [hU]; exact hsz), hfix.warm hW (fun q q1 q2 => (congrArg (fun h9 : Heap => h9[q]?) hU).trans (hS.2.1 q q1 q2))⟩⟩ rfl rfl hl.1 rfl (lv_room (Nat.le_of_ble_eq_true rfl)) dX11_doneShare_13 ⟨Nat.le_of_ble_eq_true rfl, Nat.le_of_ble_eq_true rfl⟩) hS (fun q _ h => h) (fun q h => h) (fun q _ h => h) (fun E ce q9 u t H1 locs1 ht hal hp hB => by obtain ⟨v, hv, -⟩ := hp; cases hv) (fun u t H1 locs1 ht hal hp hB hz1 hfr hS => ?_)
  obtain ⟨v0, -, hl1, T, hT⟩ := hp
  rw [ht] at hB
  obtain ⟨hP, hD, hsz⟩ := hB
  have hn1 : u 117 0 = n := by rw [hl1.1 117 (by decide)]; exact hn
  have hst : ∀ k, k < n → u 56 k = (sAt n (M 94) ja jb jc je T).2.2.2 0 k := fun k hk => (hT.2.2.2.2 k hk).1
  have hsr := st_r hV hg.2.2.2.2.1.1.1 hT.pt
  have loop : ∀ (q k : Nat) (ls : Array Slot), k + q = n → lv_has ls 3 [(2, .int (Int32.ofInt (k : Int))), (1, .int (Int32.ofInt (cntZ (fun k => (sAt n (M 94) ja jb jc je T).2.2.2 0 k) k))), (0, .ref (ρ 149))] → W p l e (headSpec (wMt yX11_doneShare cX11_doneShare 3 (some .float)) ({ frames := 14, cells := 0, slots := 0, locals := 700 })).room s m ([.ref (ρ 149)] : List Value).toArray below meth c9 H1 locs1 0 0 (MQ below (va_Qf (fun (r : UInt32) (M1 : Mem) => lineFr M M1 n (M 94) ja jb jc je ∧ ∃ T, PT n (M 94) ja jb jc je T ∧ r = FP.fdiv (FP.i2f (Int32.ofInt (cntZ (fun k => (sAt n (M 94) ja jb jc je T).2.2.2 0 k) n))) (FP.i2f (Int32.ofInt (n : Int)))) (fun M1 t => wP0 ρ cA D Aw M1 t.heap) Aw) ([.ref (ρ 149)] : List Value).toArray s 0 0 Aw) (F0 m 20 ls []) := by
    intro q
    induction q with
    | zero =>
      intro k ls hk hl
      have hk : k = n := by omega
      subst hk
      refine lv_iload_n hx hb dX11_doneShare_20 rfl (lv_at hl 0 rfl) ?_
      refine lv_aload_n hx hb dX11_doneShare_21 rfl (lv_at hl 2 rfl) ?_
      refine g_fld hx hb hts hown hK hP (o := 149) 11 2 (v := .ref (ρ 117)) (by decide) (by decide +kernel) (by decide) wN_0 rfl dX11_doneShare_22 ?_
      refine g_fld hx hb hts hown hK hP (o := 117) 5 0 (v := .int (Int32.ofInt (k : Int))) (by decide) (by decide +kernel) (by decide) wN_1 (by show Value.int (Int32.ofInt (u 117 0)) = _; rw [hn1]) dX11_doneShare_25 ?_
      refine w_icmp hx hb (x := (k : Int)) (y := (k : Int)) ⟨by omega, by omega⟩ ⟨by omega, by omega⟩ (cn := .ge) (tgt := 57) dX11_doneShare_28 (by decide) (fun _ => ?_) (fun h => absurd (Int.le_refl _) h)
      refine lv_iload_n hx hb dX11_doneShare_57 rfl (lv_at hl 1 rfl) ?_
      refine lv_i2f hx hb dX11_doneShare_58 ?_
      refine lv_aload_n hx hb dX11_doneShare_59 rfl (lv_at hl 2 rfl) ?_
      refine g_fld hx hb hts hown hK hP (o := 149) 11 2 (v := .ref (ρ 117)) (by decide) (by decide +kernel) (by decide) wN_0 rfl dX11_doneShare_60 ?_
      refine g_fld hx hb hts hown hK hP (o := 117) 5 0 (v := .int (Int32.ofInt (k : Int))) (by decide) (by decide +kernel) (by decide) wN_1 (by show Value.int (Int32.ofInt (u 117 0)) = _; rw [hn1]) dX11_doneShare_63 ?_
      refine lv_i2f hx hb dX11_doneShare_66 ?_
      refine lv_fdiv hx hb dX11_doneShare_67 (fdiv_ok hn0 hn24) ?_
      exact W.fret hx hb hr (fun t2 ht2 hW => ⟨⟨_, u, rfl, ⟨hl1, T, hT.pt, rfl⟩, ⟨(by rw [ht2]; exact hP), hD, (by rw [ht2]; exact hsz)⟩⟩, hS.F ht2⟩) hS.2.2 dX11_doneShare_68
    | succ q ih =>
      intro k ls hk hl
      have hcr := cntZ_r (fun k => (sAt n (M 94) ja jb jc je T).2.2.2 0 k) k
      refine lv_iload_n hx hb dX11_doneShare_20 rfl (lv_at hl 0 rfl) ?_
      refine lv_aload_n hx hb dX11_doneShare_21 rfl (lv_at hl 2 rfl) ?_
      refine g_fld hx hb hts hown hK hP (o := 149) 11 2 (v := .ref (ρ 117)) (by decide) (by decide +kernel) (by decide) wN_0 rfl dX11_doneShare_22 ?_
      refine g_fld hx hb hts hown hK hP (o := 117) 5 0 (v := .int (Int32.ofInt (n : Int))) (by decide) (by decide +kernel) (by decide) wN_1 (by show Value.int (Int32.ofInt (u 117 0)) = _; rw [hn1]) dX11_doneShare_25 ?_
      refine w_icmp hx hb (x := (k : Int)) (y := (n : Int)) ⟨by omega, by omega⟩ ⟨by omega, by omega⟩ (cn := .ge) (tgt := 57) dX11_doneShare_28 (by decide) (fun h => absurd (show (n : Int) ≤ (k : Int) from h) (by omega)) (fun _ => ?_)
      refine lv_iload_n hx hb dX11_doneShare_31 rfl (lv_at hl 1 rfl) ?_
      refine lv_aload_n hx hb dX11_doneShare_32 rfl (lv_at hl 2 rfl) ?_
      refine g_fld hx hb hts hown hK hP (o := 149) 11 3 (v := .ref (ρ 54)) (by decide) (by decide +kernel) (by decide) wN_2 rfl dX11_doneShare_33 ?_
      refine g_fld hx hb hts hown hK hP (o := 54) 8 6 (v := .ref (ρ 56)) (by decide) (by decide +kernel) (by decide) wN_3 rfl dX11_doneShare_36 ?_
      refine lv_iload_n hx hb dX11_doneShare_39 rfl (lv_at hl 0 rfl) ?_
      refine g_iald hx hb hK hP (o := 56) (by decide +kernel) (x := (k : Int)) ⟨by omega, by rw [show wAl 56 = 24 from by decide +kernel]; omega⟩ dX11_doneShare_40 ?_
      rw [Int.toNat_natCast, hst k (by omega)]
      have hr0 := hsr k (by omega)
      have fin : ∀ (v : Int) (ls : Array Slot), (v = if (sAt n (M 94) ja jb jc je T).2.2.2 0 k = 0 then 1 else 0) → lv_has ls 3 [(2, .int (Int32.ofInt (k : Int))), (1, .int (Int32.ofInt (cntZ (fun k => (sAt n (M 94) ja jb jc je T).2.2.2 0 k) k))), (0, .ref (ρ 149))] → W p l e (headSpec (wMt yX11_doneShare cX11_doneShare 3 (some .float)) ({ frames := 14, cells := 0, slots := 0, locals := 700 })).room s m ([.ref (ρ 149)] : List Value).toArray below meth c9 H1 locs1 0 0 (MQ below (va_Qf (fun (r : UInt32) (M1 : Mem) => lineFr M M1 n (M 94) ja jb jc je ∧ ∃ T, PT n (M 94) ja jb jc je T ∧ r = FP.fdiv (FP.i2f (Int32.ofInt (cntZ (fun k => (sAt n (M 94) ja jb jc je T).2.2.2 0 k) n))) (FP.i2f (Int32.ofInt (n : Int)))) (fun M1 t => wP0 ρ cA D Aw M1 t.heap) Aw) ([.ref (ρ 149)] : List Value).toArray s 0 0 Aw) (F0 m 49 ls [.int (Int32.ofInt v), .int (Int32.ofInt (cntZ (fun k => (sAt n (M 94) ja jb jc je T).2.2.2 0 k) k))]) := by
        intro v ls hv hl
        refine lv_iadd hx hb dX11_doneShare_49 ?_
        rw [← Int32.ofInt_add]
        refine lv_istore_n (lv' := [(1, .int (Int32.ofInt (cntZ (fun k => (sAt n (M 94) ja jb jc je T).2.2.2 0 k) k + v))), (2, .int (Int32.ofInt (k : Int))), (0, .ref (ρ 149))]) hx hb dX11_doneShare_50 rfl hl (by decide) rfl (fun ls hl => ?_)
        refine lv_iinc (v := Int32.ofInt ((k + 1 : Nat) : Int)) (lv' := [(2, .int (Int32.ofInt ((k + 1 : Nat) : Int))), (1, .int (Int32.ofInt (cntZ (fun k => (sAt n (M 94) ja jb jc je T).2.2.2 0 k) k + v))), (0, .ref (ρ 149))]) hx hb dX11_doneShare_51 hl (k := 1) rfl (by rw [Int.natCast_add, Int32.ofInt_add]; rfl) (by decide) rfl (fun ls hl => ?_)
        refine lv_goto (tgt := 20) hx hb dX11_doneShare_54 (by decide) ?_
        refine ih (k + 1) ls (by omega) ?_
        rw [hv] at hl
        exact hl
      refine w_if hx hb (x := (sAt n (M 94) ja jb jc je T).2.2.2 0 k) ⟨by omega, by omega⟩ (cn := .ne) (tgt := 48) dX11_doneShare_41 (by decide) (fun h => ?_) (fun h => ?_)
      · refine lv_iconst (v := Int32.ofInt 0) hx hb dX11_doneShare_48 (by decide) ?_
        exact fin 0 ls (if_neg h).symm hl
      · refine lv_iconst (v := Int32.ofInt 1) hx hb dX11_doneShare_44 (by decide) ?_
        refine lv_goto (tgt := 49) hx hb dX11_doneShare_45 (by decide) ?_
        exact fin 1 ls (if_pos (Decidable.not_not.mp h)).symm hl
  refine lv_iconst (v := Int32.ofInt 0) hx hb dX11_doneShare_16 (by decide) ?_
  refine lv_istore_n (lv' := [(1, .int (Int32.ofInt 0)), (0, .ref (ρ 149))]) hx hb dX11_doneShare_17 rfl hl (by decide) rfl (fun ls hl => ?_)
  refine lv_iconst (v := Int32.ofInt 0) hx hb dX11_doneShare_18 (by decide) ?_
  refine lv_istore_n (lv' := [(2, .int (Int32.ofInt 0)), (1, .int (Int32.ofInt 0)), (0, .ref (ρ 149))]) hx hb dX11_doneShare_19 rfl hl (by decide) rfl (fun ls hl => ?_)
  exact loop n 0 ls (by omega) hl
