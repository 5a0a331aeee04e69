/-! More rows for constructors; setLong(1) and trim(3) while the world is being made (by program). -/
theorem in_lit {j : Int32} {n : Nat} (h0 : ¬ j < 0) (hn : j.toNatClampNeg < n) : vp_in j n := fun q => q.elim h0 (fun h => Nat.not_le.mpr hn h)
section EHR2
variable {p : Program} {l : Launch} {e : Env} {R : Room} {s : State} {m : MethodId} {args : Array Value} {below : List Frame} {meth : Method} {c : Code} {H H0 : Heap} {locs : List Loc} {cells slots : Nat} {Q : State → Prop}
variable {cc : ByteArray} {pc : Nat} {ls : Array Slot} {rest : List Value} {D : va_G} {cA : Nat → ClassId} {B N : Nat} {g : Nat → va_E}
theorem eh_iald2 {i : Nat} (hexec : p.tables.exec = Jvm.exec) (hb : c.code = cc) (hK : va_K D gCl (tysL cA) s) (hE : EH D B N g H) {n : Nat} {f : Nat → Int32} (hi0 : i < N) (he : g i = .inl (cA 1, n, .inl f)) {j v : Int32} {jn : Nat} (h0 : ¬ j < 0) (hn : jn < n) (hj : j.toNatClampNeg = jn) (hv : f jn = v) (hdg : decode cc pc = .ok (.iaload, 1))
    (kk : W p l e R s m args below meth c H locs cells slots Q (F0 m (pc + 1) ls (.int v :: rest))) : W p l e R s m args below meth c H locs cells slots Q (F0 m pc ls (.int j :: .ref (B + i) :: rest)) := by
  subst hj; subst hv
  exact eh_iald hexec hb hK hE hi0 he (in_lit h0 hn) hdg kk
theorem eh_iast2 {i : Nat} (hexec : p.tables.exec = Jvm.exec) (hb : c.code = cc) (hK : va_K D gCl (tysL cA) s) (hE : EH D B N g H) (hS : va_S (Al B) H0 H locs) {n : Nat} {f : Nat → Int32} (hi0 : i < N) (he : g i = .inl (cA 1, n, .inl f)) {j x : Int32} {jn : Nat} (h0 : ¬ j < 0) (hn : jn < n) (hj : j.toNatClampNeg = jn) (hdg : decode cc pc = .ok (.iastore, 1))
    (kk : ∀ (H1 : Heap) (locs1 : List Loc), EH D B N (gup g i (.inl (cA 1, n, .inl (upd f jn x)))) H1 → va_S (Al B) H0 H1 locs1 → W p l e R s m args below meth c H1 locs1 cells slots Q (F0 m (pc + 1) ls rest)) : W p l e R s m args below meth c H locs cells slots Q (F0 m pc ls (.int x :: .int j :: .ref (B + i) :: rest)) := by
  subst hj
  exact eh_iast hexec hb hK hE hS hi0 he (in_lit h0 hn) hdg kk
theorem eh_aast2 {i v : Nat} (hexec : p.tables.exec = Jvm.exec) (hb : c.code = cc) (hK : va_K D gCl (tysL cA) s) (hE : EH D B N g H) (hS : va_S (Al B) H0 H locs) {n : Nat} {f : Nat → Option Nat} {fs : List Value} (hi0 : i < N) (he : g i = .inl (cA 5, n, .inr (.inr (.inr (.inr f))))) (hv0 : v < N) (hv : g v = .inr (0, fs)) {j : Int32} {jn : Nat} (h0 : ¬ j < 0) (hn : jn < n) (hj : j.toNatClampNeg = jn) (hdg : decode cc pc = .ok (.aastore, 1))
    (kk : ∀ (H1 : Heap) (locs1 : List Loc), EH D B N (gup g i (.inl (cA 5, n, .inr (.inr (.inr (.inr (va_up f jn (some (B + v))))))))) H1 → va_S (Al B) H0 H1 locs1 → W p l e R s m args below meth c H1 locs1 cells slots Q (F0 m (pc + 1) ls rest)) : W p l e R s m args below meth c H locs cells slots Q (F0 m pc ls (.ref (B + v) :: .int j :: .ref (B + i) :: rest)) := by
  subst hj
  exact eh_aast hexec hb hK hE hS hi0 he hv0 hv (in_lit h0 hn) hdg kk
theorem eh_aald {i t0 a : Nat} {ty : FieldType} (hexec : p.tables.exec = Jvm.exec) (hb : c.code = cc) (hK : va_K D gCl (tysL cA) s) (hE : EH D B N g H) {n v : Nat} {f : Nat → Option Nat} (hi0 : i < N) (he : g i = .inl (cA a, n, .inr (.inr (.inr (.inr f))))) (ht : (tysL cA)[t0]? = some (cA a, ty)) (hty : ty.isReference = true) {j : Int32} {jn : Nat} (h0 : ¬ j < 0) (hn : jn < n) (hj : j.toNatClampNeg = jn) (hv : f jn = some v) (hdg : decode cc pc = .ok (.aaload, 1))
    (kk : W p l e R s m args below meth c H locs cells slots Q (F0 m (pc + 1) ls (.ref v :: rest))) : W p l e R s m args below meth c H locs cells slots Q (F0 m pc ls (.int j :: .ref (B + i) :: rest)) := by
  subst hj
  have hlt : j.toNatClampNeg < n := hn
  have hin : vp_in j n := in_lit h0 hn
  exact W.aald (v := .ref v) (ty := ty) hexec hb (hE.at' hi0 he) ((hK.2 t0 _ ht).1 n (fun j => va_rf (f j))) hty (fun q => by cases q) (by show ¬ (j < 0 ∨ (arrV _ _ _).slots.size ≤ _); rw [arrV_size]; exact hin) (by show (arrV _ _ _).slots[_]? = _; rw [arrV_read _ _ hlt, hv]; rfl) rfl rfl hdg kk
end EHR2
theorem dX0_trim_0 : decode cX0_trim 0 = .ok (.aload_n 0, 1) := by decide +kernel
theorem dX0_trim_1 : decode cX0_trim 1 = .ok (.iload_n 1, 1) := by decide +kernel
theorem dX0_trim_2 : decode cX0_trim 2 = .ok (.bipush 20, 2) := by decide +kernel
theorem dX0_trim_4 : decode cX0_trim 4 = .ok (.invokestatic 35, 3) := by decide +kernel
theorem dX0_trim_7 : decode cX0_trim 7 = .ok (.putfield 31, 3) := by decide +kernel
theorem dX0_trim_10 : decode cX0_trim 10 = .ok (.aload_n 0, 1) := by decide +kernel
theorem dX0_trim_11 : decode cX0_trim 11 = .ok (.getfield 31, 3) := by decide +kernel
theorem dX0_trim_14 : decode cX0_trim 14 = .ok (.ifCond .le 30, 3) := by decide +kernel
theorem dX0_trim_17 : decode cX0_trim 17 = .ok (.aload_n 0, 1) := by decide +kernel
theorem dX0_trim_18 : decode cX0_trim 18 = .ok (.getfield 9, 3) := by decide +kernel
theorem dX0_trim_21 : decode cX0_trim 21 = .ok (.aload_n 0, 1) := by decide +kernel
theorem dX0_trim_22 : decode cX0_trim 22 = .ok (.getfield 31, 3) := by decide +kernel
theorem dX0_trim_25 : decode cX0_trim 25 = .ok (.iconst 1, 1) := by decide +kernel
theorem dX0_trim_26 : decode cX0_trim 26 = .ok (.isub, 1) := by decide +kernel
theorem dX0_trim_27 : decode cX0_trim 27 = .ok (.iaload, 1) := by decide +kernel
theorem dX0_trim_28 : decode cX0_trim 28 = .ok (.ifCond .ne 16, 3) := by decide +kernel
theorem dX0_trim_31 : decode cX0_trim 31 = .ok (.aload_n 0, 1) := by decide +kernel
theorem dX0_trim_32 : decode cX0_trim 32 = .ok (.dup, 1) := by decide +kernel
theorem dX0_trim_33 : decode cX0_trim 33 = .ok (.getfield 31, 3) := by decide +kernel
theorem dX0_trim_36 : decode cX0_trim 36 = .ok (.iconst 1, 1) := by decide +kernel
theorem dX0_trim_37 : decode cX0_trim 37 = .ok (.isub, 1) := by decide +kernel
theorem dX0_trim_38 : decode cX0_trim 38 = .ok (.putfield 31, 3) := by decide +kernel
theorem dX0_trim_41 : decode cX0_trim 41 = .ok (.goto (-31), 3) := by decide +kernel
theorem dX0_trim_44 : decode cX0_trim 44 = .ok (.return_, 1) := by decide +kernel
theorem wC_55 : ((Jvm.Cond.methodLink "Queueward$Big" (35 : Nat) ({ cls := "java/lang/Math", name := "min", desc := "(II)I" } : Jvm.MethodName)) : Cond) ∈ LW := LW_mem (lw_in1 _ (List.mem_of_getElem? (i := 79) (by decide +kernel))) rfl
theorem wC_56 : ((Jvm.Cond.static ({ cls := "java/lang/Math", name := "min", desc := "(II)I" } : Jvm.MethodName)) : Cond) ∈ LW := LW_mem (lw_in1 _ (List.mem_of_getElem? (i := 80) (by decide +kernel))) rfl
theorem wC_57 : ((Jvm.Cond.initialized "java/lang/Math") : Cond) ∈ LW := LW_mem (lw_in1 _ (List.mem_of_getElem? (i := 5) (by decide +kernel))) rfl
theorem wC_58 : ((Jvm.Cond.code ({ cls := "java/lang/Math", name := "min", desc := "(II)I" } : Jvm.MethodName) prog_29_method_69_code (2 : Nat) (Option.some Jvm.ClassFile.FieldType.int)) : Cond) ∈ LW := LW_mem (lw_in1 _ (List.mem_of_getElem? (i := 81) (by decide +kernel))) rfl
theorem wC_59 : ((Jvm.Cond.fieldLink "Queueward$Big" (31 : Nat) "Queueward$Big" "size" "I") : Cond) ∈ LW := LW_mem (lw_in1 _ (List.mem_of_getElem? (i := 59) (by decide +kernel))) rfl
set_option maxHeartbeats 40000000 in
set_option maxRecDepth 100000 in
theorem k_trim1 {l : Launch} {D : va_G} {cA : Nat → ClassId} {B N i a : Nat} {g : Nat → va_E} {z : Int32} {f : Nat → Int32} (hi : i < N) (ha0 : a < N) (hia : a ≠ i) (he : g i = .inr (0, [.ref (B + a), .int z])) (ha : g a = .inl (cA 1, (20, .inl f))) (h0 : f 0 = 1) (h1 : f 1 = 0) (h2 : f 2 = 0) : Met l yX0_trim (wMt yX0_trim cX0_trim 2 none) ({ frames := 1, cells := 0, slots := 0, locals := 30 }) (va_Pc [.ref (B + i), .int 3] (fun U => EH D B N g U.heap ∧ wCon cA D U)) (va_Qv (fun g1 : Nat → va_E => (∀ k, k < N → k ≠ i → g1 k = g k) ∧ g1 i = .inr (0, [.ref (B + a), .int 1])) (fun g1 t => EH D B N g1 t.heap) (Al B)) 0 0 (Al B) := by
  refine Met.ofW (cc := cX0_trim) (maxL := 2) (ret := none) (by decide) rfl ?_
  intro p e s m args below meth c s₁ B9 hml hv
  obtain ⟨rfl, hE, hCon⟩ := hv
  have hx := B9.exec
  have hb := B9.bytes
  have hr := B9.returns
  have hts0 := atoms_spec (ws := wMt yX0_trim cX0_trim 2 none) B9.pre
  have hts : ∀ w ∈ LW, w.before _ s = true := fun w hw => hts0 w (List.mem_cons_of_mem _ hw)
  have hown : s.vm.findClass RX0 = some m.cls := findClass_of_methodNamed B9.named
  have hlocks := B9.notSynchronized
  have hK := hCon.1
  have hS : va_S (Al B) s.heap s.heap [] := va_S.rf
  have hl := lv_entry ([.ref (B + i), .int 3]) (n := 2) (Nat.le_of_ble_eq_true rfl)
  rw [lg_entry_eq]
  generalize (lg_sl ([.ref (B + i), .int 3]) ++ List.replicate (2 - (lg_sl ([.ref (B + i), .int 3])).length) Slot.unset).toArray = ls at hl ⊢
  have hl : lv_has ls 2 [(0, .ref (B + i)), (1, .int 3)] := hl
  refine lv_aload_n hx hb dX0_trim_0 rfl (lv_at hl 0 rfl) ?_
  refine lv_iload_n hx hb dX0_trim_1 rfl (lv_at hl 1 rfl) ?_
  refine lv_bipush (v := 20) hx hb dX0_trim_2 (by decide) ?_
  refine va_mmin hx hb (by rw [hml]; exact hl.1.symm) hown (hts _ wC_55) (hts _ wC_56) (hts _ wC_57) (hts _ wC_58) (Nat.le_of_ble_eq_true rfl) (Nat.le_of_ble_eq_true rfl) (Nat.le_of_ble_eq_true rfl) (Nat.le_of_ble_eq_true rfl) dX0_trim_4 ?_
  rw [if_neg (show ¬ ((20 : Int32) < 3) by decide)]
  refine eh_put (b := 0) (i := i) (k := 1) (fs := [.ref (B + a), .int z]) (v := .int 3) hx hb hts hown hK hE hS (by decide) (by omega) he (by decide) wC_59 (Or.inl rfl) rfl rfl (Nat.le_of_ble_eq_true rfl) dX0_trim_7 (fun H locs hE hS => ?_)
  have hE : EH D B N (gup g i (.inr (0, [.ref (B + a), .int 3]))) _ := hE
  refine lv_aload_n hx hb dX0_trim_10 rfl (lv_at hl 0 rfl) ?_
  refine eh_get (b := 0) (i := i) (k := 1) (fs := [.ref (B + a), .int 3]) (v := .int 3) hx hb hts hown hK hE (by decide) (by omega) gup_same (by decide) wC_59 rfl dX0_trim_11 ?_
  refine lv_if_le (tgt := 44) hx hb dX0_trim_14 (by decide) (fun h => absurd h (by decide)) (fun _ => ?_)
  refine lv_aload_n hx hb dX0_trim_17 rfl (lv_at hl 0 rfl) ?_
  refine eh_get (b := 0) (i := i) (k := 0) (fs := [.ref (B + a), .int 3]) (v := .ref (B + a)) hx hb hts hown hK hE (by decide) (by omega) gup_same (by decide) wC_4 rfl dX0_trim_18 ?_
  refine lv_aload_n hx hb dX0_trim_21 rfl (lv_at hl 0 rfl) ?_
  refine eh_get (b := 0) (i := i) (k := 1) (fs := [.ref (B + a), .int 3]) (v := .int 3) hx hb hts hown hK hE (by decide) (by omega) gup_same (by decide) wC_59 rfl dX0_trim_22 ?_
  refine lv_iconst (v := 1) hx hb dX0_trim_25 (by decide) ?_
  refine lv_isub hx hb dX0_trim_26 ?_
  rw [show ((3 : Int32) - 1) = 2 from by decide]
  refine eh_iald2 (i := a) (j := 2) (v := 0) (jn := 2) hx hb hK hE (by omega) ((gup_ne (by omega)).trans ha) (by decide) (by decide) (by decide) h2 dX0_trim_27 ?_
  refine lv_if_ne (tgt := 44) hx hb dX0_trim_28 (by decide) (fun h => absurd rfl h) (fun _ => ?_)
  refine lv_aload_n hx hb dX0_trim_31 rfl (lv_at hl 0 rfl) ?_
  refine lv_dup hx hb dX0_trim_32 rfl ?_
  refine eh_get (b := 0) (i := i) (k := 1) (fs := [.ref (B + a), .int 3]) (v := .int 3) hx hb hts hown hK hE (by decide) (by omega) gup_same (by decide) wC_59 rfl dX0_trim_33 ?_
  refine lv_iconst (v := 1) hx hb dX0_trim_36 (by decide) ?_
  refine lv_isub hx hb dX0_trim_37 ?_
  rw [show ((3 : Int32) - 1) = 2 from by decide]
  refine eh_put (b := 0) (i := i) (k := 1) (fs := [.ref (B + a), .int 3]) (v := .int 2) hx hb hts hown hK hE hS (by decide) (by omega) gup_same (by decide) wC_59 (Or.inl rfl) rfl rfl (Nat.le_of_ble_eq_true rfl) dX0_trim_38 (fun H locs hE hS => ?_)
  have hE : EH D B N (gup (gup g i (.inr (0, [.ref (B + a), .int 3]))) i (.inr (0, [.ref (B + a), .int 2]))) _ := hE
  refine lv_goto (tgt := 10) hx hb dX0_trim_41 (by decide) ?_
  refine lv_aload_n hx hb dX0_trim_10 rfl (lv_at hl 0 rfl) ?_
  refine eh_get (b := 0) (i := i) (k := 1) (fs := [.ref (B + a), .int 2]) (v := .int 2) hx hb hts hown hK hE (by decide) (by omega) gup_same (by decide) wC_59 rfl dX0_trim_11 ?_
  refine lv_if_le (tgt := 44) hx hb dX0_trim_14 (by decide) (fun h => absurd h (by decide)) (fun _ => ?_)
  refine lv_aload_n hx hb dX0_trim_17 rfl (lv_at hl 0 rfl) ?_
  refine eh_get (b := 0) (i := i) (k := 0) (fs := [.ref (B + a), .int 2]) (v := .ref (B + a)) hx hb hts hown hK hE (by decide) (by omega) gup_same (by decide) wC_4 rfl dX0_trim_18 ?_
  refine lv_aload_n hx hb dX0_trim_21 rfl (lv_at hl 0 rfl) ?_
  refine eh_get (b := 0) (i := i) (k := 1) (fs := [.ref (B + a), .int 2]) (v := .int 2) hx hb hts hown hK hE (by decide) (by omega) gup_same (by decide) wC_59 rfl dX0_trim_22 ?_
  refine lv_iconst (v := 1) hx hb dX0_trim_25 (by decide) ?_
  refine lv_isub hx hb dX0_trim_26 ?_
  rw [show ((2 : Int32) - 1) = 1 from by decide]
  refine eh_iald2 (i := a) (j := 1) (v := 0) (jn := 1) hx hb hK hE (by omega) ((gup_ne (by omega)).trans ((gup_ne (by omega)).trans ha)) (by decide) (by decide) (by decide) h1 dX0_trim_27 ?_
  refine lv_if_ne (tgt := 44) hx hb dX0_trim_28 (by decide) (fun h => absurd rfl h) (fun _ => ?_)
  refine lv_aload_n hx hb dX0_trim_31 rfl (lv_at hl 0 rfl) ?_
  refine lv_dup hx hb dX0_trim_32 rfl ?_
  refine eh_get (b := 0) (i := i) (k := 1) (fs := [.ref (B + a), .int 2]) (v := .int 2) hx hb hts hown hK hE (by decide) (by omega) gup_same (by decide) wC_59 rfl dX0_trim_33 ?_
  refine lv_iconst (v := 1) hx hb dX0_trim_36 (by decide) ?_
  refine lv_isub hx hb dX0_trim_37 ?_
  rw [show ((2 : Int32) - 1) = 1 from by decide]
  refine eh_put (b := 0) (i := i) (k := 1) (fs := [.ref (B + a), .int 2]) (v := .int 1) hx hb hts hown hK hE hS (by decide) (by omega) gup_same (by decide) wC_59 (Or.inl rfl) rfl rfl (Nat.le_of_ble_eq_true rfl) dX0_trim_38 (fun H locs hE hS => ?_)
  have hE : EH D B N (gup (gup (gup g i (.inr (0, [.ref (B + a), .int 3]))) i (.inr (0, [.ref (B + a), .int 2]))) i (.inr (0, [.ref (B + a), .int 1]))) _ := hE
  refine lv_goto (tgt := 10) hx hb dX0_trim_41 (by decide) ?_
  refine lv_aload_n hx hb dX0_trim_10 rfl (lv_at hl 0 rfl) ?_
  refine eh_get (b := 0) (i := i) (k := 1) (fs := [.ref (B + a), .int 1]) (v := .int 1) hx hb hts hown hK hE (by decide) (by omega) gup_same (by decide) wC_59 rfl dX0_trim_11 ?_
  refine lv_if_le (tgt := 44) hx hb dX0_trim_14 (by decide) (fun h => absurd h (by decide)) (fun _ => ?_)
  refine lv_aload_n hx hb dX0_trim_17 rfl (lv_at hl 0 rfl) ?_
  refine eh_get (b := 0) (i := i) (k := 0) (fs := [.ref (B + a), .int 1]) (v := .ref (B + a)) hx hb hts hown hK hE (by decide) (by omega) gup_same (by decide) wC_4 rfl dX0_trim_18 ?_
  refine lv_aload_n hx hb dX0_trim_21 rfl (lv_at hl 0 rfl) ?_
  refine eh_get (b := 0) (i := i) (k := 1) (fs := [.ref (B + a), .int 1]) (v := .int 1) hx hb hts hown hK hE (by decide) (by omega) gup_same (by decide) wC_59 rfl dX0_trim_22 ?_
  refine lv_iconst (v := 1) hx hb dX0_trim_25 (by decide) ?_
  refine lv_isub hx hb dX0_trim_26 ?_
  rw [show ((1 : Int32) - 1) = 0 from by decide]
  refine eh_iald2 (i := a) (j := 0) (v := 1) (jn := 0) hx hb hK hE (by omega) ((gup_ne (by omega)).trans ((gup_ne (by omega)).trans ((gup_ne (by omega)).trans ha))) (by decide) (by decide) (by decide) h0 dX0_trim_27 ?_
  refine lv_if_ne (tgt := 44) hx hb dX0_trim_28 (by decide) (fun _ => ?_) (fun h => absurd h (by decide))
  exact W.vret hx hb hr (fun t ht hW => ⟨⟨(gup (gup (gup g i (.inr (0, [.ref (B + a), .int 3]))) i (.inr (0, [.ref (B + a), .int 2]))) i (.inr (0, [.ref (B + a), .int 1]))), rfl, ⟨fun k hk hki => ((gup_ne (by omega)).trans ((gup_ne (by omega)).trans (gup_ne (by omega)))), gup_same⟩, hE.moved ht⟩, hS.F ht⟩) hS.2.2 dX0_trim_44
theorem dX0_setLong_0 : decode cX0_setLong 0 = .ok (.aload_n 0, 1) := by decide +kernel
theorem dX0_setLong_1 : decode cX0_setLong 1 = .ok (.getfield 9, 3) := by decide +kernel
theorem dX0_setLong_4 : decode cX0_setLong 4 = .ok (.iconst 0, 1) := by decide +kernel
theorem dX0_setLong_5 : decode cX0_setLong 5 = .ok (.invokestatic 13, 3) := by decide +kernel
theorem dX0_setLong_8 : decode cX0_setLong 8 = .ok (.aload_n 0, 1) := by decide +kernel
theorem dX0_setLong_9 : decode cX0_setLong 9 = .ok (.getfield 9, 3) := by decide +kernel
theorem dX0_setLong_12 : decode cX0_setLong 12 = .ok (.iconst 0, 1) := by decide +kernel
theorem dX0_setLong_13 : decode cX0_setLong 13 = .ok (.lload_n 1, 1) := by decide +kernel
theorem dX0_setLong_14 : decode cX0_setLong 14 = .ok (.ldc2_w 19, 3) := by decide +kernel
theorem dX0_setLong_17 : decode cX0_setLong 17 = .ok (.lrem, 1) := by decide +kernel
theorem dX0_setLong_18 : decode cX0_setLong 18 = .ok (.l2i, 1) := by decide +kernel
theorem dX0_setLong_19 : decode cX0_setLong 19 = .ok (.iastore, 1) := by decide +kernel
theorem dX0_setLong_20 : decode cX0_setLong 20 = .ok (.aload_n 0, 1) := by decide +kernel
theorem dX0_setLong_21 : decode cX0_setLong 21 = .ok (.getfield 9, 3) := by decide +kernel
theorem dX0_setLong_24 : decode cX0_setLong 24 = .ok (.iconst 1, 1) := by decide +kernel
theorem dX0_setLong_25 : decode cX0_setLong 25 = .ok (.lload_n 1, 1) := by decide +kernel
theorem dX0_setLong_26 : decode cX0_setLong 26 = .ok (.ldc2_w 19, 3) := by decide +kernel
theorem dX0_setLong_29 : decode cX0_setLong 29 = .ok (.ldiv, 1) := by decide +kernel
theorem dX0_setLong_30 : decode cX0_setLong 30 = .ok (.ldc2_w 19, 3) := by decide +kernel
theorem dX0_setLong_33 : decode cX0_setLong 33 = .ok (.lrem, 1) := by decide +kernel
theorem dX0_setLong_34 : decode cX0_setLong 34 = .ok (.l2i, 1) := by decide +kernel
theorem dX0_setLong_35 : decode cX0_setLong 35 = .ok (.iastore, 1) := by decide +kernel
theorem dX0_setLong_36 : decode cX0_setLong 36 = .ok (.aload_n 0, 1) := by decide +kernel
theorem dX0_setLong_37 : decode cX0_setLong 37 = .ok (.getfield 9, 3) := by decide +kernel
theorem dX0_setLong_40 : decode cX0_setLong 40 = .ok (.iconst 2, 1) := by decide +kernel
theorem dX0_setLong_41 : decode cX0_setLong 41 = .ok (.lload_n 1, 1) := by decide +kernel
theorem dX0_setLong_42 : decode cX0_setLong 42 = .ok (.ldc2_w 19, 3) := by decide +kernel
theorem dX0_setLong_45 : decode cX0_setLong 45 = .ok (.ldiv, 1) := by decide +kernel
theorem dX0_setLong_46 : decode cX0_setLong 46 = .ok (.ldc2_w 19, 3) := by decide +kernel
theorem dX0_setLong_49 : decode cX0_setLong 49 = .ok (.ldiv, 1) := by decide +kernel
theorem dX0_setLong_50 : decode cX0_setLong 50 = .ok (.l2i, 1) := by decide +kernel
theorem dX0_setLong_51 : decode cX0_setLong 51 = .ok (.iastore, 1) := by decide +kernel
theorem dX0_setLong_52 : decode cX0_setLong 52 = .ok (.aload_n 0, 1) := by decide +kernel
theorem dX0_setLong_53 : decode cX0_setLong 53 = .ok (.iconst 3, 1) := by decide +kernel
theorem dX0_setLong_54 : decode cX0_setLong 54 = .ok (.invokevirtual 21, 3) := by decide +kernel
theorem dX0_setLong_57 : decode cX0_setLong 57 = .ok (.return_, 1) := by decide +kernel
theorem wC_60 : ((Jvm.Cond.code ({ cls := "java/util/Arrays", name := "fill", desc := "([II)V" } : Jvm.MethodName) prog_40_method_103_code (4 : Nat) (Option.none : Option Jvm.ClassFile.FieldType)) : Cond) ∈ LW := LW_mem (lw_in1 _ (List.mem_of_getElem? (i := 73) (by decide +kernel))) rfl
theorem wC_61 : ((Jvm.Cond.methodLink "Queueward$Big" (13 : Nat) ({ cls := "java/util/Arrays", name := "fill", desc := "([II)V" } : Jvm.MethodName)) : Cond) ∈ LW := LW_mem (lw_in1 _ (List.mem_of_getElem? (i := 71) (by decide +kernel))) rfl
theorem wC_62 : ((Jvm.Cond.static ({ cls := "java/util/Arrays", name := "fill", desc := "([II)V" } : Jvm.MethodName)) : Cond) ∈ LW := LW_mem (lw_in1 _ (List.mem_of_getElem? (i := 72) (by decide +kernel))) rfl
theorem wC_63 : ((Jvm.Cond.initialized "java/util/Arrays") : Cond) ∈ LW := LW_mem (lw_in1 _ (List.mem_of_getElem? (i := 4) (by decide +kernel))) rfl
theorem wC_64 : ((Jvm.Cond.constantLong "Queueward$Big" (19 : Nat) (1000000000 : Int64)) : Cond) ∈ LW := LW_mem (lw_in1 _ (List.mem_of_getElem? (i := 74) (by decide +kernel))) rfl
theorem wC_65 : ((Jvm.Cond.code ({ cls := "Queueward$Big", name := "trim", desc := "(I)V" } : Jvm.MethodName) prog_2_method_4_code (2 : Nat) (Option.none : Option Jvm.ClassFile.FieldType)) : Cond) ∈ LW := LW_mem (lw_in1 _ (List.mem_of_getElem? (i := 78) (by decide +kernel))) rfl
theorem wC_66 : ((Jvm.Cond.methodLink "Queueward$Big" (21 : Nat) ({ cls := "Queueward$Big", name := "trim", desc := "(I)V" } : Jvm.MethodName)) : Cond) ∈ LW := LW_mem (lw_in1 _ (List.mem_of_getElem? (i := 75) (by decide +kernel))) rfl
theorem wC_67 : ((Jvm.Cond.instanceMethod ({ cls := "Queueward$Big", name := "trim", desc := "(I)V" } : Jvm.MethodName)) : Cond) ∈ LW := LW_mem (lw_in1 _ (List.mem_of_getElem? (i := 77) (by decide +kernel))) rfl
theorem wC_68 : (.selects "Queueward$Big" ⟨"Queueward$Big", "trim", "(I)V"⟩ ⟨"Queueward$Big", "trim", "(I)V"⟩ : Cond) ∈ LW := LW_mem (lw_inP (List.mem_of_getElem? (i := 0) (by decide +kernel))) rfl
theorem one_eq : ((upd (upd (upd (fun j => if j < 20 then 0 else (fun _ => 0) j) 0 1) 1 0) 2 0) : Nat → Int32) = fun j => if j = 0 then 1 else 0 := by
  funext j
  unfold upd
  by_cases h2 : j = 2
  · subst h2; rfl
  · by_cases h1 : j = 1
    · subst h1; rfl
    · by_cases h0 : j = 0
      · subst h0; rfl
      · rw [if_neg h2, if_neg h1, if_neg h0, if_neg h0]
        show (if j < 20 then (0 : Int32) else 0) = 0
        split <;> rfl
set_option maxHeartbeats 40000000 in
set_option maxRecDepth 100000 in
theorem k_setLong1 {l : Launch} {D : va_G} {cA : Nat → ClassId} {B N i a : Nat} {g : Nat → va_E} {z : Int32} (hi : i < N) (ha0 : a < N) (hia : a ≠ i) (he : g i = .inr (0, [.ref (B + a), .int z])) (ha : g a = .inl (cA 1, (20, .inl (fun _ => 0)))) : Met l yX0_setLong (wMt yX0_setLong cX0_setLong 3 none) ({ frames := 2, cells := 0, slots := 0, locals := 51 }) (va_Pc [.ref (B + i), .long 1] (fun U => EH D B N g U.heap ∧ wCon cA D U)) (va_Qv (fun g1 : Nat → va_E => (∀ k, k < N → k ≠ i → k ≠ a → g1 k = g k) ∧ g1 i = .inr (0, [.ref (B + a), .int 1]) ∧ g1 a = .inl (cA 1, (20, .inl (fun j => if j = 0 then 1 else 0)))) (fun g1 t => EH D B N g1 t.heap) (Al B)) 0 0 (Al B) := by
  refine Met.ofW (cc := cX0_setLong) (maxL := 3) (ret := none) (by decide) rfl ?_
  intro p e s m args below meth c s₁ B9 hml hv
  obtain ⟨rfl, hE, hCon⟩ := hv
  have hx := B9.exec
  have hb := B9.bytes
  have hr := B9.returns
  have hts0 := atoms_spec (ws := wMt yX0_setLong cX0_setLong 3 none) B9.pre
  have hts : ∀ w ∈ LW, w.before _ s = true := fun w hw => hts0 w (List.mem_cons_of_mem _ hw)
  have hown : s.vm.findClass RX0 = some m.cls := findClass_of_methodNamed B9.named
  have hlocks := B9.notSynchronized
  have hK := hCon.1
  have hS : va_S (Al B) s.heap s.heap [] := va_S.rf
  have hl := lv_entry ([.ref (B + i), .long 1]) (n := 3) (Nat.le_of_ble_eq_true rfl)
  rw [lg_entry_eq]
  generalize (lg_sl ([.ref (B + i), .long 1]) ++ List.replicate (3 - (lg_sl ([.ref (B + i), .long 1])).length) Slot.unset).toArray = ls at hl ⊢
  have hl : lv_has ls 3 [(0, .ref (B + i)), (1, .long 1)] := hl
  refine lv_aload_n hx hb dX0_setLong_0 rfl (lv_at hl 0 rfl) ?_
  refine eh_get (b := 0) (i := i) (k := 0) (fs := [.ref (B + a), .int z]) (v := .ref (B + a)) hx hb hts hown hK hE (by decide) (by omega) he (by decide) wC_4 rfl dX0_setLong_1 ?_
  refine lv_iconst (v := 0) hx hb dX0_setLong_4 (by decide) ?_
  refine va_callv (va_runS (As := [.ref (B + a), .int 0]) (rest := []) ⟨hx, hb, hml, hown, hts⟩ (k_fill (l := l) (D := D) (cA := cA) (B := B) (N := N) (i := a) (n := 20) (g := g) (f := (fun _ => 0)) (v := 0) (by decide) (by omega) ha) (va_cwS 2 hts (wsT_good wC_61 wC_62 wC_63 wC_60) rfl rfl rfl (by decide +kernel) ⟨Nat.le_of_ble_eq_true rfl, Nat.le_of_ble_eq_true rfl⟩) ⟨fun a U g mk q => by obtain ⟨q0, q1, q2⟩ := q; exact ⟨q0, q1, q2.warm (s := U) (U := U.calling g mk a) (State.WarmedH.refl U)⟩, fun U hU hW => ⟨rfl, by rw [hU]; exact hE, hCon.warm hW⟩⟩ rfl rfl hl.1 rfl (lv_room (Nat.le_of_ble_eq_true rfl)) dX0_setLong_5 ⟨Nat.le_of_ble_eq_true rfl, Nat.le_of_ble_eq_true rfl⟩) hS (fun q _ h => h) (fun q h => h) (fun g1 tt H locs ht hvm hw hB hz1 hk1 hS => ?_)
  obtain ⟨a1_0, a1_1⟩ := hw
  have hE := EH.moved hB ht.symm
  refine lv_aload_n hx hb dX0_setLong_8 rfl (lv_at hl 0 rfl) ?_
  refine eh_get (b := 0) (i := i) (k := 0) (fs := [.ref (B + a), .int z]) (v := .ref (B + a)) hx hb hts hown hK hE (by decide) (by omega) ((a1_0 _ (by omega) (by omega)).trans he) (by decide) wC_4 rfl dX0_setLong_9 ?_
  refine lv_iconst (v := 0) hx hb dX0_setLong_12 (by decide) ?_
  refine lv_lload_n hx hb dX0_setLong_13 rfl (lv_at hl 1 rfl) ?_
  refine lv_ldc2 hx hb hown (hts _ wC_64) dX0_setLong_14 ?_
  refine lv_lrem hx hb dX0_setLong_17 (by decide) ?_
  rw [show ((1 : Int64) - 1 / 1000000000 * 1000000000 : Int64) = 1 from by decide]
  refine lv_l2i (v := 1) hx hb dX0_setLong_18 (by decide) ?_
  refine eh_iast2 (i := a) (j := 0) (x := 1) (jn := 0) hx hb hK hE hS (by omega) a1_1 (by decide) (by decide) (by decide) dX0_setLong_19 (fun H locs hE hS => ?_)
  have hE : EH D B N (gup g1 a (.inl (cA 1, (20, .inl (upd (fun j => if j < 20 then 0 else (fun _ => 0) j) 0 1))))) _ := hE
  refine lv_aload_n hx hb dX0_setLong_20 rfl (lv_at hl 0 rfl) ?_
  refine eh_get (b := 0) (i := i) (k := 0) (fs := [.ref (B + a), .int z]) (v := .ref (B + a)) hx hb hts hown hK hE (by decide) (by omega) ((gup_ne (by omega)).trans ((a1_0 _ (by omega) (by omega)).trans he)) (by decide) wC_4 rfl dX0_setLong_21 ?_
  refine lv_iconst (v := 1) hx hb dX0_setLong_24 (by decide) ?_
  refine lv_lload_n hx hb dX0_setLong_25 rfl (lv_at hl 1 rfl) ?_
  refine lv_ldc2 hx hb hown (hts _ wC_64) dX0_setLong_26 ?_
  refine lv_ldiv hx hb dX0_setLong_29 (by decide) ?_
  rw [show ((1 : Int64) / 1000000000 : Int64) = 0 from by decide]
  refine lv_ldc2 hx hb hown (hts _ wC_64) dX0_setLong_30 ?_
  refine lv_lrem hx hb dX0_setLong_33 (by decide) ?_
  rw [show ((0 : Int64) - 0 / 1000000000 * 1000000000 : Int64) = 0 from by decide]
  refine lv_l2i (v := 0) hx hb dX0_setLong_34 (by decide) ?_
  refine eh_iast2 (i := a) (j := 1) (x := 0) (jn := 1) hx hb hK hE hS (by omega) gup_same (by decide) (by decide) (by decide) dX0_setLong_35 (fun H locs hE hS => ?_)
  have hE : EH D B N (gup (gup g1 a (.inl (cA 1, (20, .inl (upd (fun j => if j < 20 then 0 else (fun _ => 0) j) 0 1))))) a (.inl (cA 1, (20, .inl (upd (upd (fun j => if j < 20 then 0 else (fun _ => 0) j) 0 1) 1 0))))) _ := hE
  refine lv_aload_n hx hb dX0_setLong_36 rfl (lv_at hl 0 rfl) ?_
  refine eh_get (b := 0) (i := i) (k := 0) (fs := [.ref (B + a), .int z]) (v := .ref (B + a)) hx hb hts hown hK hE (by decide) (by omega) ((gup_ne (by omega)).trans ((gup_ne (by omega)).trans ((a1_0 _ (by omega) (by omega)).trans he))) (by decide) wC_4 rfl dX0_setLong_37 ?_
  refine lv_iconst (v := 2) hx hb dX0_setLong_40 (by decide) ?_
  refine lv_lload_n hx hb dX0_setLong_41 rfl (lv_at hl 1 rfl) ?_
  refine lv_ldc2 hx hb hown (hts _ wC_64) dX0_setLong_42 ?_
  refine lv_ldiv hx hb dX0_setLong_45 (by decide) ?_
  rw [show ((1 : Int64) / 1000000000 : Int64) = 0 from by decide]
  refine lv_ldc2 hx hb hown (hts _ wC_64) dX0_setLong_46 ?_
  refine lv_ldiv hx hb dX0_setLong_49 (by decide) ?_
  rw [show ((0 : Int64) / 1000000000 : Int64) = 0 from by decide]
  refine lv_l2i (v := 0) hx hb dX0_setLong_50 (by decide) ?_
  refine eh_iast2 (i := a) (j := 2) (x := 0) (jn := 2) hx hb hK hE hS (by omega) gup_same (by decide) (by decide) (by decide) dX0_setLong_51 (fun H locs hE hS => ?_)
  have hE : EH D B N (gup (gup (gup g1 a (.inl (cA 1, (20, .inl (upd (fun j => if j < 20 then 0 else (fun _ => 0) j) 0 1))))) a (.inl (cA 1, (20, .inl (upd (upd (fun j => if j < 20 then 0 else (fun _ => 0) j) 0 1) 1 0))))) a (.inl (cA 1, (20, .inl (upd (upd (upd (fun j => if j < 20 then 0 else (fun _ => 0) j) 0 1) 1 0) 2 0))))) _ := hE
  refine lv_aload_n hx hb dX0_setLong_52 rfl (lv_at hl 0 rfl) ?_
  refine lv_iconst (v := 3) hx hb dX0_setLong_53 (by decide) ?_
  refine va_callv (va_runV (As := [.int 3]) (rest := []) ⟨hx, hb, hml, hown, hts⟩ (k_trim1 (l := l) (D := D) (cA := cA) (B := B) (N := N) (i := i) (a := a) (g := (gup (gup (gup g1 a (.inl (cA 1, (20, .inl (upd (fun j => if j < 20 then 0 else (fun _ => 0) j) 0 1))))) a (.inl (cA 1, (20, .inl (upd (upd (fun j => if j < 20 then 0 else (fun _ => 0) j) 0 1) 1 0))))) a (.inl (cA 1, (20, .inl (upd (upd (upd (fun j => if j < 20 then 0 else (fun _ => 0) j) 0 1) 1 0) 2 0)))))) (z := z) (by omega) (by omega) (by omega) ((gup_ne (by omega)).trans ((gup_ne (by omega)).trans ((gup_ne (by omega)).trans ((a1_0 _ (by omega) (by omega)).trans he)))) gup_same rfl rfl rfl) (cwV 1 hts (wsV_good wC_66 wC_67 wC_68 wC_36 wC_65) rfl rfl rfl (by decide +kernel) ⟨Nat.le_of_ble_eq_true rfl, Nat.le_of_ble_eq_true rfl⟩) ⟨fun a U g mk q => by obtain ⟨q0, q1, q2⟩ := q; exact ⟨q0, q1, q2.warm (s := U) (U := U.calling g mk a) (State.WarmedH.refl U)⟩, va_recv (q := (clR 0, gT 0, gN 0)) hK (at_one (hE.at' (by omega) ((gup_ne (by omega)).trans ((gup_ne (by omega)).trans ((gup_ne (by omega)).trans ((a1_0 _ (by omega) (by omega)).trans he)))))) (gCl_at 0 (by decide)) (q0 := 0) rfl, fun U hU hW => ⟨rfl, by rw [hU]; exact hE, hCon.warm hW⟩⟩ rfl rfl hl.1 rfl (lv_room (Nat.le_of_ble_eq_true rfl)) dX0_setLong_54 ⟨Nat.le_of_ble_eq_true rfl, Nat.le_of_ble_eq_true rfl⟩) hS (fun q _ h => h) (fun q h => h) (fun g2 tt H locs ht hvm hw hB hz1 hk1 hS => ?_)
  obtain ⟨a2_0, a2_1⟩ := hw
  have hE := EH.moved hB ht.symm
  exact W.vret hx hb hr (fun t ht hW => ⟨⟨g2, rfl, ⟨fun k hk hki hka => ((a2_0 _ (by omega) (by omega)).trans ((gup_ne (by omega)).trans ((gup_ne (by omega)).trans ((gup_ne (by omega)).trans (a1_0 _ (by omega) (by omega)))))), a2_1, ((a2_0 _ (by omega) (by omega)).trans gup_same).trans (congrArg (fun q : Nat → Int32 => (.inl (cA 1, (20, .inl q)) : va_E)) one_eq)⟩, hE.moved ht⟩, hS.F ht⟩) hS.2.2 dX0_setLong_57
