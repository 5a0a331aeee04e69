/-! Constructors. -/
/-- what the constructors read of the tables -/
def wCon (cA : Nat → ClassId) (D : va_G) (U : State) : Prop := va_K D gCl (tysL cA) U ∧ (∀ (own : String) (k : Nat) (y : MethodName) (h : String), Cond.methodLinkNest own k y h ∈ lw_tbl → va_Nw (.methodLinkNest own k y h) U) ∧ va_AO RX0 U ∧ AOA .int U ∧ AOA .long U
theorem wCon.warm {cA : Nat → ClassId} {D : va_G} {s U : State} (hW : s.WarmedH U.vm) (h : wCon cA D s) : wCon cA D U := ⟨h.1.moved hW.alike, fun own k y x hm => (h.2.1 own k y x hm).warmM hW, h.2.2.1.moved hW.alike, h.2.2.2.1.moved hW.alike, h.2.2.2.2.moved hW.alike⟩
theorem dflt0 : ∀ j, j < gN 0 → defaultValue (gTy 0 j) = vp_V [.null, .int 0] j
  | 0, _ => rfl
  | 1, _ => rfl
  | n + 2, h => absurd h (by show ¬ n + 2 < 2; omega)
theorem dflt1 : ∀ j, j < gN 1 → defaultValue (gTy 1 j) = vp_V [.int 0, .int 0, .null, .null, .null, .null, .null, .null, .null] j
  | 0, _ => rfl
  | 1, _ => rfl
  | 2, _ => rfl
  | 3, _ => rfl
  | 4, _ => rfl
  | 5, _ => rfl
  | 6, _ => rfl
  | 7, _ => rfl
  | 8, _ => rfl
  | n + 9, h => absurd h (by show ¬ n + 9 < 9; omega)
theorem dflt2 : ∀ j, j < gN 2 → defaultValue (gTy 2 j) = vp_V [.int 0, .int 0, .int 0, .int 0, .int 0, .int 0, .int 0] j
  | 0, _ => rfl
  | 1, _ => rfl
  | 2, _ => rfl
  | 3, _ => rfl
  | 4, _ => rfl
  | 5, _ => rfl
  | 6, _ => rfl
  | n + 7, h => absurd h (by show ¬ n + 7 < 7; omega)
theorem dflt3 : ∀ j, j < gN 3 → defaultValue (gTy 3 j) = vp_V [.null, .null, .null, .null, .null] j
  | 0, _ => rfl
  | 1, _ => rfl
  | 2, _ => rfl
  | 3, _ => rfl
  | 4, _ => rfl
  | n + 5, h => absurd h (by show ¬ n + 5 < 5; omega)
theorem dflt4 : ∀ j, j < gN 4 → defaultValue (gTy 4 j) = vp_V [.null, .null, .null] j
  | 0, _ => rfl
  | 1, _ => rfl
  | 2, _ => rfl
  | n + 3, h => absurd h (by show ¬ n + 3 < 3; omega)
theorem dflt5 : ∀ j, j < gN 5 → defaultValue (gTy 5 j) = vp_V [.int 0, .null, .int 0, .int 0, .null, .null] j
  | 0, _ => rfl
  | 1, _ => rfl
  | 2, _ => rfl
  | 3, _ => rfl
  | 4, _ => rfl
  | 5, _ => rfl
  | n + 6, h => absurd h (by show ¬ n + 6 < 6; omega)
theorem dflt6 : ∀ j, j < gN 6 → defaultValue (gTy 6 j) = vp_V [.null, .null, .null, .null, .long 0, .long 0] j
  | 0, _ => rfl
  | 1, _ => rfl
  | 2, _ => rfl
  | 3, _ => rfl
  | 4, _ => rfl
  | 5, _ => rfl
  | n + 6, h => absurd h (by show ¬ n + 6 < 6; omega)
theorem dflt7 : ∀ j, j < gN 7 → defaultValue (gTy 7 j) = vp_V [.int 0, .null, .null, .null, .null, .null, .null, .long 0, .null, .null, .null, .null] j
  | 0, _ => rfl
  | 1, _ => rfl
  | 2, _ => rfl
  | 3, _ => rfl
  | 4, _ => rfl
  | 5, _ => rfl
  | 6, _ => rfl
  | 7, _ => rfl
  | 8, _ => rfl
  | 9, _ => rfl
  | 10, _ => rfl
  | 11, _ => rfl
  | n + 12, h => absurd h (by show ¬ n + 12 < 12; omega)
theorem dflt8 : ∀ j, j < gN 8 → defaultValue (gTy 8 j) = vp_V [.int 0, .int 0, .int 0, .int 0, .int 0, .null, .null, .null, .null, .null, .null, .null, .int 0, .null, .int 0, .int 0, .int 0] j
  | 0, _ => rfl
  | 1, _ => rfl
  | 2, _ => rfl
  | 3, _ => rfl
  | 4, _ => rfl
  | 5, _ => rfl
  | 6, _ => rfl
  | 7, _ => rfl
  | 8, _ => rfl
  | 9, _ => rfl
  | 10, _ => rfl
  | 11, _ => rfl
  | 12, _ => rfl
  | 13, _ => rfl
  | 14, _ => rfl
  | 15, _ => rfl
  | 16, _ => rfl
  | n + 17, h => absurd h (by show ¬ n + 17 < 17; omega)
theorem dflt9 : ∀ j, j < gN 9 → defaultValue (gTy 9 j) = vp_V [.null, .null] j
  | 0, _ => rfl
  | 1, _ => rfl
  | n + 2, h => absurd h (by show ¬ n + 2 < 2; omega)
theorem dflt10 : ∀ j, j < gN 10 → defaultValue (gTy 10 j) = vp_V [.null, .int 0, .int 0, .null] j
  | 0, _ => rfl
  | 1, _ => rfl
  | 2, _ => rfl
  | 3, _ => rfl
  | n + 4, h => absurd h (by show ¬ n + 4 < 4; omega)
theorem dflt11 : ∀ j, j < gN 11 → defaultValue (gTy 11 j) = vp_V [.null, .null, .null, .null, .null, .null, .int 0, .int 0, .null, .null, .null, .null, .null] j
  | 0, _ => rfl
  | 1, _ => rfl
  | 2, _ => rfl
  | 3, _ => rfl
  | 4, _ => rfl
  | 5, _ => rfl
  | 6, _ => rfl
  | 7, _ => rfl
  | 8, _ => rfl
  | 9, _ => rfl
  | 10, _ => rfl
  | 11, _ => rfl
  | 12, _ => rfl
  | n + 13, h => absurd h (by show ¬ n + 13 < 13; omega)
theorem dX0_init_0 : decode cX0_init 0 = .ok (.aload_n 0, 1) := by decide +kernel
theorem dX0_init_1 : decode cX0_init 1 = .ok (.invokespecial 1, 3) := by decide +kernel
theorem dX0_init_4 : decode cX0_init 4 = .ok (.aload_n 0, 1) := by decide +kernel
theorem dX0_init_5 : decode cX0_init 5 = .ok (.bipush 20, 2) := by decide +kernel
theorem dX0_init_7 : decode cX0_init 7 = .ok (.newarray .int, 2) := by decide +kernel
theorem dX0_init_9 : decode cX0_init 9 = .ok (.putfield 9, 3) := by decide +kernel
theorem dX0_init_12 : decode cX0_init 12 = .ok (.return_, 1) := by decide +kernel
theorem wC_0 : ((Jvm.Cond.methodLink "Queueward$Big" (1 : Nat) ({ cls := "java/lang/Object", name := "<init>", desc := "()V" } : Jvm.MethodName)) : Cond) ∈ LW := LW_mem (lw_in1 _ (List.mem_of_getElem? (i := 57) (by decide +kernel))) rfl
theorem wC_1 : ((Jvm.Cond.instanceMethod ({ cls := "java/lang/Object", name := "<init>", desc := "()V" } : Jvm.MethodName)) : Cond) ∈ LW := LW_mem (lw_in1 _ (List.mem_of_getElem? (i := 44) (by decide +kernel))) rfl
theorem wC_2 : ((Jvm.Cond.code ({ cls := "java/lang/Object", name := "<init>", desc := "()V" } : Jvm.MethodName) object_method_1_code (1 : Nat) (Option.none : Option Jvm.ClassFile.FieldType)) : Cond) ∈ LW := LW_mem (lw_in1 _ (List.mem_of_getElem? (i := 45) (by decide +kernel))) rfl
theorem wC_3 : ((Jvm.Cond.arrayClass Jvm.ClassFile.FieldType.int) : Cond) ∈ LW := LW_mem (lw_in1 _ (List.mem_of_getElem? (i := 66) (by decide +kernel))) rfl
theorem wC_4 : ((Jvm.Cond.fieldLink "Queueward$Big" (9 : Nat) "Queueward$Big" "limbs" "[I") : Cond) ∈ LW := LW_mem (lw_in1 _ (List.mem_of_getElem? (i := 58) (by decide +kernel))) rfl
theorem wC_5 : ((Jvm.Cond.code ({ cls := "Queueward$Big", name := "<init>", desc := "()V" } : Jvm.MethodName) prog_2_method_1_code (1 : Nat) (Option.none : Option Jvm.ClassFile.FieldType)) : Cond) ∈ LW := LW_mem (lw_in1 _ (List.mem_of_getElem? (i := 56) (by decide +kernel))) rfl
set_option maxHeartbeats 4000000 in
set_option maxRecDepth 100000 in
theorem k_X0 {l : Launch} {D : va_G} {cA : Nat → ClassId} {B N i : Nat} {g : Nat → va_E} (hi : i < N) (he : g i = .inr (0, [.null, .int 0])) : Met l yX0_init (wMt yX0_init cX0_init 1 none) ({ frames := 1, cells := 1, slots := 20, locals := 12 }) (va_Pc [.ref (B + i)] (fun U => EH D B N g U.heap ∧ wCon cA D U)) (va_Qv (fun g1 : Nat → va_E => (∀ k, k < N → k ≠ i → g1 k = g k) ∧ g1 i = .inr (0, [.ref (B + N), .int 0]) ∧ g1 N = .inl (cA 1, (20, .inl (fun _ => 0)))) (fun g1 t => EH D B (N + 1) g1 t.heap) (Al B)) 1 20 (Al B) := by
  refine Met.ofW (cc := cX0_init) (maxL := 1) (ret := none) (by decide) rfl ?_
  intro p e s m args below meth c s₁ B9 hml hv
  obtain ⟨rfl, hE, hCon⟩ := hv
  have hx := B9.exec
  have hb := B9.bytes
  have hr := B9.returns
  have hts0 := atoms_spec (ws := wMt yX0_init cX0_init 1 none) B9.pre
  have hts : ∀ w ∈ LW, w.before _ s = true := fun w hw => hts0 w (List.mem_cons_of_mem _ hw)
  have hown : s.vm.findClass RX0 = some m.cls := findClass_of_methodNamed B9.named
  have hlocks := B9.notSynchronized
  have hin : meth.name = "<init>" := (name_of_methodNamed B9.named B9.method).1
  have hK := hCon.1
  have hS : va_S (Al B) s.heap s.heap [] := va_S.rf
  have hl := lv_entry ([.ref (B + i)]) (n := 1) (Nat.le_of_ble_eq_true rfl)
  rw [lg_entry_eq]
  generalize (lg_sl ([.ref (B + i)]) ++ List.replicate (1 - (lg_sl ([.ref (B + i)])).length) Slot.unset).toArray = ls at hl ⊢
  have hl : lv_has ls 1 [(0, .ref (B + i))] := hl
  refine lv_aload_n hx hb dX0_init_0 rfl (lv_at hl 0 rfl) ?_
  refine W.objInit hx hb hown (hts _ wC_0) (hts _ wC_1) (hts _ wC_2) rfl (by rw [hml]; exact hl.1) rfl dX0_init_1 (Nat.le_of_ble_eq_true rfl) (Nat.le_of_ble_eq_true rfl) ?_
  refine W.eq (g2 := F0 m 4 ls []) rfl ?_
  refine lv_aload_n hx hb dX0_init_4 rfl (lv_at hl 0 rfl) ?_
  refine lv_bipush (v := 20) hx hb dX0_init_5 (by decide) ?_
  refine eh_newa (atype := .int) (t0 := 0) (c1 := cA 1) (N' := 20) (a0 := (20, .inl (fun _ => 0))) hx hb hts hK hE hS wC_3 rfl (fun _ => rfl) (by decide) (by decide) (by decide) (Nat.le_of_ble_eq_true rfl) (Nat.le_of_ble_eq_true rfl) dX0_init_7 (fun H hE hS => ?_)
  refine eh_put (b := 0) (i := i) (k := 0) (fs := [.null, .int 0]) (v := .ref (B + N)) hx hb hts hown hK hE hS (by decide) (by omega) (by rw [gup_ne (by omega), he]) (by decide) wC_4 (Or.inr ⟨rfl, hin, rfl⟩) rfl rfl (Nat.le_of_ble_eq_true rfl) dX0_init_9 (fun H locs hE hS => ?_)
  exact W.vret hx hb hr (fun t ht hW => ⟨⟨_, rfl, ⟨(fun k hk hki => by rw [gup_ne (by omega), gup_ne (by omega)]), (by rw [gup_same] <;> rfl), (by rw [gup_ne (by omega), gup_same] <;> rfl)⟩, hE.moved ht⟩, hS.F ht⟩) hS.2.2 dX0_init_12
theorem dX10_init_0 : decode cX10_init 0 = .ok (.aload_n 0, 1) := by decide +kernel
theorem dX10_init_1 : decode cX10_init 1 = .ok (.invokespecial 5, 3) := by decide +kernel
theorem dX10_init_4 : decode cX10_init 4 = .ok (.aload_n 0, 1) := by decide +kernel
theorem dX10_init_5 : decode cX10_init 5 = .ok (.sipush 900, 3) := by decide +kernel
theorem dX10_init_8 : decode cX10_init 8 = .ok (.newarray .int, 2) := by decide +kernel
theorem dX10_init_10 : decode cX10_init 10 = .ok (.putfield 11, 3) := by decide +kernel
theorem dX10_init_13 : decode cX10_init 13 = .ok (.aload_n 0, 1) := by decide +kernel
theorem dX10_init_14 : decode cX10_init 14 = .ok (.sipush 360, 3) := by decide +kernel
theorem dX10_init_17 : decode cX10_init 17 = .ok (.newarray .int, 2) := by decide +kernel
theorem dX10_init_19 : decode cX10_init 19 = .ok (.putfield 17, 3) := by decide +kernel
theorem dX10_init_22 : decode cX10_init 22 = .ok (.return_, 1) := by decide +kernel
theorem wC_6 : ((Jvm.Cond.methodLink "Queueward$Tape" (5 : Nat) ({ cls := "java/lang/Object", name := "<init>", desc := "()V" } : Jvm.MethodName)) : Cond) ∈ LW := LW_mem (lw_in1 _ (List.mem_of_getElem? (i := 105) (by decide +kernel))) rfl
theorem wC_7 : ((Jvm.Cond.fieldLink "Queueward$Tape" (11 : Nat) "Queueward$Tape" "signs" "[I") : Cond) ∈ LW := LW_mem (lw_in1 _ (List.mem_of_getElem? (i := 106) (by decide +kernel))) rfl
theorem wC_8 : ((Jvm.Cond.fieldLink "Queueward$Tape" (17 : Nat) "Queueward$Tape" "numbersTold" "[I") : Cond) ∈ LW := LW_mem (lw_in1 _ (List.mem_of_getElem? (i := 112) (by decide +kernel))) rfl
theorem wC_9 : ((Jvm.Cond.code ({ cls := "Queueward$Tape", name := "<init>", desc := "()V" } : Jvm.MethodName) prog_12_method_1_code (1 : Nat) (Option.none : Option Jvm.ClassFile.FieldType)) : Cond) ∈ LW := LW_mem (lw_in1 _ (List.mem_of_getElem? (i := 104) (by decide +kernel))) rfl
set_option maxHeartbeats 4000000 in
set_option maxRecDepth 100000 in
theorem k_X10 {l : Launch} {D : va_G} {cA : Nat → ClassId} {B N i : Nat} {g : Nat → va_E} (hi : i < N) (he : g i = .inr (10, [.null, .int 0, .int 0, .null])) : Met l yX10_init (wMt yX10_init cX10_init 1 none) ({ frames := 1, cells := 2, slots := 1260, locals := 12 }) (va_Pc [.ref (B + i)] (fun U => EH D B N g U.heap ∧ wCon cA D U)) (va_Qv (fun g1 : Nat → va_E => (∀ k, k < N → k ≠ i → g1 k = g k) ∧ g1 i = .inr (10, [.ref (B + N), .int 0, .int 0, .ref (B + (N + 1))]) ∧ g1 N = .inl (cA 1, (900, .inl (fun _ => 0))) ∧ g1 (N + 1) = .inl (cA 1, (360, .inl (fun _ => 0)))) (fun g1 t => EH D B ((N + 1) + 1) g1 t.heap) (Al B)) 2 1260 (Al B) := by
  refine Met.ofW (cc := cX10_init) (maxL := 1) (ret := none) (by decide) rfl ?_
  intro p e s m args below meth c s₁ B9 hml hv
  obtain ⟨rfl, hE, hCon⟩ := hv
  have hx := B9.exec
  have hb := B9.bytes
  have hr := B9.returns
  have hts0 := atoms_spec (ws := wMt yX10_init cX10_init 1 none) B9.pre
  have hts : ∀ w ∈ LW, w.before _ s = true := fun w hw => hts0 w (List.mem_cons_of_mem _ hw)
  have hown : s.vm.findClass RX10 = some m.cls := findClass_of_methodNamed B9.named
  have hlocks := B9.notSynchronized
  have hin : meth.name = "<init>" := (name_of_methodNamed B9.named B9.method).1
  have hK := hCon.1
  have hS : va_S (Al B) s.heap s.heap [] := va_S.rf
  have hl := lv_entry ([.ref (B + i)]) (n := 1) (Nat.le_of_ble_eq_true rfl)
  rw [lg_entry_eq]
  generalize (lg_sl ([.ref (B + i)]) ++ List.replicate (1 - (lg_sl ([.ref (B + i)])).length) Slot.unset).toArray = ls at hl ⊢
  have hl : lv_has ls 1 [(0, .ref (B + i))] := hl
  refine lv_aload_n hx hb dX10_init_0 rfl (lv_at hl 0 rfl) ?_
  refine W.objInit hx hb hown (hts _ wC_6) (hts _ wC_1) (hts _ wC_2) rfl (by rw [hml]; exact hl.1) rfl dX10_init_1 (Nat.le_of_ble_eq_true rfl) (Nat.le_of_ble_eq_true rfl) ?_
  refine W.eq (g2 := F0 m 4 ls []) rfl ?_
  refine lv_aload_n hx hb dX10_init_4 rfl (lv_at hl 0 rfl) ?_
  refine lv_sipush (v := 900) hx hb dX10_init_5 (by decide) ?_
  refine eh_newa (atype := .int) (t0 := 0) (c1 := cA 1) (N' := 900) (a0 := (900, .inl (fun _ => 0))) hx hb hts hK hE hS wC_3 rfl (fun _ => rfl) (by decide) (by decide) (by decide) (Nat.le_of_ble_eq_true rfl) (Nat.le_of_ble_eq_true rfl) dX10_init_8 (fun H hE hS => ?_)
  refine eh_put (b := 10) (i := i) (k := 0) (fs := [.null, .int 0, .int 0, .null]) (v := .ref (B + N)) hx hb hts hown hK hE hS (by decide) (by omega) (by rw [gup_ne (by omega), he]) (by decide) wC_7 (Or.inr ⟨rfl, hin, rfl⟩) rfl rfl (Nat.le_of_ble_eq_true rfl) dX10_init_10 (fun H locs hE hS => ?_)
  refine lv_aload_n hx hb dX10_init_13 rfl (lv_at hl 0 rfl) ?_
  refine lv_sipush (v := 360) hx hb dX10_init_14 (by decide) ?_
  refine eh_newa (atype := .int) (t0 := 0) (c1 := cA 1) (N' := 360) (a0 := (360, .inl (fun _ => 0))) hx hb hts hK hE hS wC_3 rfl (fun _ => rfl) (by decide) (by decide) (by decide) (Nat.le_of_ble_eq_true rfl) (Nat.le_of_ble_eq_true rfl) dX10_init_17 (fun H hE hS => ?_)
  refine eh_put (b := 10) (i := i) (k := 3) (fs := [.ref (B + N), .int 0, .int 0, .null]) (v := .ref (B + (N + 1))) hx hb hts hown hK hE hS (by decide) (by omega) (by rw [gup_ne (by omega), gup_same] <;> rfl) (by decide) wC_8 (Or.inr ⟨rfl, hin, rfl⟩) rfl rfl (Nat.le_of_ble_eq_true rfl) dX10_init_19 (fun H locs hE hS => ?_)
  exact W.vret hx hb hr (fun t ht hW => ⟨⟨_, rfl, ⟨(fun k hk hki => by rw [gup_ne (by omega), gup_ne (by omega), gup_ne (by omega), gup_ne (by omega)]), (by rw [gup_same] <;> rfl), (by rw [gup_ne (by omega), gup_ne (by omega), gup_ne (by omega), gup_same] <;> rfl), (by rw [gup_ne (by omega), gup_same] <;> rfl)⟩, hE.moved ht⟩, hS.F ht⟩) hS.2.2 dX10_init_22
theorem dX8_init_0 : decode cX8_init 0 = .ok (.aload_n 0, 1) := by decide +kernel
theorem dX8_init_1 : decode cX8_init 1 = .ok (.invokespecial 3, 3) := by decide +kernel
theorem dX8_init_4 : decode cX8_init 4 = .ok (.aload_n 0, 1) := by decide +kernel
theorem dX8_init_5 : decode cX8_init 5 = .ok (.iconst 1, 1) := by decide +kernel
theorem dX8_init_6 : decode cX8_init 6 = .ok (.putfield 9, 3) := by decide +kernel
theorem dX8_init_9 : decode cX8_init 9 = .ok (.aload_n 0, 1) := by decide +kernel
theorem dX8_init_10 : decode cX8_init 10 = .ok (.iconst 0, 1) := by decide +kernel
theorem dX8_init_11 : decode cX8_init 11 = .ok (.putfield 15, 3) := by decide +kernel
theorem dX8_init_14 : decode cX8_init 14 = .ok (.aload_n 0, 1) := by decide +kernel
theorem dX8_init_15 : decode cX8_init 15 = .ok (.bipush 24, 2) := by decide +kernel
theorem dX8_init_17 : decode cX8_init 17 = .ok (.putfield 20, 3) := by decide +kernel
theorem dX8_init_20 : decode cX8_init 20 = .ok (.aload_n 0, 1) := by decide +kernel
theorem dX8_init_21 : decode cX8_init 21 = .ok (.sipush 999, 3) := by decide +kernel
theorem dX8_init_24 : decode cX8_init 24 = .ok (.putfield 23, 3) := by decide +kernel
theorem dX8_init_27 : decode cX8_init 27 = .ok (.aload_n 0, 1) := by decide +kernel
theorem dX8_init_28 : decode cX8_init 28 = .ok (.sipush 1500, 3) := by decide +kernel
theorem dX8_init_31 : decode cX8_init 31 = .ok (.newarray .int, 2) := by decide +kernel
theorem dX8_init_33 : decode cX8_init 33 = .ok (.putfield 26, 3) := by decide +kernel
theorem dX8_init_36 : decode cX8_init 36 = .ok (.aload_n 0, 1) := by decide +kernel
theorem dX8_init_37 : decode cX8_init 37 = .ok (.bipush 24, 2) := by decide +kernel
theorem dX8_init_39 : decode cX8_init 39 = .ok (.newarray .int, 2) := by decide +kernel
theorem dX8_init_41 : decode cX8_init 41 = .ok (.putfield 30, 3) := by decide +kernel
theorem dX8_init_44 : decode cX8_init 44 = .ok (.aload_n 0, 1) := by decide +kernel
theorem dX8_init_45 : decode cX8_init 45 = .ok (.bipush 24, 2) := by decide +kernel
theorem dX8_init_47 : decode cX8_init 47 = .ok (.newarray .int, 2) := by decide +kernel
theorem dX8_init_49 : decode cX8_init 49 = .ok (.putfield 33, 3) := by decide +kernel
theorem dX8_init_52 : decode cX8_init 52 = .ok (.aload_n 0, 1) := by decide +kernel
theorem dX8_init_53 : decode cX8_init 53 = .ok (.bipush 24, 2) := by decide +kernel
theorem dX8_init_55 : decode cX8_init 55 = .ok (.newarray .int, 2) := by decide +kernel
theorem dX8_init_57 : decode cX8_init 57 = .ok (.putfield 36, 3) := by decide +kernel
theorem dX8_init_60 : decode cX8_init 60 = .ok (.aload_n 0, 1) := by decide +kernel
theorem dX8_init_61 : decode cX8_init 61 = .ok (.bipush 24, 2) := by decide +kernel
theorem dX8_init_63 : decode cX8_init 63 = .ok (.newarray .int, 2) := by decide +kernel
theorem dX8_init_65 : decode cX8_init 65 = .ok (.putfield 39, 3) := by decide +kernel
theorem dX8_init_68 : decode cX8_init 68 = .ok (.aload_n 0, 1) := by decide +kernel
theorem dX8_init_69 : decode cX8_init 69 = .ok (.bipush 24, 2) := by decide +kernel
theorem dX8_init_71 : decode cX8_init 71 = .ok (.newarray .int, 2) := by decide +kernel
theorem dX8_init_73 : decode cX8_init 73 = .ok (.putfield 42, 3) := by decide +kernel
theorem dX8_init_76 : decode cX8_init 76 = .ok (.aload_n 0, 1) := by decide +kernel
theorem dX8_init_77 : decode cX8_init 77 = .ok (.bipush 24, 2) := by decide +kernel
theorem dX8_init_79 : decode cX8_init 79 = .ok (.newarray .int, 2) := by decide +kernel
theorem dX8_init_81 : decode cX8_init 81 = .ok (.putfield 45, 3) := by decide +kernel
theorem dX8_init_84 : decode cX8_init 84 = .ok (.aload_n 0, 1) := by decide +kernel
theorem dX8_init_85 : decode cX8_init 85 = .ok (.iconst 4, 1) := by decide +kernel
theorem dX8_init_86 : decode cX8_init 86 = .ok (.newarray .int, 2) := by decide +kernel
theorem dX8_init_88 : decode cX8_init 88 = .ok (.putfield 48, 3) := by decide +kernel
theorem dX8_init_91 : decode cX8_init 91 = .ok (.return_, 1) := by decide +kernel
theorem wC_10 : ((Jvm.Cond.methodLink "Queueward$Play" (3 : Nat) ({ cls := "java/lang/Object", name := "<init>", desc := "()V" } : Jvm.MethodName)) : Cond) ∈ LW := LW_mem (lw_in1 _ (List.mem_of_getElem? (i := 158) (by decide +kernel))) rfl
theorem wC_11 : ((Jvm.Cond.fieldLink "Queueward$Play" (9 : Nat) "Queueward$Play" "servers" "I") : Cond) ∈ LW := LW_mem (lw_in1 _ (List.mem_of_getElem? (i := 159) (by decide +kernel))) rfl
theorem wC_12 : ((Jvm.Cond.fieldLink "Queueward$Play" (15 : Nat) "Queueward$Play" "rule" "I") : Cond) ∈ LW := LW_mem (lw_in1 _ (List.mem_of_getElem? (i := 160) (by decide +kernel))) rfl
theorem wC_13 : ((Jvm.Cond.fieldLink "Queueward$Play" (20 : Nat) "Queueward$Play" "room" "I") : Cond) ∈ LW := LW_mem (lw_in1 _ (List.mem_of_getElem? (i := 162) (by decide +kernel))) rfl
theorem wC_14 : ((Jvm.Cond.fieldLink "Queueward$Play" (23 : Nat) "Queueward$Play" "patience" "I") : Cond) ∈ LW := LW_mem (lw_in1 _ (List.mem_of_getElem? (i := 163) (by decide +kernel))) rfl
theorem wC_15 : ((Jvm.Cond.fieldLink "Queueward$Play" (26 : Nat) "Queueward$Play" "there" "[I") : Cond) ∈ LW := LW_mem (lw_in1 _ (List.mem_of_getElem? (i := 166) (by decide +kernel))) rfl
theorem wC_16 : ((Jvm.Cond.fieldLink "Queueward$Play" (30 : Nat) "Queueward$Play" "state" "[I") : Cond) ∈ LW := LW_mem (lw_in1 _ (List.mem_of_getElem? (i := 168) (by decide +kernel))) rfl
theorem wC_17 : ((Jvm.Cond.fieldLink "Queueward$Play" (33 : Nat) "Queueward$Play" "first" "[I") : Cond) ∈ LW := LW_mem (lw_in1 _ (List.mem_of_getElem? (i := 170) (by decide +kernel))) rfl
theorem wC_18 : ((Jvm.Cond.fieldLink "Queueward$Play" (36 : Nat) "Queueward$Play" "left" "[I") : Cond) ∈ LW := LW_mem (lw_in1 _ (List.mem_of_getElem? (i := 172) (by decide +kernel))) rfl
theorem wC_19 : ((Jvm.Cond.fieldLink "Queueward$Play" (39 : Nat) "Queueward$Play" "rest" "[I") : Cond) ∈ LW := LW_mem (lw_in1 _ (List.mem_of_getElem? (i := 174) (by decide +kernel))) rfl
theorem wC_20 : ((Jvm.Cond.fieldLink "Queueward$Play" (42 : Nat) "Queueward$Play" "rank" "[I") : Cond) ∈ LW := LW_mem (lw_in1 _ (List.mem_of_getElem? (i := 175) (by decide +kernel))) rfl
theorem wC_21 : ((Jvm.Cond.fieldLink "Queueward$Play" (45 : Nat) "Queueward$Play" "row" "[I") : Cond) ∈ LW := LW_mem (lw_in1 _ (List.mem_of_getElem? (i := 176) (by decide +kernel))) rfl
theorem wC_22 : ((Jvm.Cond.fieldLink "Queueward$Play" (48 : Nat) "Queueward$Play" "served" "[I") : Cond) ∈ LW := LW_mem (lw_in1 _ (List.mem_of_getElem? (i := 178) (by decide +kernel))) rfl
theorem wC_23 : ((Jvm.Cond.code ({ cls := "Queueward$Play", name := "<init>", desc := "()V" } : Jvm.MethodName) prog_10_method_1_code (1 : Nat) (Option.none : Option Jvm.ClassFile.FieldType)) : Cond) ∈ LW := LW_mem (lw_in1 _ (List.mem_of_getElem? (i := 157) (by decide +kernel))) rfl
set_option maxHeartbeats 4000000 in
set_option maxRecDepth 100000 in
theorem k_X8 {l : Launch} {D : va_G} {cA : Nat → ClassId} {B N i : Nat} {g : Nat → va_E} (hi : i < N) (he : g i = .inr (8, [.int 0, .int 0, .int 0, .int 0, .int 0, .null, .null, .null, .null, .null, .null, .null, .int 0, .null, .int 0, .int 0, .int 0])) : Met l yX8_init (wMt yX8_init cX8_init 1 none) ({ frames := 1, cells := 8, slots := 1648, locals := 12 }) (va_Pc [.ref (B + i)] (fun U => EH D B N g U.heap ∧ wCon cA D U)) (va_Qv (fun g1 : Nat → va_E => (∀ k, k < N → k ≠ i → g1 k = g k) ∧ g1 i = .inr (8, [.int 1, .int 0, .int 24, .int 999, .int 0, .ref (B + N), .ref (B + (N + 1)), .ref (B + ((N + 1) + 1)), .ref (B + (((N + 1) + 1) + 1)), .ref (B + ((((N + 1) + 1) + 1) + 1)), .ref (B + (((((N + 1) + 1) + 1) + 1) + 1)), .ref (B + ((((((N + 1) + 1) + 1) + 1) + 1) + 1)), .int 0, .ref (B + (((((((N + 1) + 1) + 1) + 1) + 1) + 1) + 1)), .int 0, .int 0, .int 0]) ∧ g1 N = .inl (cA 1, (1500, .inl (fun _ => 0))) ∧ g1 (N + 1) = .inl (cA 1, (24, .inl (fun _ => 0))) ∧ g1 ((N + 1) + 1) = .inl (cA 1, (24, .inl (fun _ => 0))) ∧ g1 (((N + 1) + 1) + 1) = .inl (cA 1, (24, .inl (fun _ => 0))) ∧ g1 ((((N + 1) + 1) + 1) + 1) = .inl (cA 1, (24, .inl (fun _ => 0))) ∧ g1 (((((N + 1) + 1) + 1) + 1) + 1) = .inl (cA 1, (24, .inl (fun _ => 0))) ∧ g1 ((((((N + 1) + 1) + 1) + 1) + 1) + 1) = .inl (cA 1, (24, .inl (fun _ => 0))) ∧ g1 (((((((N + 1) + 1) + 1) + 1) + 1) + 1) + 1) = .inl (cA 1, (4, .inl (fun _ => 0)))) (fun g1 t => EH D B ((((((((N + 1) + 1) + 1) + 1) + 1) + 1) + 1) + 1) g1 t.heap) (Al B)) 8 1648 (Al B) := by
  refine Met.ofW (cc := cX8_init) (maxL := 1) (ret := none) (by decide) rfl ?_
  intro p e s m args below meth c s₁ B9 hml hv
  obtain ⟨rfl, hE, hCon⟩ := hv
  have hx := B9.exec
  have hb := B9.bytes
  have hr := B9.returns
  have hts0 := atoms_spec (ws := wMt yX8_init cX8_init 1 none) B9.pre
  have hts : ∀ w ∈ LW, w.before _ s = true := fun w hw => hts0 w (List.mem_cons_of_mem _ hw)
  have hown : s.vm.findClass RX8 = some m.cls := findClass_of_methodNamed B9.named
  have hlocks := B9.notSynchronized
  have hin : meth.name = "<init>" := (name_of_methodNamed B9.named B9.method).1
  have hK := hCon.1
  have hS : va_S (Al B) s.heap s.heap [] := va_S.rf
  have hl := lv_entry ([.ref (B + i)]) (n := 1) (Nat.le_of_ble_eq_true rfl)
  rw [lg_entry_eq]
  generalize (lg_sl ([.ref (B + i)]) ++ List.replicate (1 - (lg_sl ([.ref (B + i)])).length) Slot.unset).toArray = ls at hl ⊢
  have hl : lv_has ls 1 [(0, .ref (B + i))] := hl
  refine lv_aload_n hx hb dX8_init_0 rfl (lv_at hl 0 rfl) ?_
  refine W.objInit hx hb hown (hts _ wC_10) (hts _ wC_1) (hts _ wC_2) rfl (by rw [hml]; exact hl.1) rfl dX8_init_1 (Nat.le_of_ble_eq_true rfl) (Nat.le_of_ble_eq_true rfl) ?_
  refine W.eq (g2 := F0 m 4 ls []) rfl ?_
  refine lv_aload_n hx hb dX8_init_4 rfl (lv_at hl 0 rfl) ?_
  refine lv_iconst (v := 1) hx hb dX8_init_5 (by decide) ?_
  refine eh_put (b := 8) (i := i) (k := 0) (fs := [.int 0, .int 0, .int 0, .int 0, .int 0, .null, .null, .null, .null, .null, .null, .null, .int 0, .null, .int 0, .int 0, .int 0]) (v := .int 1) hx hb hts hown hK hE hS (by decide) (by omega) (by rw [he]) (by decide) wC_11 (Or.inl rfl) rfl rfl (Nat.le_of_ble_eq_true rfl) dX8_init_6 (fun H locs hE hS => ?_)
  refine lv_aload_n hx hb dX8_init_9 rfl (lv_at hl 0 rfl) ?_
  refine lv_iconst (v := 0) hx hb dX8_init_10 (by decide) ?_
  refine eh_put (b := 8) (i := i) (k := 1) (fs := [.int 1, .int 0, .int 0, .int 0, .int 0, .null, .null, .null, .null, .null, .null, .null, .int 0, .null, .int 0, .int 0, .int 0]) (v := .int 0) hx hb hts hown hK hE hS (by decide) (by omega) (by rw [gup_same] <;> rfl) (by decide) wC_12 (Or.inl rfl) rfl rfl (Nat.le_of_ble_eq_true rfl) dX8_init_11 (fun H locs hE hS => ?_)
  refine lv_aload_n hx hb dX8_init_14 rfl (lv_at hl 0 rfl) ?_
  refine lv_bipush (v := 24) hx hb dX8_init_15 (by decide) ?_
  refine eh_put (b := 8) (i := i) (k := 2) (fs := [.int 1, .int 0, .int 0, .int 0, .int 0, .null, .null, .null, .null, .null, .null, .null, .int 0, .null, .int 0, .int 0, .int 0]) (v := .int 24) hx hb hts hown hK hE hS (by decide) (by omega) (by rw [gup_same] <;> rfl) (by decide) wC_13 (Or.inl rfl) rfl rfl (Nat.le_of_ble_eq_true rfl) dX8_init_17 (fun H locs hE hS => ?_)
  refine lv_aload_n hx hb dX8_init_20 rfl (lv_at hl 0 rfl) ?_
  refine lv_sipush (v := 999) hx hb dX8_init_21 (by decide) ?_
  refine eh_put (b := 8) (i := i) (k := 3) (fs := [.int 1, .int 0, .int 24, .int 0, .int 0, .null, .null, .null, .null, .null, .null, .null, .int 0, .null, .int 0, .int 0, .int 0]) (v := .int 999) hx hb hts hown hK hE hS (by decide) (by omega) (by rw [gup_same] <;> rfl) (by decide) wC_14 (Or.inl rfl) rfl rfl (Nat.le_of_ble_eq_true rfl) dX8_init_24 (fun H locs hE hS => ?_)
  refine lv_aload_n hx hb dX8_init_27 rfl (lv_at hl 0 rfl) ?_
  refine lv_sipush (v := 1500) hx hb dX8_init_28 (by decide) ?_
  refine eh_newa (atype := .int) (t0 := 0) (c1 := cA 1) (N' := 1500) (a0 := (1500, .inl (fun _ => 0))) hx hb hts hK hE hS wC_3 rfl (fun _ => rfl) (by decide) (by decide) (by decide) (Nat.le_of_ble_eq_true rfl) (Nat.le_of_ble_eq_true rfl) dX8_init_31 (fun H hE hS => ?_)
  refine eh_put (b := 8) (i := i) (k := 5) (fs := [.int 1, .int 0, .int 24, .int 999, .int 0, .null, .null, .null, .null, .null, .null, .null, .int 0, .null, .int 0, .int 0, .int 0]) (v := .ref (B + N)) hx hb hts hown hK hE hS (by decide) (by omega) (by rw [gup_ne (by omega), gup_same] <;> rfl) (by decide) wC_15 (Or.inr ⟨rfl, hin, rfl⟩) rfl rfl (Nat.le_of_ble_eq_true rfl) dX8_init_33 (fun H locs hE hS => ?_)
  refine lv_aload_n hx hb dX8_init_36 rfl (lv_at hl 0 rfl) ?_
  refine lv_bipush (v := 24) hx hb dX8_init_37 (by decide) ?_
  refine eh_newa (atype := .int) (t0 := 0) (c1 := cA 1) (N' := 24) (a0 := (24, .inl (fun _ => 0))) hx hb hts hK hE hS wC_3 rfl (fun _ => rfl) (by decide) (by decide) (by decide) (Nat.le_of_ble_eq_true rfl) (Nat.le_of_ble_eq_true rfl) dX8_init_39 (fun H hE hS => ?_)
  refine eh_put (b := 8) (i := i) (k := 6) (fs := [.int 1, .int 0, .int 24, .int 999, .int 0, .ref (B + N), .null, .null, .null, .null, .null, .null, .int 0, .null, .int 0, .int 0, .int 0]) (v := .ref (B + (N + 1))) hx hb hts hown hK hE hS (by decide) (by omega) (by rw [gup_ne (by omega), gup_same] <;> rfl) (by decide) wC_16 (Or.inr ⟨rfl, hin, rfl⟩) rfl rfl (Nat.le_of_ble_eq_true rfl) dX8_init_41 (fun H locs hE hS => ?_)
  refine lv_aload_n hx hb dX8_init_44 rfl (lv_at hl 0 rfl) ?_
  refine lv_bipush (v := 24) hx hb dX8_init_45 (by decide) ?_
  refine eh_newa (atype := .int) (t0 := 0) (c1 := cA 1) (N' := 24) (a0 := (24, .inl (fun _ => 0))) hx hb hts hK hE hS wC_3 rfl (fun _ => rfl) (by decide) (by decide) (by decide) (Nat.le_of_ble_eq_true rfl) (Nat.le_of_ble_eq_true rfl) dX8_init_47 (fun H hE hS => ?_)
  refine eh_put (b := 8) (i := i) (k := 7) (fs := [.int 1, .int 0, .int 24, .int 999, .int 0, .ref (B + N), .ref (B + (N + 1)), .null, .null, .null, .null, .null, .int 0, .null, .int 0, .int 0, .int 0]) (v := .ref (B + ((N + 1) + 1))) hx hb hts hown hK hE hS (by decide) (by omega) (by rw [gup_ne (by omega), gup_same] <;> rfl) (by decide) wC_17 (Or.inr ⟨rfl, hin, rfl⟩) rfl rfl (Nat.le_of_ble_eq_true rfl) dX8_init_49 (fun H locs hE hS => ?_)
  refine lv_aload_n hx hb dX8_init_52 rfl (lv_at hl 0 rfl) ?_
  refine lv_bipush (v := 24) hx hb dX8_init_53 (by decide) ?_
  refine eh_newa (atype := .int) (t0 := 0) (c1 := cA 1) (N' := 24) (a0 := (24, .inl (fun _ => 0))) hx hb hts hK hE hS wC_3 rfl (fun _ => rfl) (by decide) (by decide) (by decide) (Nat.le_of_ble_eq_true rfl) (Nat.le_of_ble_eq_true rfl) dX8_init_55 (fun H hE hS => ?_)
  refine eh_put (b := 8) (i := i) (k := 8) (fs := [.int 1, .int 0, .int 24, .int 999, .int 0, .ref (B + N), .ref (B + (N + 1)), .ref (B + ((N + 1) + 1)), .null, .null, .null, .null, .int 0, .null, .int 0, .int 0, .int 0]) (v := .ref (B + (((N + 1) + 1) + 1))) hx hb hts hown hK hE hS (by decide) (by omega) (by rw [gup_ne (by omega), gup_same] <;> rfl) (by decide) wC_18 (Or.inr ⟨rfl, hin, rfl⟩) rfl rfl (Nat.le_of_ble_eq_true rfl) dX8_init_57 (fun H locs hE hS => ?_)
  refine lv_aload_n hx hb dX8_init_60 rfl (lv_at hl 0 rfl) ?_
  refine lv_bipush (v := 24) hx hb dX8_init_61 (by decide) ?_
  refine eh_newa (atype := .int) (t0 := 0) (c1 := cA 1) (N' := 24) (a0 := (24, .inl (fun _ => 0))) hx hb hts hK hE hS wC_3 rfl (fun _ => rfl) (by decide) (by decide) (by decide) (Nat.le_of_ble_eq_true rfl) (Nat.le_of_ble_eq_true rfl) dX8_init_63 (fun H hE hS => ?_)
  refine eh_put (b := 8) (i := i) (k := 9) (fs := [.int 1, .int 0, .int 24, .int 999, .int 0, .ref (B + N), .ref (B + (N + 1)), .ref (B + ((N + 1) + 1)), .ref (B + (((N + 1) + 1) + 1)), .null, .null, .null, .int 0, .null, .int 0, .int 0, .int 0]) (v := .ref (B + ((((N + 1) + 1) + 1) + 1))) hx hb hts hown hK hE hS (by decide) (by omega) (by rw [gup_ne (by omega), gup_same] <;> rfl) (by decide) wC_19 (Or.inr ⟨rfl, hin, rfl⟩) rfl rfl (Nat.le_of_ble_eq_true rfl) dX8_init_65 (fun H locs hE hS => ?_)
  refine lv_aload_n hx hb dX8_init_68 rfl (lv_at hl 0 rfl) ?_
  refine lv_bipush (v := 24) hx hb dX8_init_69 (by decide) ?_
  refine eh_newa (atype := .int) (t0 := 0) (c1 := cA 1) (N' := 24) (a0 := (24, .inl (fun _ => 0))) hx hb hts hK hE hS wC_3 rfl (fun _ => rfl) (by decide) (by decide) (by decide) (Nat.le_of_ble_eq_true rfl) (Nat.le_of_ble_eq_true rfl) dX8_init_71 (fun H hE hS => ?_)
  refine eh_put (b := 8) (i := i) (k := 10) (fs := [.int 1, .int 0, .int 24, .int 999, .int 0, .ref (B + N), .ref (B + (N + 1)), .ref (B + ((N + 1) + 1)), .ref (B + (((N + 1) + 1) + 1)), .ref (B + ((((N + 1) + 1) + 1) + 1)), .null, .null, .int 0, .null, .int 0, .int 0, .int 0]) (v := .ref (B + (((((N + 1) + 1) + 1) + 1) + 1))) hx hb hts hown hK hE hS (by decide) (by omega) (by rw [gup_ne (by omega), gup_same] <;> rfl) (by decide) wC_20 (Or.inr ⟨rfl, hin, rfl⟩) rfl rfl (Nat.le_of_ble_eq_true rfl) dX8_init_73 (fun H locs hE hS => ?_)
  refine lv_aload_n hx hb dX8_init_76 rfl (lv_at hl 0 rfl) ?_
  refine lv_bipush (v := 24) hx hb dX8_init_77 (by decide) ?_
  refine eh_newa (atype := .int) (t0 := 0) (c1 := cA 1) (N' := 24) (a0 := (24, .inl (fun _ => 0))) hx hb hts hK hE hS wC_3 rfl (fun _ => rfl) (by decide) (by decide) (by decide) (Nat.le_of_ble_eq_true rfl) (Nat.le_of_ble_eq_true rfl) dX8_init_79 (fun H hE hS => ?_)
  refine eh_put (b := 8) (i := i) (k := 11) (fs := [.int 1, .int 0, .int 24, .int 999, .int 0, .ref (B + N), .ref (B + (N + 1)), .ref (B + ((N + 1) + 1)), .ref (B + (((N + 1) + 1) + 1)), .ref (B + ((((N + 1) + 1) + 1) + 1)), .ref (B + (((((N + 1) + 1) + 1) + 1) + 1)), .null, .int 0, .null, .int 0, .int 0, .int 0]) (v := .ref (B + ((((((N + 1) + 1) + 1) + 1) + 1) + 1))) hx hb hts hown hK hE hS (by decide) (by omega) (by rw [gup_ne (by omega), gup_same] <;> rfl) (by decide) wC_21 (Or.inr ⟨rfl, hin, rfl⟩) rfl rfl (Nat.le_of_ble_eq_true rfl) dX8_init_81 (fun H locs hE hS => ?_)
  refine lv_aload_n hx hb dX8_init_84 rfl (lv_at hl 0 rfl) ?_
  refine lv_iconst (v := 4) hx hb dX8_init_85 (by decide) ?_
  refine eh_newa (atype := .int) (t0 := 0) (c1 := cA 1) (N' := 4) (a0 := (4, .inl (fun _ => 0))) hx hb hts hK hE hS wC_3 rfl (fun _ => rfl) (by decide) (by decide) (by decide) (Nat.le_of_ble_eq_true rfl) (Nat.le_of_ble_eq_true rfl) dX8_init_86 (fun H hE hS => ?_)
  refine eh_put (b := 8) (i := i) (k := 13) (fs := [.int 1, .int 0, .int 24, .int 999, .int 0, .ref (B + N), .ref (B + (N + 1)), .ref (B + ((N + 1) + 1)), .ref (B + (((N + 1) + 1) + 1)), .ref (B + ((((N + 1) + 1) + 1) + 1)), .ref (B + (((((N + 1) + 1) + 1) + 1) + 1)), .ref (B + ((((((N + 1) + 1) + 1) + 1) + 1) + 1)), .int 0, .null, .int 0, .int 0, .int 0]) (v := .ref (B + (((((((N + 1) + 1) + 1) + 1) + 1) + 1) + 1))) hx hb hts hown hK hE hS (by decide) (by omega) (by rw [gup_ne (by omega), gup_same] <;> rfl) (by decide) wC_22 (Or.inr ⟨rfl, hin, rfl⟩) rfl rfl (Nat.le_of_ble_eq_true rfl) dX8_init_88 (fun H locs hE hS => ?_)
  exact W.vret hx hb hr (fun t ht hW => ⟨⟨_, rfl, ⟨(fun k hk hki => by rw [gup_ne (by omega), gup_ne (by omega), gup_ne (by omega), gup_ne (by omega), gup_ne (by omega), gup_ne (by omega), gup_ne (by omega), gup_ne (by omega), gup_ne (by omega), gup_ne (by omega), gup_ne (by omega), gup_ne (by omega), gup_ne (by omega), gup_ne (by omega), gup_ne (by omega), gup_ne (by omega), gup_ne (by omega), gup_ne (by omega), gup_ne (by omega), gup_ne (by omega)]), (by rw [gup_same] <;> rfl), (by rw [gup_ne (by omega), gup_ne (by omega), gup_ne (by omega), gup_ne (by omega), gup_ne (by omega), gup_ne (by omega), gup_ne (by omega), gup_ne (by omega), gup_ne (by omega), gup_ne (by omega), gup_ne (by omega), gup_ne (by omega), gup_ne (by omega), gup_ne (by omega), gup_ne (by omega), gup_same] <;> rfl), (by rw [gup_ne (by omega), gup_ne (by omega), gup_ne (by omega), gup_ne (by omega), gup_ne (by omega), gup_ne (by omega), gup_ne (by omega), gup_ne (by omega), gup_ne (by omega), gup_ne (by omega), gup_ne (by omega), gup_ne (by omega), gup_ne (by omega), gup_same] <;> rfl), (by rw [gup_ne (by omega), gup_ne (by omega), gup_ne (by omega), gup_ne (by omega), gup_ne (by omega), gup_ne (by omega), gup_ne (by omega), gup_ne (by omega), gup_ne (by omega), gup_ne (by omega), gup_ne (by omega), gup_same] <;> rfl), (by rw [gup_ne (by omega), gup_ne (by omega), gup_ne (by omega), gup_ne (by omega), gup_ne (by omega), gup_ne (by omega), gup_ne (by omega), gup_ne (by omega), gup_ne (by omega), gup_same] <;> rfl), (by rw [gup_ne (by omega), gup_ne (by omega), gup_ne (by omega), gup_ne (by omega), gup_ne (by omega), gup_ne (by omega), gup_ne (by omega), gup_same] <;> rfl), (by rw [gup_ne (by omega), gup_ne (by omega), gup_ne (by omega), gup_ne (by omega), gup_ne (by omega), gup_same] <;> rfl), (by rw [gup_ne (by omega), gup_ne (by omega), gup_ne (by omega), gup_same] <;> rfl), (by rw [gup_ne (by omega), gup_same] <;> rfl)⟩, hE.moved ht⟩, hS.F ht⟩) hS.2.2 dX8_init_91
theorem dX4_init_0 : decode cX4_init 0 = .ok (.aload_n 0, 1) := by decide +kernel
theorem dX4_init_1 : decode cX4_init 1 = .ok (.invokespecial 1, 3) := by decide +kernel
theorem dX4_init_4 : decode cX4_init 4 = .ok (.aload_n 0, 1) := by decide +kernel
theorem dX4_init_5 : decode cX4_init 5 = .ok (.iconst 3, 1) := by decide +kernel
theorem dX4_init_6 : decode cX4_init 6 = .ok (.newarray .int, 2) := by decide +kernel
theorem dX4_init_8 : decode cX4_init 8 = .ok (.putfield 9, 3) := by decide +kernel
theorem dX4_init_11 : decode cX4_init 11 = .ok (.aload_n 0, 1) := by decide +kernel
theorem dX4_init_12 : decode cX4_init 12 = .ok (.iconst 3, 1) := by decide +kernel
theorem dX4_init_13 : decode cX4_init 13 = .ok (.newarray .int, 2) := by decide +kernel
theorem dX4_init_15 : decode cX4_init 15 = .ok (.putfield 13, 3) := by decide +kernel
theorem dX4_init_18 : decode cX4_init 18 = .ok (.aload_n 0, 1) := by decide +kernel
theorem dX4_init_19 : decode cX4_init 19 = .ok (.iconst 3, 1) := by decide +kernel
theorem dX4_init_20 : decode cX4_init 20 = .ok (.newarray .int, 2) := by decide +kernel
theorem dX4_init_22 : decode cX4_init 22 = .ok (.putfield 16, 3) := by decide +kernel
theorem dX4_init_25 : decode cX4_init 25 = .ok (.return_, 1) := by decide +kernel
theorem wC_24 : ((Jvm.Cond.methodLink "Queueward$Game" (1 : Nat) ({ cls := "java/lang/Object", name := "<init>", desc := "()V" } : Jvm.MethodName)) : Cond) ∈ LW := LW_mem (lw_in2 _ (List.mem_of_getElem? (i := 155) (by decide +kernel))) rfl
theorem wC_25 : ((Jvm.Cond.fieldLink "Queueward$Game" (9 : Nat) "Queueward$Game" "constants" "[I") : Cond) ∈ LW := LW_mem (lw_in2 _ (List.mem_of_getElem? (i := 156) (by decide +kernel))) rfl
theorem wC_26 : ((Jvm.Cond.fieldLink "Queueward$Game" (13 : Nat) "Queueward$Game" "slopes" "[I") : Cond) ∈ LW := LW_mem (lw_in2 _ (List.mem_of_getElem? (i := 158) (by decide +kernel))) rfl
theorem wC_27 : ((Jvm.Cond.fieldLink "Queueward$Game" (16 : Nat) "Queueward$Game" "chosen" "[I") : Cond) ∈ LW := LW_mem (lw_in2 _ (List.mem_of_getElem? (i := 160) (by decide +kernel))) rfl
theorem wC_28 : ((Jvm.Cond.code ({ cls := "Queueward$Game", name := "<init>", desc := "()V" } : Jvm.MethodName) prog_6_method_1_code (1 : Nat) (Option.none : Option Jvm.ClassFile.FieldType)) : Cond) ∈ LW := LW_mem (lw_in2 _ (List.mem_of_getElem? (i := 154) (by decide +kernel))) rfl
set_option maxHeartbeats 4000000 in
set_option maxRecDepth 100000 in
theorem k_X4 {l : Launch} {D : va_G} {cA : Nat → ClassId} {B N i : Nat} {g : Nat → va_E} (hi : i < N) (he : g i = .inr (4, [.null, .null, .null])) : Met l yX4_init (wMt yX4_init cX4_init 1 none) ({ frames := 1, cells := 3, slots := 9, locals := 12 }) (va_Pc [.ref (B + i)] (fun U => EH D B N g U.heap ∧ wCon cA D U)) (va_Qv (fun g1 : Nat → va_E => (∀ k, k < N → k ≠ i → g1 k = g k) ∧ g1 i = .inr (4, [.ref (B + N), .ref (B + (N + 1)), .ref (B + ((N + 1) + 1))]) ∧ g1 N = .inl (cA 1, (3, .inl (fun _ => 0))) ∧ g1 (N + 1) = .inl (cA 1, (3, .inl (fun _ => 0))) ∧ g1 ((N + 1) + 1) = .inl (cA 1, (3, .inl (fun _ => 0)))) (fun g1 t => EH D B (((N + 1) + 1) + 1) g1 t.heap) (Al B)) 3 9 (Al B) := by
  refine Met.ofW (cc := cX4_init) (maxL := 1) (ret := none) (by decide) rfl ?_
  intro p e s m args below meth c s₁ B9 hml hv
  obtain ⟨rfl, hE, hCon⟩ := hv
  have hx := B9.exec
  have hb := B9.bytes
  have hr := B9.returns
  have hts0 := atoms_spec (ws := wMt yX4_init cX4_init 1 none) B9.pre
  have hts : ∀ w ∈ LW, w.before _ s = true := fun w hw => hts0 w (List.mem_cons_of_mem _ hw)
  have hown : s.vm.findClass RX4 = some m.cls := findClass_of_methodNamed B9.named
  have hlocks := B9.notSynchronized
  have hin : meth.name = "<init>" := (name_of_methodNamed B9.named B9.method).1
  have hK := hCon.1
  have hS : va_S (Al B) s.heap s.heap [] := va_S.rf
  have hl := lv_entry ([.ref (B + i)]) (n := 1) (Nat.le_of_ble_eq_true rfl)
  rw [lg_entry_eq]
  generalize (lg_sl ([.ref (B + i)]) ++ List.replicate (1 - (lg_sl ([.ref (B + i)])).length) Slot.unset).toArray = ls at hl ⊢
  have hl : lv_has ls 1 [(0, .ref (B + i))] := hl
  refine lv_aload_n hx hb dX4_init_0 rfl (lv_at hl 0 rfl) ?_
  refine W.objInit hx hb hown (hts _ wC_24) (hts _ wC_1) (hts _ wC_2) rfl (by rw [hml]; exact hl.1) rfl dX4_init_1 (Nat.le_of_ble_eq_true rfl) (Nat.le_of_ble_eq_true rfl) ?_
  refine W.eq (g2 := F0 m 4 ls []) rfl ?_
  refine lv_aload_n hx hb dX4_init_4 rfl (lv_at hl 0 rfl) ?_
  refine lv_iconst (v := 3) hx hb dX4_init_5 (by decide) ?_
  refine eh_newa (atype := .int) (t0 := 0) (c1 := cA 1) (N' := 3) (a0 := (3, .inl (fun _ => 0))) hx hb hts hK hE hS wC_3 rfl (fun _ => rfl) (by decide) (by decide) (by decide) (Nat.le_of_ble_eq_true rfl) (Nat.le_of_ble_eq_true rfl) dX4_init_6 (fun H hE hS => ?_)
  refine eh_put (b := 4) (i := i) (k := 0) (fs := [.null, .null, .null]) (v := .ref (B + N)) hx hb hts hown hK hE hS (by decide) (by omega) (by rw [gup_ne (by omega), he]) (by decide) wC_25 (Or.inr ⟨rfl, hin, rfl⟩) rfl rfl (Nat.le_of_ble_eq_true rfl) dX4_init_8 (fun H locs hE hS => ?_)
  refine lv_aload_n hx hb dX4_init_11 rfl (lv_at hl 0 rfl) ?_
  refine lv_iconst (v := 3) hx hb dX4_init_12 (by decide) ?_
  refine eh_newa (atype := .int) (t0 := 0) (c1 := cA 1) (N' := 3) (a0 := (3, .inl (fun _ => 0))) hx hb hts hK hE hS wC_3 rfl (fun _ => rfl) (by decide) (by decide) (by decide) (Nat.le_of_ble_eq_true rfl) (Nat.le_of_ble_eq_true rfl) dX4_init_13 (fun H hE hS => ?_)
  refine eh_put (b := 4) (i := i) (k := 1) (fs := [.ref (B + N), .null, .null]) (v := .ref (B + (N + 1))) hx hb hts hown hK hE hS (by decide) (by omega) (by rw [gup_ne (by omega), gup_same] <;> rfl) (by decide) wC_26 (Or.inr ⟨rfl, hin, rfl⟩) rfl rfl (Nat.le_of_ble_eq_true rfl) dX4_init_15 (fun H locs hE hS => ?_)
  refine lv_aload_n hx hb dX4_init_18 rfl (lv_at hl 0 rfl) ?_
  refine lv_iconst (v := 3) hx hb dX4_init_19 (by decide) ?_
  refine eh_newa (atype := .int) (t0 := 0) (c1 := cA 1) (N' := 3) (a0 := (3, .inl (fun _ => 0))) hx hb hts hK hE hS wC_3 rfl (fun _ => rfl) (by decide) (by decide) (by decide) (Nat.le_of_ble_eq_true rfl) (Nat.le_of_ble_eq_true rfl) dX4_init_20 (fun H hE hS => ?_)
  refine eh_put (b := 4) (i := i) (k := 2) (fs := [.ref (B + N), .ref (B + (N + 1)), .null]) (v := .ref (B + ((N + 1) + 1))) hx hb hts hown hK hE hS (by decide) (by omega) (by rw [gup_ne (by omega), gup_same] <;> rfl) (by decide) wC_27 (Or.inr ⟨rfl, hin, rfl⟩) rfl rfl (Nat.le_of_ble_eq_true rfl) dX4_init_22 (fun H locs hE hS => ?_)
  exact W.vret hx hb hr (fun t ht hW => ⟨⟨_, rfl, ⟨(fun k hk hki => by rw [gup_ne (by omega), gup_ne (by omega), gup_ne (by omega), gup_ne (by omega), gup_ne (by omega), gup_ne (by omega)]), (by rw [gup_same] <;> rfl), (by rw [gup_ne (by omega), gup_ne (by omega), gup_ne (by omega), gup_ne (by omega), gup_ne (by omega), gup_same] <;> rfl), (by rw [gup_ne (by omega), gup_ne (by omega), gup_ne (by omega), gup_same] <;> rfl), (by rw [gup_ne (by omega), gup_same] <;> rfl)⟩, hE.moved ht⟩, hS.F ht⟩) hS.2.2 dX4_init_25
theorem dX2_init_0 : decode cX2_init 0 = .ok (.aload_n 0, 1) := by decide +kernel
theorem dX2_init_1 : decode cX2_init 1 = .ok (.invokespecial 1, 3) := by decide +kernel
theorem dX2_init_4 : decode cX2_init 4 = .ok (.aload_n 0, 1) := by decide +kernel
theorem dX2_init_5 : decode cX2_init 5 = .ok (.iconst 1, 1) := by decide +kernel
theorem dX2_init_6 : decode cX2_init 6 = .ok (.putfield 7, 3) := by decide +kernel
theorem dX2_init_9 : decode cX2_init 9 = .ok (.aload_n 0, 1) := by decide +kernel
theorem dX2_init_10 : decode cX2_init 10 = .ok (.iconst 1, 1) := by decide +kernel
theorem dX2_init_11 : decode cX2_init 11 = .ok (.putfield 13, 3) := by decide +kernel
theorem dX2_init_14 : decode cX2_init 14 = .ok (.return_, 1) := by decide +kernel
theorem wC_29 : ((Jvm.Cond.methodLink "Queueward$Envelope" (1 : Nat) ({ cls := "java/lang/Object", name := "<init>", desc := "()V" } : Jvm.MethodName)) : Cond) ∈ LW := LW_mem (lw_in2 _ (List.mem_of_getElem? (i := 123) (by decide +kernel))) rfl
theorem wC_30 : ((Jvm.Cond.fieldLink "Queueward$Envelope" (7 : Nat) "Queueward$Envelope" "below" "I") : Cond) ∈ LW := LW_mem (lw_in2 _ (List.mem_of_getElem? (i := 128) (by decide +kernel))) rfl
theorem wC_31 : ((Jvm.Cond.fieldLink "Queueward$Envelope" (13 : Nat) "Queueward$Envelope" "leastBelow" "I") : Cond) ∈ LW := LW_mem (lw_in2 _ (List.mem_of_getElem? (i := 134) (by decide +kernel))) rfl
theorem wC_32 : ((Jvm.Cond.code ({ cls := "Queueward$Envelope", name := "<init>", desc := "()V" } : Jvm.MethodName) prog_4_method_1_code (1 : Nat) (Option.none : Option Jvm.ClassFile.FieldType)) : Cond) ∈ LW := LW_mem (lw_in2 _ (List.mem_of_getElem? (i := 122) (by decide +kernel))) rfl
set_option maxHeartbeats 4000000 in
set_option maxRecDepth 100000 in
theorem k_X2 {l : Launch} {D : va_G} {cA : Nat → ClassId} {B N i : Nat} {g : Nat → va_E} (hi : i < N) (he : g i = .inr (2, [.int 0, .int 0, .int 0, .int 0, .int 0, .int 0, .int 0])) : Met l yX2_init (wMt yX2_init cX2_init 1 none) ({ frames := 1, cells := 0, slots := 0, locals := 12 }) (va_Pc [.ref (B + i)] (fun U => EH D B N g U.heap ∧ wCon cA D U)) (va_Qv (fun g1 : Nat → va_E => (∀ k, k < N → k ≠ i → g1 k = g k) ∧ g1 i = .inr (2, [.int 0, .int 0, .int 1, .int 0, .int 0, .int 0, .int 1])) (fun g1 t => EH D B N g1 t.heap) (Al B)) 0 0 (Al B) := by
  refine Met.ofW (cc := cX2_init) (maxL := 1) (ret := none) (by decide) rfl ?_
  intro p e s m args below meth c s₁ B9 hml hv
  obtain ⟨rfl, hE, hCon⟩ := hv
  have hx := B9.exec
  have hb := B9.bytes
  have hr := B9.returns
  have hts0 := atoms_spec (ws := wMt yX2_init cX2_init 1 none) B9.pre
  have hts : ∀ w ∈ LW, w.before _ s = true := fun w hw => hts0 w (List.mem_cons_of_mem _ hw)
  have hown : s.vm.findClass RX2 = some m.cls := findClass_of_methodNamed B9.named
  have hlocks := B9.notSynchronized
  have hin : meth.name = "<init>" := (name_of_methodNamed B9.named B9.method).1
  have hK := hCon.1
  have hS : va_S (Al B) s.heap s.heap [] := va_S.rf
  have hl := lv_entry ([.ref (B + i)]) (n := 1) (Nat.le_of_ble_eq_true rfl)
  rw [lg_entry_eq]
  generalize (lg_sl ([.ref (B + i)]) ++ List.replicate (1 - (lg_sl ([.ref (B + i)])).length) Slot.unset).toArray = ls at hl ⊢
  have hl : lv_has ls 1 [(0, .ref (B + i))] := hl
  refine lv_aload_n hx hb dX2_init_0 rfl (lv_at hl 0 rfl) ?_
  refine W.objInit hx hb hown (hts _ wC_29) (hts _ wC_1) (hts _ wC_2) rfl (by rw [hml]; exact hl.1) rfl dX2_init_1 (Nat.le_of_ble_eq_true rfl) (Nat.le_of_ble_eq_true rfl) ?_
  refine W.eq (g2 := F0 m 4 ls []) rfl ?_
  refine lv_aload_n hx hb dX2_init_4 rfl (lv_at hl 0 rfl) ?_
  refine lv_iconst (v := 1) hx hb dX2_init_5 (by decide) ?_
  refine eh_put (b := 2) (i := i) (k := 2) (fs := [.int 0, .int 0, .int 0, .int 0, .int 0, .int 0, .int 0]) (v := .int 1) hx hb hts hown hK hE hS (by decide) (by omega) (by rw [he]) (by decide) wC_30 (Or.inl rfl) rfl rfl (Nat.le_of_ble_eq_true rfl) dX2_init_6 (fun H locs hE hS => ?_)
  refine lv_aload_n hx hb dX2_init_9 rfl (lv_at hl 0 rfl) ?_
  refine lv_iconst (v := 1) hx hb dX2_init_10 (by decide) ?_
  refine eh_put (b := 2) (i := i) (k := 6) (fs := [.int 0, .int 0, .int 1, .int 0, .int 0, .int 0, .int 0]) (v := .int 1) hx hb hts hown hK hE hS (by decide) (by omega) (by rw [gup_same] <;> rfl) (by decide) wC_31 (Or.inl rfl) rfl rfl (Nat.le_of_ble_eq_true rfl) dX2_init_11 (fun H locs hE hS => ?_)
  exact W.vret hx hb hr (fun t ht hW => ⟨⟨_, rfl, ⟨(fun k hk hki => by rw [gup_ne (by omega), gup_ne (by omega)]), (by rw [gup_same] <;> rfl)⟩, hE.moved ht⟩, hS.F ht⟩) hS.2.2 dX2_init_14
theorem dX6_init_0 : decode cX6_init 0 = .ok (.aload_n 0, 1) := by decide +kernel
theorem dX6_init_1 : decode cX6_init 1 = .ok (.invokespecial 1, 3) := by decide +kernel
theorem dX6_init_4 : decode cX6_init 4 = .ok (.aload_n 0, 1) := by decide +kernel
theorem dX6_init_5 : decode cX6_init 5 = .ok (.new 7, 3) := by decide +kernel
theorem dX6_init_8 : decode cX6_init 8 = .ok (.dup, 1) := by decide +kernel
theorem dX6_init_9 : decode cX6_init 9 = .ok (.invokespecial 9, 3) := by decide +kernel
theorem dX6_init_12 : decode cX6_init 12 = .ok (.putfield 10, 3) := by decide +kernel
theorem dX6_init_15 : decode cX6_init 15 = .ok (.aload_n 0, 1) := by decide +kernel
theorem dX6_init_16 : decode cX6_init 16 = .ok (.new 7, 3) := by decide +kernel
theorem dX6_init_19 : decode cX6_init 19 = .ok (.dup, 1) := by decide +kernel
theorem dX6_init_20 : decode cX6_init 20 = .ok (.invokespecial 9, 3) := by decide +kernel
theorem dX6_init_23 : decode cX6_init 23 = .ok (.putfield 16, 3) := by decide +kernel
theorem dX6_init_26 : decode cX6_init 26 = .ok (.aload_n 0, 1) := by decide +kernel
theorem dX6_init_27 : decode cX6_init 27 = .ok (.new 7, 3) := by decide +kernel
theorem dX6_init_30 : decode cX6_init 30 = .ok (.dup, 1) := by decide +kernel
theorem dX6_init_31 : decode cX6_init 31 = .ok (.invokespecial 9, 3) := by decide +kernel
theorem dX6_init_34 : decode cX6_init 34 = .ok (.putfield 19, 3) := by decide +kernel
theorem dX6_init_37 : decode cX6_init 37 = .ok (.aload_n 0, 1) := by decide +kernel
theorem dX6_init_38 : decode cX6_init 38 = .ok (.new 7, 3) := by decide +kernel
theorem dX6_init_41 : decode cX6_init 41 = .ok (.dup, 1) := by decide +kernel
theorem dX6_init_42 : decode cX6_init 42 = .ok (.invokespecial 9, 3) := by decide +kernel
theorem dX6_init_45 : decode cX6_init 45 = .ok (.putfield 22, 3) := by decide +kernel
theorem dX6_init_48 : decode cX6_init 48 = .ok (.return_, 1) := by decide +kernel
theorem wC_33 : ((Jvm.Cond.methodLink "Queueward$Loss" (1 : Nat) ({ cls := "java/lang/Object", name := "<init>", desc := "()V" } : Jvm.MethodName)) : Cond) ∈ LW := LW_mem (lw_in2 _ (List.mem_of_getElem? (i := 39) (by decide +kernel))) rfl
theorem wC_34 : ((Jvm.Cond.classLink "Queueward$Loss" (7 : Nat) "Queueward$Big") : Cond) ∈ LW := LW_mem (lw_in2 _ (List.mem_of_getElem? (i := 40) (by decide +kernel))) rfl
theorem wC_35 : ((Jvm.Cond.instantiable "Queueward$Big" (2 : Nat)) : Cond) ∈ LW := LW_mem (lw_in1 _ (List.mem_of_getElem? (i := 53) (by decide +kernel))) rfl
theorem wC_36 : ((Jvm.Cond.initialized "Queueward$Big") : Cond) ∈ LW := LW_mem (lw_in1 _ (List.mem_of_getElem? (i := 3) (by decide +kernel))) rfl
theorem wC_37 : ((Jvm.Cond.instanceMethod ({ cls := "Queueward$Big", name := "<init>", desc := "()V" } : Jvm.MethodName)) : Cond) ∈ LW := LW_mem (lw_in1 _ (List.mem_of_getElem? (i := 55) (by decide +kernel))) rfl
theorem wC_38 : ((Jvm.Cond.fieldLink "Queueward$Loss" (10 : Nat) "Queueward$Loss" "lost" "LQueueward$Big;") : Cond) ∈ LW := LW_mem (lw_in2 _ (List.mem_of_getElem? (i := 42) (by decide +kernel))) rfl
theorem wC_39 : ((Jvm.Cond.fieldLink "Queueward$Loss" (16 : Nat) "Queueward$Loss" "all" "LQueueward$Big;") : Cond) ∈ LW := LW_mem (lw_in2 _ (List.mem_of_getElem? (i := 44) (by decide +kernel))) rfl
theorem wC_40 : ((Jvm.Cond.fieldLink "Queueward$Loss" (19 : Nat) "Queueward$Loss" "one" "LQueueward$Big;") : Cond) ∈ LW := LW_mem (lw_in2 _ (List.mem_of_getElem? (i := 46) (by decide +kernel))) rfl
theorem wC_41 : ((Jvm.Cond.fieldLink "Queueward$Loss" (22 : Nat) "Queueward$Loss" "other" "LQueueward$Big;") : Cond) ∈ LW := LW_mem (lw_in2 _ (List.mem_of_getElem? (i := 47) (by decide +kernel))) rfl
theorem wC_42 : ((Jvm.Cond.code ({ cls := "Queueward$Loss", name := "<init>", desc := "()V" } : Jvm.MethodName) prog_8_method_1_code (1 : Nat) (Option.none : Option Jvm.ClassFile.FieldType)) : Cond) ∈ LW := LW_mem (lw_in2 _ (List.mem_of_getElem? (i := 38) (by decide +kernel))) rfl
set_option maxHeartbeats 4000000 in
set_option maxRecDepth 100000 in
theorem k_X6 {l : Launch} {D : va_G} {cA : Nat → ClassId} {B N i : Nat} {g : Nat → va_E} (hi : i < N) (he : g i = .inr (6, [.null, .null, .null, .null, .long 0, .long 0])) : Met l yX6_init (wMt yX6_init cX6_init 1 none) ({ frames := 2, cells := 8, slots := 88, locals := 32 }) (va_Pc [.ref (B + i)] (fun U => EH D B N g U.heap ∧ wCon cA D U)) (va_Qv (fun g1 : Nat → va_E => (∀ k, k < N → k ≠ i → g1 k = g k) ∧ g1 i = .inr (6, [.ref (B + N), .ref (B + ((N + 1) + 1)), .ref (B + ((((N + 1) + 1) + 1) + 1)), .ref (B + ((((((N + 1) + 1) + 1) + 1) + 1) + 1)), .long 0, .long 0]) ∧ g1 N = .inr (0, [.ref (B + (N + 1)), .int 0]) ∧ g1 (N + 1) = .inl (cA 1, (20, .inl (fun _ => 0))) ∧ g1 ((N + 1) + 1) = .inr (0, [.ref (B + (((N + 1) + 1) + 1)), .int 0]) ∧ g1 (((N + 1) + 1) + 1) = .inl (cA 1, (20, .inl (fun _ => 0))) ∧ g1 ((((N + 1) + 1) + 1) + 1) = .inr (0, [.ref (B + (((((N + 1) + 1) + 1) + 1) + 1)), .int 0]) ∧ g1 (((((N + 1) + 1) + 1) + 1) + 1) = .inl (cA 1, (20, .inl (fun _ => 0))) ∧ g1 ((((((N + 1) + 1) + 1) + 1) + 1) + 1) = .inr (0, [.ref (B + (((((((N + 1) + 1) + 1) + 1) + 1) + 1) + 1)), .int 0]) ∧ g1 (((((((N + 1) + 1) + 1) + 1) + 1) + 1) + 1) = .inl (cA 1, (20, .inl (fun _ => 0)))) (fun g1 t => EH D B ((((((((N + 1) + 1) + 1) + 1) + 1) + 1) + 1) + 1) g1 t.heap) (Al B)) 8 88 (Al B) := by
  refine Met.ofW (cc := cX6_init) (maxL := 1) (ret := none) (by decide) rfl ?_
  intro p e s m args below meth c s₁ B9 hml hv
  obtain ⟨rfl, hE, hCon⟩ := hv
  have hx := B9.exec
  have hb := B9.bytes
  have hr := B9.returns
  have hts0 := atoms_spec (ws := wMt yX6_init cX6_init 1 none) B9.pre
  have hts : ∀ w ∈ LW, w.before _ s = true := fun w hw => hts0 w (List.mem_cons_of_mem _ hw)
  have hown : s.vm.findClass RX6 = some m.cls := findClass_of_methodNamed B9.named
  have hlocks := B9.notSynchronized
  have hin : meth.name = "<init>" := (name_of_methodNamed B9.named B9.method).1
  have hK := hCon.1
  have hS : va_S (Al B) s.heap s.heap [] := va_S.rf
  have hl := lv_entry ([.ref (B + i)]) (n := 1) (Nat.le_of_ble_eq_true rfl)
  rw [lg_entry_eq]
  generalize (lg_sl ([.ref (B + i)]) ++ List.replicate (1 - (lg_sl ([.ref (B + i)])).length) Slot.unset).toArray = ls at hl ⊢
  have hl : lv_has ls 1 [(0, .ref (B + i))] := hl
  refine lv_aload_n hx hb dX6_init_0 rfl (lv_at hl 0 rfl) ?_
  refine W.objInit hx hb hown (hts _ wC_33) (hts _ wC_1) (hts _ wC_2) rfl (by rw [hml]; exact hl.1) rfl dX6_init_1 (Nat.le_of_ble_eq_true rfl) (Nat.le_of_ble_eq_true rfl) ?_
  refine W.eq (g2 := F0 m 4 ls []) rfl ?_
  refine lv_aload_n hx hb dX6_init_4 rfl (lv_at hl 0 rfl) ?_
  refine eh_new (b := 0) (fs := [.null, .int 0]) hx hb hts hown hK hE hS (by decide) wC_34 wC_35 wC_36 dflt0 (Nat.le_of_ble_eq_true rfl) (Nat.le_of_ble_eq_true rfl) dX6_init_5 (fun H hE hS => ?_)
  refine lv_dup hx hb dX6_init_8 rfl ?_
  refine va_callv (va_runIN (As := []) (rest := [.ref (B + N), .ref (B + i)]) ⟨hx, hb, hml, hown, hts⟩ (k_X0 (l := l) (D := D) (cA := cA) (B := B) (N := (N + 1)) (i := N) (g := (gup g N (.inr (0, [.null, .int 0])))) (by omega) (by rw [gup_same] <;> rfl)) (⟨va_cnB 0 hts (wMt_good wC_5) rfl rfl rfl (hCon.2.1 _ _ _ "Queueward" (lw_in2 _ (List.mem_of_getElem? (i := 41) (by decide +kernel)))) (hts _ wC_36) (by decide +kernel) ⟨Nat.le_of_ble_eq_true rfl, Nat.le_of_ble_eq_true rfl⟩, rfl, hts _ wC_37⟩) ⟨fun a U g9 mk q => by obtain ⟨q0, q1, q2⟩ := q; exact ⟨q0, q1, q2.warm (s := U) (U := U.calling g9 mk a) (State.WarmedH.refl U)⟩, fun U hU hW => ⟨rfl, by rw [hU]; exact hE, hCon.warm hW⟩⟩ rfl rfl hl.1 rfl (lv_room (Nat.le_of_ble_eq_true rfl)) dX6_init_9 ⟨Nat.le_of_ble_eq_true rfl, Nat.le_of_ble_eq_true rfl⟩) hS (fun q _ h => h) (fun q h => h) (fun g1 tt H locs ht hvm hw hB hz1 hk1 hS => ?_)
  obtain ⟨a1_0, a1_1, a1_2⟩ := hw
  have hE := EH.moved hB ht.symm
  refine eh_put (b := 6) (i := i) (k := 0) (fs := [.null, .null, .null, .null, .long 0, .long 0]) (v := .ref (B + N)) hx hb hts hown hK hE hS (by decide) (by omega) (by rw [a1_0 _ (by omega) (by omega), gup_ne (by omega), he]) (by decide) wC_38 (Or.inr ⟨rfl, hin, rfl⟩) rfl rfl (Nat.le_of_ble_eq_true rfl) dX6_init_12 (fun H locs hE hS => ?_)
  refine lv_aload_n hx hb dX6_init_15 rfl (lv_at hl 0 rfl) ?_
  refine eh_new (b := 0) (fs := [.null, .int 0]) hx hb hts hown hK hE hS (by decide) wC_34 wC_35 wC_36 dflt0 (Nat.le_of_ble_eq_true rfl) (Nat.le_of_ble_eq_true rfl) dX6_init_16 (fun H hE hS => ?_)
  refine lv_dup hx hb dX6_init_19 rfl ?_
  refine va_callv (va_runIN (As := []) (rest := [.ref (B + ((N + 1) + 1)), .ref (B + i)]) ⟨hx, hb, hml, hown, hts⟩ (k_X0 (l := l) (D := D) (cA := cA) (B := B) (N := (((N + 1) + 1) + 1)) (i := ((N + 1) + 1)) (g := (gup (gup g1 i (.inr (6, [.ref (B + N), .null, .null, .null, .long 0, .long 0]))) ((N + 1) + 1) (.inr (0, [.null, .int 0])))) (by omega) (by rw [gup_same] <;> rfl)) (⟨va_cnB 0 hts (wMt_good wC_5) rfl rfl rfl (hCon.2.1 _ _ _ "Queueward" (lw_in2 _ (List.mem_of_getElem? (i := 41) (by decide +kernel)))) (hts _ wC_36) (by decide +kernel) ⟨Nat.le_of_ble_eq_true rfl, Nat.le_of_ble_eq_true rfl⟩, rfl, hts _ wC_37⟩) ⟨fun a U g9 mk q => by obtain ⟨q0, q1, q2⟩ := q; exact ⟨q0, q1, q2.warm (s := U) (U := U.calling g9 mk a) (State.WarmedH.refl U)⟩, fun U hU hW => ⟨rfl, by rw [hU]; exact hE, hCon.warm hW⟩⟩ rfl rfl hl.1 rfl (lv_room (Nat.le_of_ble_eq_true rfl)) dX6_init_20 ⟨Nat.le_of_ble_eq_true rfl, Nat.le_of_ble_eq_true rfl⟩) hS (fun q _ h => h) (fun q h => h) (fun g2 tt H locs ht hvm hw hB hz1 hk1 hS => ?_)
  obtain ⟨a2_0, a2_1, a2_2⟩ := hw
  have hE := EH.moved hB ht.symm
  refine eh_put (b := 6) (i := i) (k := 1) (fs := [.ref (B + N), .null, .null, .null, .long 0, .long 0]) (v := .ref (B + ((N + 1) + 1))) hx hb hts hown hK hE hS (by decide) (by omega) (by rw [a2_0 _ (by omega) (by omega), gup_ne (by omega), gup_same] <;> rfl) (by decide) wC_39 (Or.inr ⟨rfl, hin, rfl⟩) rfl rfl (Nat.le_of_ble_eq_true rfl) dX6_init_23 (fun H locs hE hS => ?_)
  refine lv_aload_n hx hb dX6_init_26 rfl (lv_at hl 0 rfl) ?_
  refine eh_new (b := 0) (fs := [.null, .int 0]) hx hb hts hown hK hE hS (by decide) wC_34 wC_35 wC_36 dflt0 (Nat.le_of_ble_eq_true rfl) (Nat.le_of_ble_eq_true rfl) dX6_init_27 (fun H hE hS => ?_)
  refine lv_dup hx hb dX6_init_30 rfl ?_
  refine va_callv (va_runIN (As := []) (rest := [.ref (B + ((((N + 1) + 1) + 1) + 1)), .ref (B + i)]) ⟨hx, hb, hml, hown, hts⟩ (k_X0 (l := l) (D := D) (cA := cA) (B := B) (N := (((((N + 1) + 1) + 1) + 1) + 1)) (i := ((((N + 1) + 1) + 1) + 1)) (g := (gup (gup g2 i (.inr (6, [.ref (B + N), .ref (B + ((N + 1) + 1)), .null, .null, .long 0, .long 0]))) ((((N + 1) + 1) + 1) + 1) (.inr (0, [.null, .int 0])))) (by omega) (by rw [gup_same] <;> rfl)) (⟨va_cnB 0 hts (wMt_good wC_5) rfl rfl rfl (hCon.2.1 _ _ _ "Queueward" (lw_in2 _ (List.mem_of_getElem? (i := 41) (by decide +kernel)))) (hts _ wC_36) (by decide +kernel) ⟨Nat.le_of_ble_eq_true rfl, Nat.le_of_ble_eq_true rfl⟩, rfl, hts _ wC_37⟩) ⟨fun a U g9 mk q => by obtain ⟨q0, q1, q2⟩ := q; exact ⟨q0, q1, q2.warm (s := U) (U := U.calling g9 mk a) (State.WarmedH.refl U)⟩, fun U hU hW => ⟨rfl, by rw [hU]; exact hE, hCon.warm hW⟩⟩ rfl rfl hl.1 rfl (lv_room (Nat.le_of_ble_eq_true rfl)) dX6_init_31 ⟨Nat.le_of_ble_eq_true rfl, Nat.le_of_ble_eq_true rfl⟩) hS (fun q _ h => h) (fun q h => h) (fun g3 tt H locs ht hvm hw hB hz1 hk1 hS => ?_)
  obtain ⟨a3_0, a3_1, a3_2⟩ := hw
  have hE := EH.moved hB ht.symm
  refine eh_put (b := 6) (i := i) (k := 2) (fs := [.ref (B + N), .ref (B + ((N + 1) + 1)), .null, .null, .long 0, .long 0]) (v := .ref (B + ((((N + 1) + 1) + 1) + 1))) hx hb hts hown hK hE hS (by decide) (by omega) (by rw [a3_0 _ (by omega) (by omega), gup_ne (by omega), gup_same] <;> rfl) (by decide) wC_40 (Or.inr ⟨rfl, hin, rfl⟩) rfl rfl (Nat.le_of_ble_eq_true rfl) dX6_init_34 (fun H locs hE hS => ?_)
  refine lv_aload_n hx hb dX6_init_37 rfl (lv_at hl 0 rfl) ?_
  refine eh_new (b := 0) (fs := [.null, .int 0]) hx hb hts hown hK hE hS (by decide) wC_34 wC_35 wC_36 dflt0 (Nat.le_of_ble_eq_true rfl) (Nat.le_of_ble_eq_true rfl) dX6_init_38 (fun H hE hS => ?_)
  refine lv_dup hx hb dX6_init_41 rfl ?_
  refine va_callv (va_runIN (As := []) (rest := [.ref (B + ((((((N + 1) + 1) + 1) + 1) + 1) + 1)), .ref (B + i)]) ⟨hx, hb, hml, hown, hts⟩ (k_X0 (l := l) (D := D) (cA := cA) (B := B) (N := (((((((N + 1) + 1) + 1) + 1) + 1) + 1) + 1)) (i := ((((((N + 1) + 1) + 1) + 1) + 1) + 1)) (g := (gup (gup g3 i (.inr (6, [.ref (B + N), .ref (B + ((N + 1) + 1)), .ref (B + ((((N + 1) + 1) + 1) + 1)), .null, .long 0, .long 0]))) ((((((N + 1) + 1) + 1) + 1) + 1) + 1) (.inr (0, [.null, .int 0])))) (by omega) (by rw [gup_same] <;> rfl)) (⟨va_cnB 0 hts (wMt_good wC_5) rfl rfl rfl (hCon.2.1 _ _ _ "Queueward" (lw_in2 _ (List.mem_of_getElem? (i := 41) (by decide +kernel)))) (hts _ wC_36) (by decide +kernel) ⟨Nat.le_of_ble_eq_true rfl, Nat.le_of_ble_eq_true rfl⟩, rfl, hts _ wC_37⟩) ⟨fun a U g9 mk q => by obtain ⟨q0, q1, q2⟩ := q; exact ⟨q0, q1, q2.warm (s := U) (U := U.calling g9 mk a) (State.WarmedH.refl U)⟩, fun U hU hW => ⟨rfl, by rw [hU]; exact hE, hCon.warm hW⟩⟩ rfl rfl hl.1 rfl (lv_room (Nat.le_of_ble_eq_true rfl)) dX6_init_42 ⟨Nat.le_of_ble_eq_true rfl, Nat.le_of_ble_eq_true rfl⟩) hS (fun q _ h => h) (fun q h => h) (fun g4 tt H locs ht hvm hw hB hz1 hk1 hS => ?_)
  obtain ⟨a4_0, a4_1, a4_2⟩ := hw
  have hE := EH.moved hB ht.symm
  refine eh_put (b := 6) (i := i) (k := 3) (fs := [.ref (B + N), .ref (B + ((N + 1) + 1)), .ref (B + ((((N + 1) + 1) + 1) + 1)), .null, .long 0, .long 0]) (v := .ref (B + ((((((N + 1) + 1) + 1) + 1) + 1) + 1))) hx hb hts hown hK hE hS (by decide) (by omega) (by rw [a4_0 _ (by omega) (by omega), gup_ne (by omega), gup_same] <;> rfl) (by decide) wC_41 (Or.inr ⟨rfl, hin, rfl⟩) rfl rfl (Nat.le_of_ble_eq_true rfl) dX6_init_45 (fun H locs hE hS => ?_)
  exact W.vret hx hb hr (fun t ht hW => ⟨⟨_, rfl, ⟨(fun k hk hki => by rw [gup_ne (by omega), a4_0 _ (by omega) (by omega), gup_ne (by omega), gup_ne (by omega), a3_0 _ (by omega) (by omega), gup_ne (by omega), gup_ne (by omega), a2_0 _ (by omega) (by omega), gup_ne (by omega), gup_ne (by omega), a1_0 _ (by omega) (by omega), gup_ne (by omega)]), (by rw [gup_same] <;> rfl), (by rw [gup_ne (by omega), a4_0 _ (by omega) (by omega), gup_ne (by omega), gup_ne (by omega), a3_0 _ (by omega) (by omega), gup_ne (by omega), gup_ne (by omega), a2_0 _ (by omega) (by omega), gup_ne (by omega), gup_ne (by omega), a1_1]), (by rw [gup_ne (by omega), a4_0 _ (by omega) (by omega), gup_ne (by omega), gup_ne (by omega), a3_0 _ (by omega) (by omega), gup_ne (by omega), gup_ne (by omega), a2_0 _ (by omega) (by omega), gup_ne (by omega), gup_ne (by omega), a1_2]), (by rw [gup_ne (by omega), a4_0 _ (by omega) (by omega), gup_ne (by omega), gup_ne (by omega), a3_0 _ (by omega) (by omega), gup_ne (by omega), gup_ne (by omega), a2_1]), (by rw [gup_ne (by omega), a4_0 _ (by omega) (by omega), gup_ne (by omega), gup_ne (by omega), a3_0 _ (by omega) (by omega), gup_ne (by omega), gup_ne (by omega), a2_2]), (by rw [gup_ne (by omega), a4_0 _ (by omega) (by omega), gup_ne (by omega), gup_ne (by omega), a3_1]), (by rw [gup_ne (by omega), a4_0 _ (by omega) (by omega), gup_ne (by omega), gup_ne (by omega), a3_2]), (by rw [gup_ne (by omega), a4_1]), (by rw [gup_ne (by omega), a4_2])⟩, hE.moved ht⟩, hS.F ht⟩) hS.2.2 dX6_init_48
theorem dX5_init_0 : decode cX5_init 0 = .ok (.aload_n 0, 1) := by decide +kernel
theorem dX5_init_1 : decode cX5_init 1 = .ok (.invokespecial 3, 3) := by decide +kernel
theorem dX5_init_4 : decode cX5_init 4 = .ok (.aload_n 0, 1) := by decide +kernel
theorem dX5_init_5 : decode cX5_init 5 = .ok (.bipush 96, 2) := by decide +kernel
theorem dX5_init_7 : decode cX5_init 7 = .ok (.newarray .int, 2) := by decide +kernel
theorem dX5_init_9 : decode cX5_init 9 = .ok (.putfield 11, 3) := by decide +kernel
theorem dX5_init_12 : decode cX5_init 12 = .ok (.aload_n 0, 1) := by decide +kernel
theorem dX5_init_13 : decode cX5_init 13 = .ok (.bipush 20, 2) := by decide +kernel
theorem dX5_init_15 : decode cX5_init 15 = .ok (.newarray .int, 2) := by decide +kernel
theorem dX5_init_17 : decode cX5_init 17 = .ok (.putfield 15, 3) := by decide +kernel
theorem dX5_init_20 : decode cX5_init 20 = .ok (.aload_n 0, 1) := by decide +kernel
theorem dX5_init_21 : decode cX5_init 21 = .ok (.bipush 20, 2) := by decide +kernel
theorem dX5_init_23 : decode cX5_init 23 = .ok (.bipush 96, 2) := by decide +kernel
theorem dX5_init_25 : decode cX5_init 25 = .ok (.multianewarray 18 2, 4) := by decide +kernel
theorem dX5_init_29 : decode cX5_init 29 = .ok (.putfield 20, 3) := by decide +kernel
theorem dX5_init_32 : decode cX5_init 32 = .ok (.return_, 1) := by decide +kernel
theorem wC_43 : ((Jvm.Cond.methodLink "Queueward$Jobs" (3 : Nat) ({ cls := "java/lang/Object", name := "<init>", desc := "()V" } : Jvm.MethodName)) : Cond) ∈ LW := LW_mem (lw_in1 _ (List.mem_of_getElem? (i := 127) (by decide +kernel))) rfl
theorem wC_44 : ((Jvm.Cond.fieldLink "Queueward$Jobs" (11 : Nat) "Queueward$Jobs" "parts" "[I") : Cond) ∈ LW := LW_mem (lw_in1 _ (List.mem_of_getElem? (i := 134) (by decide +kernel))) rfl
theorem wC_45 : ((Jvm.Cond.fieldLink "Queueward$Jobs" (15 : Nat) "Queueward$Jobs" "keptCounts" "[I") : Cond) ∈ LW := LW_mem (lw_in1 _ (List.mem_of_getElem? (i := 138) (by decide +kernel))) rfl
theorem wC_46 : ((Jvm.Cond.classLink "Queueward$Jobs" (18 : Nat) "[[I") : Cond) ∈ LW := LW_mem (lw_in1 _ (List.mem_of_getElem? (i := 128) (by decide +kernel))) rfl
theorem wC_47 : ((Jvm.Cond.fieldLink "Queueward$Jobs" (20 : Nat) "Queueward$Jobs" "keptParts" "[[I") : Cond) ∈ LW := LW_mem (lw_in1 _ (List.mem_of_getElem? (i := 139) (by decide +kernel))) rfl
theorem wC_48 : ((Jvm.Cond.code ({ cls := "Queueward$Jobs", name := "<init>", desc := "()V" } : Jvm.MethodName) prog_7_method_1_code (1 : Nat) (Option.none : Option Jvm.ClassFile.FieldType)) : Cond) ∈ LW := LW_mem (lw_in1 _ (List.mem_of_getElem? (i := 126) (by decide +kernel))) rfl
set_option maxHeartbeats 4000000 in
set_option maxRecDepth 100000 in
theorem k_X5 {l : Launch} {D : va_G} {cA : Nat → ClassId} {B N i : Nat} {g : Nat → va_E} (hi : i < N) (he : g i = .inr (5, [.int 0, .null, .int 0, .int 0, .null, .null])) : Met l yX5_init (wMt yX5_init cX5_init 1 none) ({ frames := 1, cells := 23, slots := 2056, locals := 12 }) (va_Pc [.ref (B + i)] (fun U => EH D B N g U.heap ∧ wCon cA D U)) (va_Qv (fun g1 : Nat → va_E => (∀ k, k < N → k ≠ i → g1 k = g k) ∧ g1 i = .inr (5, [.int 0, .ref (B + N), .int 0, .int 0, .ref (B + (N + 1)), .ref (B + ((N + 1) + 1))]) ∧ g1 N = .inl (cA 1, (96, .inl (fun _ => 0))) ∧ g1 (N + 1) = .inl (cA 1, (20, .inl (fun _ => 0))) ∧ g1 ((N + 1) + 1) = .inl (cA 3, 20, .inr (.inr (.inr (.inr (fun j9 => if j9 < 20 then some (B + ((N + 1) + 1) + 1 + j9) else none))))) ∧ g1 (((N + 1) + 1) + 1) = .inl (cA 1, (96, .inl (fun _ => 0))) ∧ g1 ((((N + 1) + 1) + 1) + 1) = .inl (cA 1, (96, .inl (fun _ => 0))) ∧ g1 (((((N + 1) + 1) + 1) + 1) + 1) = .inl (cA 1, (96, .inl (fun _ => 0))) ∧ g1 ((((((N + 1) + 1) + 1) + 1) + 1) + 1) = .inl (cA 1, (96, .inl (fun _ => 0))) ∧ g1 (((((((N + 1) + 1) + 1) + 1) + 1) + 1) + 1) = .inl (cA 1, (96, .inl (fun _ => 0))) ∧ g1 ((((((((N + 1) + 1) + 1) + 1) + 1) + 1) + 1) + 1) = .inl (cA 1, (96, .inl (fun _ => 0))) ∧ g1 (((((((((N + 1) + 1) + 1) + 1) + 1) + 1) + 1) + 1) + 1) = .inl (cA 1, (96, .inl (fun _ => 0))) ∧ g1 ((((((((((N + 1) + 1) + 1) + 1) + 1) + 1) + 1) + 1) + 1) + 1) = .inl (cA 1, (96, .inl (fun _ => 0))) ∧ g1 (((((((((((N + 1) + 1) + 1) + 1) + 1) + 1) + 1) + 1) + 1) + 1) + 1) = .inl (cA 1, (96, .inl (fun _ => 0))) ∧ g1 ((((((((((((N + 1) + 1) + 1) + 1) + 1) + 1) + 1) + 1) + 1) + 1) + 1) + 1) = .inl (cA 1, (96, .inl (fun _ => 0))) ∧ g1 (((((((((((((N + 1) + 1) + 1) + 1) + 1) + 1) + 1) + 1) + 1) + 1) + 1) + 1) + 1) = .inl (cA 1, (96, .inl (fun _ => 0))) ∧ g1 ((((((((((((((N + 1) + 1) + 1) + 1) + 1) + 1) + 1) + 1) + 1) + 1) + 1) + 1) + 1) + 1) = .inl (cA 1, (96, .inl (fun _ => 0))) ∧ g1 (((((((((((((((N + 1) + 1) + 1) + 1) + 1) + 1) + 1) + 1) + 1) + 1) + 1) + 1) + 1) + 1) + 1) = .inl (cA 1, (96, .inl (fun _ => 0))) ∧ g1 ((((((((((((((((N + 1) + 1) + 1) + 1) + 1) + 1) + 1) + 1) + 1) + 1) + 1) + 1) + 1) + 1) + 1) + 1) = .inl (cA 1, (96, .inl (fun _ => 0))) ∧ g1 (((((((((((((((((N + 1) + 1) + 1) + 1) + 1) + 1) + 1) + 1) + 1) + 1) + 1) + 1) + 1) + 1) + 1) + 1) + 1) = .inl (cA 1, (96, .inl (fun _ => 0))) ∧ g1 ((((((((((((((((((N + 1) + 1) + 1) + 1) + 1) + 1) + 1) + 1) + 1) + 1) + 1) + 1) + 1) + 1) + 1) + 1) + 1) + 1) = .inl (cA 1, (96, .inl (fun _ => 0))) ∧ g1 (((((((((((((((((((N + 1) + 1) + 1) + 1) + 1) + 1) + 1) + 1) + 1) + 1) + 1) + 1) + 1) + 1) + 1) + 1) + 1) + 1) + 1) = .inl (cA 1, (96, .inl (fun _ => 0))) ∧ g1 ((((((((((((((((((((N + 1) + 1) + 1) + 1) + 1) + 1) + 1) + 1) + 1) + 1) + 1) + 1) + 1) + 1) + 1) + 1) + 1) + 1) + 1) + 1) = .inl (cA 1, (96, .inl (fun _ => 0))) ∧ g1 (((((((((((((((((((((N + 1) + 1) + 1) + 1) + 1) + 1) + 1) + 1) + 1) + 1) + 1) + 1) + 1) + 1) + 1) + 1) + 1) + 1) + 1) + 1) + 1) = .inl (cA 1, (96, .inl (fun _ => 0))) ∧ g1 ((((((((((((((((((((((N + 1) + 1) + 1) + 1) + 1) + 1) + 1) + 1) + 1) + 1) + 1) + 1) + 1) + 1) + 1) + 1) + 1) + 1) + 1) + 1) + 1) + 1) = .inl (cA 1, (96, .inl (fun _ => 0)))) (fun g1 t => EH D B (((((((((((((((((((((((N + 1) + 1) + 1) + 1) + 1) + 1) + 1) + 1) + 1) + 1) + 1) + 1) + 1) + 1) + 1) + 1) + 1) + 1) + 1) + 1) + 1) + 1) + 1) g1 t.heap) (Al B)) 23 2056 (Al B) := by
  refine Met.ofW (cc := cX5_init) (maxL := 1) (ret := none) (by decide) rfl ?_
  intro p e s m args below meth c s₁ B9 hml hv
  obtain ⟨rfl, hE, hCon⟩ := hv
  have hx := B9.exec
  have hb := B9.bytes
  have hr := B9.returns
  have hts0 := atoms_spec (ws := wMt yX5_init cX5_init 1 none) B9.pre
  have hts : ∀ w ∈ LW, w.before _ s = true := fun w hw => hts0 w (List.mem_cons_of_mem _ hw)
  have hown : s.vm.findClass RX5 = some m.cls := findClass_of_methodNamed B9.named
  have hlocks := B9.notSynchronized
  have hin : meth.name = "<init>" := (name_of_methodNamed B9.named B9.method).1
  have hK := hCon.1
  have hS : va_S (Al B) s.heap s.heap [] := va_S.rf
  have hl := lv_entry ([.ref (B + i)]) (n := 1) (Nat.le_of_ble_eq_true rfl)
  rw [lg_entry_eq]
  generalize (lg_sl ([.ref (B + i)]) ++ List.replicate (1 - (lg_sl ([.ref (B + i)])).length) Slot.unset).toArray = ls at hl ⊢
  have hl : lv_has ls 1 [(0, .ref (B + i))] := hl
  refine lv_aload_n hx hb dX5_init_0 rfl (lv_at hl 0 rfl) ?_
  refine W.objInit hx hb hown (hts _ wC_43) (hts _ wC_1) (hts _ wC_2) rfl (by rw [hml]; exact hl.1) rfl dX5_init_1 (Nat.le_of_ble_eq_true rfl) (Nat.le_of_ble_eq_true rfl) ?_
  refine W.eq (g2 := F0 m 4 ls []) rfl ?_
  refine lv_aload_n hx hb dX5_init_4 rfl (lv_at hl 0 rfl) ?_
  refine lv_bipush (v := 96) hx hb dX5_init_5 (by decide) ?_
  refine eh_newa (atype := .int) (t0 := 0) (c1 := cA 1) (N' := 96) (a0 := (96, .inl (fun _ => 0))) hx hb hts hK hE hS wC_3 rfl (fun _ => rfl) (by decide) (by decide) (by decide) (Nat.le_of_ble_eq_true rfl) (Nat.le_of_ble_eq_true rfl) dX5_init_7 (fun H hE hS => ?_)
  refine eh_put (b := 5) (i := i) (k := 1) (fs := [.int 0, .null, .int 0, .int 0, .null, .null]) (v := .ref (B + N)) hx hb hts hown hK hE hS (by decide) (by omega) (by rw [gup_ne (by omega), he]) (by decide) wC_44 (Or.inr ⟨rfl, hin, rfl⟩) rfl rfl (Nat.le_of_ble_eq_true rfl) dX5_init_9 (fun H locs hE hS => ?_)
  refine lv_aload_n hx hb dX5_init_12 rfl (lv_at hl 0 rfl) ?_
  refine lv_bipush (v := 20) hx hb dX5_init_13 (by decide) ?_
  refine eh_newa (atype := .int) (t0 := 0) (c1 := cA 1) (N' := 20) (a0 := (20, .inl (fun _ => 0))) hx hb hts hK hE hS wC_3 rfl (fun _ => rfl) (by decide) (by decide) (by decide) (Nat.le_of_ble_eq_true rfl) (Nat.le_of_ble_eq_true rfl) dX5_init_15 (fun H hE hS => ?_)
  refine eh_put (b := 5) (i := i) (k := 4) (fs := [.int 0, .ref (B + N), .int 0, .int 0, .null, .null]) (v := .ref (B + (N + 1))) hx hb hts hown hK hE hS (by decide) (by omega) (by rw [gup_ne (by omega), gup_same] <;> rfl) (by decide) wC_45 (Or.inr ⟨rfl, hin, rfl⟩) rfl rfl (Nat.le_of_ble_eq_true rfl) dX5_init_17 (fun H locs hE hS => ?_)
  refine lv_aload_n hx hb dX5_init_20 rfl (lv_at hl 0 rfl) ?_
  refine lv_bipush (v := 20) hx hb dX5_init_21 (by decide) ?_
  refine lv_bipush (v := 96) hx hb dX5_init_23 (by decide) ?_
  refine eh_mna (ty := .int) (c1 := cA 3) (c2 := cA 1) (z := (96, .inl (fun _ => 0))) (N' := 20) (K' := 96) hx hb hown hE hS (hts _ wC_46) (AOA.use hCon.2.2.2.1) (hts _ wC_3) (hK.2 2 _ rfl).2 (hK.2 0 _ rfl).2 (by decide) (by decide) (by decide) (by decide) (Nat.le_of_ble_eq_true rfl) (Nat.le_of_ble_eq_true rfl) (Nat.le_of_ble_eq_true rfl) rfl rfl (Nat.le_of_ble_eq_true rfl) (Nat.le_of_ble_eq_true rfl) (fun x => arrV_new x 96 _) dX5_init_25 (fun H hE hS => ?_)
  refine eh_put (b := 5) (i := i) (k := 5) (fs := [.int 0, .ref (B + N), .int 0, .int 0, .ref (B + (N + 1)), .null]) (v := .ref (B + ((N + 1) + 1))) hx hb hts hown hK hE hS (by decide) (by omega) (by rw [gmna_lo (by omega), gup_same] <;> rfl) (by decide) wC_47 (Or.inr ⟨rfl, hin, rfl⟩) rfl rfl (Nat.le_of_ble_eq_true rfl) dX5_init_29 (fun H locs hE hS => ?_)
  exact W.vret hx hb hr (fun t ht hW => ⟨⟨_, rfl, ⟨(fun k hk hki => by rw [gup_ne (by omega), gmna_lo (by omega), gup_ne (by omega), gup_ne (by omega), gup_ne (by omega), gup_ne (by omega)]), (by rw [gup_same] <;> rfl), (by rw [gup_ne (by omega), gmna_lo (by omega), gup_ne (by omega), gup_ne (by omega), gup_ne (by omega), gup_same] <;> rfl), (by rw [gup_ne (by omega), gmna_lo (by omega), gup_ne (by omega), gup_same] <;> rfl), (by rw [gup_ne (by omega), gmna_eq]), (by rw [gup_ne (by omega), gmna_hi (by omega)]), (by rw [gup_ne (by omega), gmna_hi (by omega)]), (by rw [gup_ne (by omega), gmna_hi (by omega)]), (by rw [gup_ne (by omega), gmna_hi (by omega)]), (by rw [gup_ne (by omega), gmna_hi (by omega)]), (by rw [gup_ne (by omega), gmna_hi (by omega)]), (by rw [gup_ne (by omega), gmna_hi (by omega)]), (by rw [gup_ne (by omega), gmna_hi (by omega)]), (by rw [gup_ne (by omega), gmna_hi (by omega)]), (by rw [gup_ne (by omega), gmna_hi (by omega)]), (by rw [gup_ne (by omega), gmna_hi (by omega)]), (by rw [gup_ne (by omega), gmna_hi (by omega)]), (by rw [gup_ne (by omega), gmna_hi (by omega)]), (by rw [gup_ne (by omega), gmna_hi (by omega)]), (by rw [gup_ne (by omega), gmna_hi (by omega)]), (by rw [gup_ne (by omega), gmna_hi (by omega)]), (by rw [gup_ne (by omega), gmna_hi (by omega)]), (by rw [gup_ne (by omega), gmna_hi (by omega)]), (by rw [gup_ne (by omega), gmna_hi (by omega)]), (by rw [gup_ne (by omega), gmna_hi (by omega)])⟩, hE.moved ht⟩, hS.F ht⟩) hS.2.2 dX5_init_32
theorem dX9_init_0 : decode cX9_init 0 = .ok (.aload_n 0, 1) := by decide +kernel
theorem dX9_init_1 : decode cX9_init 1 = .ok (.invokespecial 1, 3) := by decide +kernel
theorem dX9_init_4 : decode cX9_init 4 = .ok (.aload_n 0, 1) := by decide +kernel
theorem dX9_init_5 : decode cX9_init 5 = .ok (.bipush 6, 2) := by decide +kernel
theorem dX9_init_7 : decode cX9_init 7 = .ok (.bipush 6, 2) := by decide +kernel
theorem dX9_init_9 : decode cX9_init 9 = .ok (.multianewarray 9 2, 4) := by decide +kernel
theorem dX9_init_13 : decode cX9_init 13 = .ok (.putfield 11, 3) := by decide +kernel
theorem dX9_init_16 : decode cX9_init 16 = .ok (.aload_n 0, 1) := by decide +kernel
theorem dX9_init_17 : decode cX9_init 17 = .ok (.bipush 64, 2) := by decide +kernel
theorem dX9_init_19 : decode cX9_init 19 = .ok (.newarray .long, 2) := by decide +kernel
theorem dX9_init_21 : decode cX9_init 21 = .ok (.putfield 14, 3) := by decide +kernel
theorem dX9_init_24 : decode cX9_init 24 = .ok (.return_, 1) := by decide +kernel
theorem wC_49 : ((Jvm.Cond.methodLink "Queueward$Square" (1 : Nat) ({ cls := "java/lang/Object", name := "<init>", desc := "()V" } : Jvm.MethodName)) : Cond) ∈ LW := LW_mem (lw_in1 _ (List.mem_of_getElem? (i := 229) (by decide +kernel))) rfl
theorem wC_50 : ((Jvm.Cond.classLink "Queueward$Square" (9 : Nat) "[[J") : Cond) ∈ LW := LW_mem (lw_in1 _ (List.mem_of_getElem? (i := 230) (by decide +kernel))) rfl
theorem wC_51 : ((Jvm.Cond.arrayClass Jvm.ClassFile.FieldType.long) : Cond) ∈ LW := LW_mem (lw_in1 _ (List.mem_of_getElem? (i := 239) (by decide +kernel))) rfl
theorem wC_52 : ((Jvm.Cond.fieldLink "Queueward$Square" (11 : Nat) "Queueward$Square" "cells" "[[J") : Cond) ∈ LW := LW_mem (lw_in1 _ (List.mem_of_getElem? (i := 232) (by decide +kernel))) rfl
theorem wC_53 : ((Jvm.Cond.fieldLink "Queueward$Square" (14 : Nat) "Queueward$Square" "minors" "[J") : Cond) ∈ LW := LW_mem (lw_in1 _ (List.mem_of_getElem? (i := 233) (by decide +kernel))) rfl
theorem wC_54 : ((Jvm.Cond.code ({ cls := "Queueward$Square", name := "<init>", desc := "()V" } : Jvm.MethodName) prog_11_method_1_code (1 : Nat) (Option.none : Option Jvm.ClassFile.FieldType)) : Cond) ∈ LW := LW_mem (lw_in1 _ (List.mem_of_getElem? (i := 228) (by decide +kernel))) rfl
set_option maxHeartbeats 4000000 in
set_option maxRecDepth 100000 in
theorem k_X9 {l : Launch} {D : va_G} {cA : Nat → ClassId} {B N i : Nat} {g : Nat → va_E} (hi : i < N) (he : g i = .inr (9, [.null, .null])) : Met l yX9_init (wMt yX9_init cX9_init 1 none) ({ frames := 1, cells := 8, slots := 106, locals := 12 }) (va_Pc [.ref (B + i)] (fun U => EH D B N g U.heap ∧ wCon cA D U)) (va_Qv (fun g1 : Nat → va_E => (∀ k, k < N → k ≠ i → g1 k = g k) ∧ g1 i = .inr (9, [.ref (B + N), .ref (B + (((((((N + 1) + 1) + 1) + 1) + 1) + 1) + 1))]) ∧ g1 N = .inl (cA 4, 6, .inr (.inr (.inr (.inr (fun j9 => if j9 < 6 then some (B + N + 1 + j9) else none))))) ∧ g1 (N + 1) = .inl (cA 2, (6, .inr (.inl (fun _ => 0)))) ∧ g1 ((N + 1) + 1) = .inl (cA 2, (6, .inr (.inl (fun _ => 0)))) ∧ g1 (((N + 1) + 1) + 1) = .inl (cA 2, (6, .inr (.inl (fun _ => 0)))) ∧ g1 ((((N + 1) + 1) + 1) + 1) = .inl (cA 2, (6, .inr (.inl (fun _ => 0)))) ∧ g1 (((((N + 1) + 1) + 1) + 1) + 1) = .inl (cA 2, (6, .inr (.inl (fun _ => 0)))) ∧ g1 ((((((N + 1) + 1) + 1) + 1) + 1) + 1) = .inl (cA 2, (6, .inr (.inl (fun _ => 0)))) ∧ g1 (((((((N + 1) + 1) + 1) + 1) + 1) + 1) + 1) = .inl (cA 2, (64, .inr (.inl (fun _ => 0))))) (fun g1 t => EH D B ((((((((N + 1) + 1) + 1) + 1) + 1) + 1) + 1) + 1) g1 t.heap) (Al B)) 8 106 (Al B) := by
  refine Met.ofW (cc := cX9_init) (maxL := 1) (ret := none) (by decide) rfl ?_
  intro p e s m args below meth c s₁ B9 hml hv
  obtain ⟨rfl, hE, hCon⟩ := hv
  have hx := B9.exec
  have hb := B9.bytes
  have hr := B9.returns
  have hts0 := atoms_spec (ws := wMt yX9_init cX9_init 1 none) B9.pre
  have hts : ∀ w ∈ LW, w.before _ s = true := fun w hw => hts0 w (List.mem_cons_of_mem _ hw)
  have hown : s.vm.findClass RX9 = some m.cls := findClass_of_methodNamed B9.named
  have hlocks := B9.notSynchronized
  have hin : meth.name = "<init>" := (name_of_methodNamed B9.named B9.method).1
  have hK := hCon.1
  have hS : va_S (Al B) s.heap s.heap [] := va_S.rf
  have hl := lv_entry ([.ref (B + i)]) (n := 1) (Nat.le_of_ble_eq_true rfl)
  rw [lg_entry_eq]
  generalize (lg_sl ([.ref (B + i)]) ++ List.replicate (1 - (lg_sl ([.ref (B + i)])).length) Slot.unset).toArray = ls at hl ⊢
  have hl : lv_has ls 1 [(0, .ref (B + i))] := hl
  refine lv_aload_n hx hb dX9_init_0 rfl (lv_at hl 0 rfl) ?_
  refine W.objInit hx hb hown (hts _ wC_49) (hts _ wC_1) (hts _ wC_2) rfl (by rw [hml]; exact hl.1) rfl dX9_init_1 (Nat.le_of_ble_eq_true rfl) (Nat.le_of_ble_eq_true rfl) ?_
  refine W.eq (g2 := F0 m 4 ls []) rfl ?_
  refine lv_aload_n hx hb dX9_init_4 rfl (lv_at hl 0 rfl) ?_
  refine lv_bipush (v := 6) hx hb dX9_init_5 (by decide) ?_
  refine lv_bipush (v := 6) hx hb dX9_init_7 (by decide) ?_
  refine eh_mna (ty := .long) (c1 := cA 4) (c2 := cA 2) (z := (6, .inr (.inl (fun _ => 0)))) (N' := 6) (K' := 6) hx hb hown hE hS (hts _ wC_50) (AOA.use hCon.2.2.2.2) (hts _ wC_51) (hK.2 3 _ rfl).2 (hK.2 1 _ rfl).2 (by decide) (by decide) (by decide) (by decide) (Nat.le_of_ble_eq_true rfl) (Nat.le_of_ble_eq_true rfl) (Nat.le_of_ble_eq_true rfl) rfl rfl (Nat.le_of_ble_eq_true rfl) (Nat.le_of_ble_eq_true rfl) (fun x => arrV_new x 6 _) dX9_init_9 (fun H hE hS => ?_)
  refine eh_put (b := 9) (i := i) (k := 0) (fs := [.null, .null]) (v := .ref (B + N)) hx hb hts hown hK hE hS (by decide) (by omega) (by rw [gmna_lo (by omega), he]) (by decide) wC_52 (Or.inr ⟨rfl, hin, rfl⟩) rfl rfl (Nat.le_of_ble_eq_true rfl) dX9_init_13 (fun H locs hE hS => ?_)
  refine lv_aload_n hx hb dX9_init_16 rfl (lv_at hl 0 rfl) ?_
  refine lv_bipush (v := 64) hx hb dX9_init_17 (by decide) ?_
  refine eh_newa (atype := .long) (t0 := 1) (c1 := cA 2) (N' := 64) (a0 := (64, .inr (.inl (fun _ => 0)))) hx hb hts hK hE hS wC_51 rfl (fun _ => rfl) (by decide) (by decide) (by decide) (Nat.le_of_ble_eq_true rfl) (Nat.le_of_ble_eq_true rfl) dX9_init_19 (fun H hE hS => ?_)
  refine eh_put (b := 9) (i := i) (k := 1) (fs := [.ref (B + N), .null]) (v := .ref (B + (((((((N + 1) + 1) + 1) + 1) + 1) + 1) + 1))) hx hb hts hown hK hE hS (by decide) (by omega) (by rw [gup_ne (by omega), gup_same] <;> rfl) (by decide) wC_53 (Or.inr ⟨rfl, hin, rfl⟩) rfl rfl (Nat.le_of_ble_eq_true rfl) dX9_init_21 (fun H locs hE hS => ?_)
  exact W.vret hx hb hr (fun t ht hW => ⟨⟨_, rfl, ⟨(fun k hk hki => by rw [gup_ne (by omega), gup_ne (by omega), gup_ne (by omega), gmna_lo (by omega)]), (by rw [gup_same] <;> rfl), (by rw [gup_ne (by omega), gup_ne (by omega), gup_ne (by omega), gmna_eq]), (by rw [gup_ne (by omega), gup_ne (by omega), gup_ne (by omega), gmna_hi (by omega)]), (by rw [gup_ne (by omega), gup_ne (by omega), gup_ne (by omega), gmna_hi (by omega)]), (by rw [gup_ne (by omega), gup_ne (by omega), gup_ne (by omega), gmna_hi (by omega)]), (by rw [gup_ne (by omega), gup_ne (by omega), gup_ne (by omega), gmna_hi (by omega)]), (by rw [gup_ne (by omega), gup_ne (by omega), gup_ne (by omega), gmna_hi (by omega)]), (by rw [gup_ne (by omega), gup_ne (by omega), gup_ne (by omega), gmna_hi (by omega)]), (by rw [gup_ne (by omega), gup_same] <;> rfl)⟩, hE.moved ht⟩, hS.F ht⟩) hS.2.2 dX9_init_24
