/-! The law's own walk, and the beginning of its second plays (by program). -/
theorem dW_plays2_0 : decode cL_plays_ 0 = .ok (.new 15, 3) := by decide +kernel
theorem dW_plays2_3 : decode cL_plays_ 3 = .ok (.dup, 1) := by decide +kernel
theorem dW_plays2_4 : decode cL_plays_ 4 = .ok (.invokespecial 292, 3) := by decide +kernel
theorem dW_plays2_7 : decode cL_plays_ 7 = .ok (.astore_n 3, 1) := by decide +kernel
theorem dL_law_0 : decode code 0 = .ok (.iconst 1, 1) := by decide +kernel
theorem dL_law_1 : decode code 1 = .ok (.newarray .int, 2) := by decide +kernel
theorem dL_law_3 : decode code 3 = .ok (.dup, 1) := by decide +kernel
theorem dL_law_4 : decode code 4 = .ok (.iconst 0, 1) := by decide +kernel
theorem dL_law_5 : decode code 5 = .ok (.ldc_w 322, 3) := by decide +kernel
theorem dL_law_8 : decode code 8 = .ok (.iastore, 1) := by decide +kernel
theorem dL_law_9 : decode code 9 = .ok (.astore_n 1, 1) := by decide +kernel
theorem dL_law_10 : decode code 10 = .ok (.iconst 0, 1) := by decide +kernel
theorem dL_law_11 : decode code 11 = .ok (.istore_n 2, 1) := by decide +kernel
theorem dL_law_12 : decode code 12 = .ok (.iload_n 2, 1) := by decide +kernel
theorem dL_law_13 : decode code 13 = .ok (.aload_n 0, 1) := by decide +kernel
theorem dL_law_14 : decode code 14 = .ok (.arraylength, 1) := by decide +kernel
theorem dL_law_15 : decode code 15 = .ok (.if_icmp .ge 22, 3) := by decide +kernel
theorem dL_law_18 : decode code 18 = .ok (.aload_n 1, 1) := by decide +kernel
theorem dL_law_19 : decode code 19 = .ok (.iconst 0, 1) := by decide +kernel
theorem dL_law_20 : decode code 20 = .ok (.bipush 31, 2) := by decide +kernel
theorem dL_law_22 : decode code 22 = .ok (.aload_n 1, 1) := by decide +kernel
theorem dL_law_23 : decode code 23 = .ok (.iconst 0, 1) := by decide +kernel
theorem dL_law_24 : decode code 24 = .ok (.iaload, 1) := by decide +kernel
theorem dL_law_25 : decode code 25 = .ok (.imul, 1) := by decide +kernel
theorem dL_law_26 : decode code 26 = .ok (.aload_n 0, 1) := by decide +kernel
theorem dL_law_27 : decode code 27 = .ok (.iload_n 2, 1) := by decide +kernel
theorem dL_law_28 : decode code 28 = .ok (.iaload, 1) := by decide +kernel
theorem dL_law_29 : decode code 29 = .ok (.iadd, 1) := by decide +kernel
theorem dL_law_30 : decode code 30 = .ok (.iastore, 1) := by decide +kernel
theorem dL_law_31 : decode code 31 = .ok (.iinc 2 1, 3) := by decide +kernel
theorem dL_law_34 : decode code 34 = .ok (.goto (-22), 3) := by decide +kernel
theorem dL_law_37 : decode code 37 = .ok (.aload_n 1, 1) := by decide +kernel
theorem dL_law_38 : decode code 38 = .ok (.bipush 120, 2) := by decide +kernel
theorem dL_law_40 : decode code 40 = .ok (.newarray .int, 2) := by decide +kernel
theorem dL_law_42 : decode code 42 = .ok (.bipush 10, 2) := by decide +kernel
theorem dL_law_44 : decode code 44 = .ok (.newarray .int, 2) := by decide +kernel
theorem dL_law_46 : decode code 46 = .ok (.invokestatic 323, 3) := by decide +kernel
theorem dL_law_49 : decode code 49 = .ok (.ireturn, 1) := by decide +kernel
theorem wT_0 : ((Jvm.Cond.classLink "QueuewardLaw" (15 : Nat) "Queueward") : Cond) ∈ LW := LW_mem (lw_in1 _ (List.mem_of_getElem? (i := 38) (by decide +kernel))) rfl
theorem wT_1 : ((Jvm.Cond.instantiable "Queueward" (13 : Nat)) : Cond) ∈ LW := LW_mem (lw_in1 _ (List.mem_of_getElem? (i := 39) (by decide +kernel))) rfl
theorem wT_2 : ((Jvm.Cond.initialized "Queueward") : Cond) ∈ LW := LW_mem (lw_in1 _ (List.mem_of_getElem? (i := 1) (by decide +kernel))) rfl
theorem wT_3 : ((Jvm.Cond.code ({ cls := "Queueward", name := "<init>", desc := "()V" } : Jvm.MethodName) prog_1_method_1_code (1 : Nat) (Option.none : Option Jvm.ClassFile.FieldType)) : Cond) ∈ LW := LW_mem (lw_in1 _ (List.mem_of_getElem? (i := 42) (by decide +kernel))) rfl
theorem wT_4 : ((Jvm.Cond.methodLink "QueuewardLaw" (292 : Nat) ({ cls := "Queueward", name := "<init>", desc := "()V" } : Jvm.MethodName)) : Cond) ∈ LW := LW_mem (lw_in1 _ (List.mem_of_getElem? (i := 40) (by decide +kernel))) rfl
theorem wT_5 : ((Jvm.Cond.instanceMethod ({ cls := "Queueward", name := "<init>", desc := "()V" } : Jvm.MethodName)) : Cond) ∈ LW := LW_mem (lw_in1 _ (List.mem_of_getElem? (i := 41) (by decide +kernel))) rfl
/-- the law's three rows, as its second plays finds them -/
def C3 (x : Int) : LMem := fun k => if k = 0 then (1, 1, fun _ => x) else if k = 1 then (1, 120, fun _ => 0) else if k = 2 then (1, 10, fun _ => 0) else (0, 0, fun _ => 0)
/-- what the pure proofs owe: the second plays answers 1 -/
def PureOK : Prop := ∀ x : Int, WL macS (lcal 200) (cald 12) mW_plays2 (fun v _ _ => v = 1) 4 150 [some (.inr (.inr (.inl (0 + 1)))), some (.inr (.inr (.inl (1 + 1)))), some (.inr (.inr (.inl (2 + 1)))), some (.inr (.inr (.inr 0))), none, none, none] [] M1 (C3 x)
abbrev rP2 : Room := rmL 201 125000
def PreP2 (sg sgL : Nat → Nat) (cA cW : Nat → ClassId) (D : va_G) (B : Nat) (x : Int) (U : State) : Prop := U.heap.size = B + 3 ∧ (∀ k, k < 3 → va_at D gCl (B + k, lCell B cW (C3 x k)) U.heap) ∧ wCon cA D U ∧ wFixL sg sgL cA cW D (Al B) (fun j => 1 ≤ j ∧ j ≤ 5) U
theorem at_toI {D : va_G} {B N : Nat} {g : Nat → va_E} {H : Heap} (hE : EH D B N g H) {i n : Nat} {c : ClassId} {f f' : Nat → Int32} (hi : i < N) (he : g i = .inl (c, (n, .inl f))) (h : ∀ j, j < n → f j = f' j) : va_at D gCl (B + i, .inl (c, (n, .inl f'))) H := by
  have h1 := hE.at' hi he
  show H[B + i]? = some (vp_cell c (n, .inl f'))
  have h2 : H[B + i]? = some (vp_cell c (n, .inl f)) := h1
  rw [h2, vp_cell_i, vp_cell_i]
  unfold arrV
  refine congrArg some (congrArg (fun q => ({ cls := c, slots := Array.ofFn (n := n) q, vm := .none } : Cell)) (funext fun j => ?_))
  show Value.int (f j.1) = Value.int (f' j.1)
  rw [h j.1 j.2]
theorem ord149 : ord 149 = 0 := by decide +kernel
set_option maxHeartbeats 4000000 in
set_option maxRecDepth 100000 in
theorem k_plays2 {l : Launch} (htr : l.stackTraces = false) (hp : PureOK) {D : va_G} {cA cW : Nat → ClassId} {sg sgL : Nat → Nat} {B : Nat} {x : Int} : Met l yL_plays_ (wMt yL_plays_ cL_plays_ 7 (some .boolean)) rP2 (va_Pc [.ref B, .ref (B + 1), .ref (B + 2)] (PreP2 sg sgL cA cW D B x)) (QcL D cA cW (Al B) (rho (B + 3)) B 3 (fun v _ _ => v = 1)) 125000 (52 * 125000) (Al B) := by
  refine Met.ofW (cc := cL_plays_) (maxL := 7) (ret := some .boolean) (by decide) rfl ?_
  intro p e s m args below meth c s₁ B9 hml hv
  obtain ⟨rfl, hz, hat3, hCon, hfix⟩ := hv
  have hx := B9.exec
  have hb := B9.bytes
  have hr := B9.returns
  have hts0 := atoms_spec (ws := wMt yL_plays_ cL_plays_ 7 (some .boolean)) B9.pre
  have hts : ∀ w ∈ LW, w.before _ s = true := fun w hw => hts0 w (List.mem_cons_of_mem _ hw)
  have hown : s.vm.findClass RL = some m.cls := findClass_of_methodNamed B9.named
  have hlocks := B9.notSynchronized
  have hK := hfix.1.1
  have hX : HypL p l (headSpec (wMt yL_plays_ cL_plays_ 7 (some .boolean)) rP2).room s m ([.ref B, .ref (B + 1), .ref (B + 2)] : List Value).toArray meth c sg sgL cA cW D (Al B) (fun j => 1 ≤ j ∧ j ≤ 5) B cL_plays_ 7 125000 (some .boolean) 200 := ⟨hx, hb, hr, hml, hown, hlocks, hts, hfix, fun q h => by show B ≤ q; omega, by omega, htr, rfl, rfl, by decide, by show 200 + 41 ≤ 201 + 40; omega, by show 60 * 200 + 1660 ≤ 60 * 201 + 1600; omega⟩
  have hS : va_S (Al s.heap.size) s.heap s.heap [] := va_S.rf
  have hE : EH D s.heap.size 0 (fun _ => .inr (0, [])) s.heap := ⟨rfl, fun k hk => absurd hk (Nat.not_lt_zero k)⟩
  have hl := lv_entry ([.ref B, .ref (B + 1), .ref (B + 2)]) (n := 7) (Nat.le_of_ble_eq_true rfl)
  rw [lg_entry_eq]
  generalize (lg_sl ([.ref B, .ref (B + 1), .ref (B + 2)]) ++ List.replicate (7 - (lg_sl ([.ref B, .ref (B + 1), .ref (B + 2)])).length) Slot.unset).toArray = ls at hl ⊢
  have hl : lv_has ls 7 [(0, .ref B), (1, .ref (B + 1)), (2, .ref (B + 2))] := hl
  show W p l e (headSpec (wMt yL_plays_ cL_plays_ 7 (some .boolean)) rP2).room s m ([.ref B, .ref (B + 1), .ref (B + 2)] : List Value).toArray below meth c s.heap [] 0 0 (MQ below (QcL D cA cW (Al B) (rho (B + 3)) B 3 (fun v _ _ => v = 1)) ([.ref B, .ref (B + 1), .ref (B + 2)] : List Value).toArray s 125000 (52 * 125000) (Al B)) (F0 m 0 ls [])
  refine eh_new (N := 0) (b := 11) (fs := [.null, .null, .null, .null, .null, .null, .int 0, .int 0, .null, .null, .null, .null, .null]) hx hb hts hown hK hE hS (by decide) wT_0 wT_1 wT_2 dflt11 (Nat.le_of_ble_eq_true rfl) (Nat.le_of_ble_eq_true rfl) dW_plays2_0 (fun H hE hS => ?_)
  have hE : EH D s.heap.size 1 (gup (fun _ => .inr (0, [])) 0 (.inr (11, [.null, .null, .null, .null, .null, .null, .int 0, .int 0, .null, .null, .null, .null, .null]))) H := hE
  refine lv_dup hx hb dW_plays2_3 rfl ?_
  refine va_callv (va_runI (As := []) (rest := [.ref (s.heap.size + 0)]) ⟨hx, hb, hml, hown, hts⟩ (k_X11 (l := l) (D := D) (cA := cA) (B := s.heap.size) (N := 1) (i := 0) (g := (gup (fun _ => .inr (0, [])) 0 (.inr (11, [.null, .null, .null, .null, .null, .null, .int 0, .int 0, .null, .null, .null, .null, .null])))) (by omega) gup_same) (cwI 0 hts (wMt_good wT_3) rfl rfl rfl (hts _ wT_2) (hts _ wT_4) (hts _ wT_5) rfl (by decide +kernel) ⟨Nat.le_of_ble_eq_true rfl, Nat.le_of_ble_eq_true rfl⟩) ⟨fun a U g mk q => by obtain ⟨q0, q1, q2⟩ := q; exact ⟨q0, q1, q2.warm (s := U) (U := U.calling g mk a) (State.WarmedH.refl U)⟩, fun U hU hW => ⟨rfl, by rw [hU]; exact hE, hCon.warm hW⟩⟩ rfl rfl hl.1 rfl (lv_room (Nat.le_of_ble_eq_true rfl)) dW_plays2_4 ⟨Nat.le_of_ble_eq_true rfl, Nat.le_of_ble_eq_true rfl⟩) hS (fun q _ h => h) (fun q h => h) (fun g1 tt H locs ht hvm hw hB hz1 hk1 hS => ?_)
  obtain ⟨-, h11⟩ := hw
  have hE : EH D s.heap.size 150 g1 H := EH.moved hB ht.symm
  refine lv_astore_n (lv' := [(3, .ref (rho s.heap.size 149)), (0, .ref B), (1, .ref (B + 1)), (2, .ref (B + 2))]) hx hb dW_plays2_7 rfl hl (by decide) rfl (fun ls hl => ?_)
  refine W.widen (k := 150) (n := 52 * 150) (Nat.le_of_ble_eq_true rfl) (Nat.le_of_ble_eq_true rfl) ?_
  have hal : ∀ q : Nat, s.heap.size ≤ q → Al B q := fun q h => by show B ≤ q; omega
  have hS2 : va_S (Al B) s.heap H locs := ⟨hS.1, fun q h1 h2 => hS.2.1 q h1 (fun h => h2 (hal q h)), fun q hq => hal _ (hS.2.2 q hq)⟩
  have hP : va_P D gCl (wWs (rho s.heap.size) cA M1) H := first_P hE h11
  have hW : wWL D cA cW (Al B) (rho s.heap.size) B M1 (C3 x) H := ⟨hP, first_D hal, fun k hk => by
    have hk3 : k < 3 := by
      rcases Nat.lt_or_ge k 3 with h | h
      · exact h
      · exfalso
        apply hk
        show (C3 x k).1 = 0
        unfold C3
        rw [if_neg (by omega), if_neg (by omega), if_neg (by omega)]
    have h7 : (C3 x k).1 ≤ 7 ∧ (C3 x k).2.1 < 2147483648 := by
      rcases (show k = 0 ∨ k = 1 ∨ k = 2 by omega) with rfl | rfl | rfl
      · exact ⟨(by decide : (1 : Nat) ≤ 7), (by decide : (1 : Nat) < 2147483648)⟩
      · exact ⟨(by decide : (1 : Nat) ≤ 7), (by decide : (120 : Nat) < 2147483648)⟩
      · exact ⟨(by decide : (1 : Nat) ≤ 7), (by decide : (10 : Nat) < 2147483648)⟩
    refine ⟨by show B ≤ B + k; omega, fun n hn => by show s.heap.size + ord n ≠ B + k; omega, h7, lat_kept (hat3 k hk3) (hS.2.1 _ (by omega) (fun h => by have h : s.heap.size ≤ B + k := h; omega))⟩⟩
  have hlg : LG (lpv B (rho s.heap.size 149) sgL) ls 7 [some (.inr (.inr (.inl (0 + 1)))), some (.inr (.inr (.inl (1 + 1)))), some (.inr (.inr (.inl (2 + 1)))), some (.inr (.inr (.inr 0))), none, none, none] := lv_sub hl [1, 2, 3, 0] rfl
  have hIH := fun y a M C Q => soundL (l := l) (ρ := rho s.heap.size) (sg := sg) (cA := cA) (cW := cW) (D := D) (B := B) htr 200 y a M C Q
  have key := wl_pwl (e := e) (below := below) hIH (t := (nW_plays2, wlW_plays2, pW_plays2, 4)) (ltrips_ok _ (nth_mem _ 24 _ rfl)) hX (hp x)
  have hgo := key (show 150 ≤ 125000 by decide) (fun i k hi => by
    rcases i with _ | _ | _ | _ | _ | _ | _ | i <;> cases hi) H locs ls hlg hW hS2
  rw [hz] at hgo
  exact hgo
