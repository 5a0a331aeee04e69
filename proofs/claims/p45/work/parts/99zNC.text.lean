/-! A text that the law makes of a number: by a builder. -/
theorem wE_cl : ((Jvm.Cond.classLink "QueuewardLaw" (259 : Nat) "java/lang/StringBuilder") : Cond) ∈ LW := LW_mem (lw_in7 _ (List.mem_of_getElem? (i := 21) (by decide +kernel))) rfl
theorem wE_in : ((Jvm.Cond.instantiable "java/lang/StringBuilder" (4 : Nat)) : Cond) ∈ LW := LW_mem (lw_in7 _ (List.mem_of_getElem? (i := 22) (by decide +kernel))) rfl
theorem wE_ini : ((Jvm.Cond.initialized "java/lang/StringBuilder") : Cond) ∈ LW := LW_mem (lw_in1 _ (List.mem_of_getElem? (i := 33) (by decide +kernel))) rfl
theorem wE_n_l : ((Jvm.Cond.methodLink "QueuewardLaw" (261 : Nat) ({ cls := "java/lang/StringBuilder", name := "<init>", desc := "()V" } : Jvm.MethodName)) : Cond) ∈ LW := LW_mem (lw_in7 _ (List.mem_of_getElem? (i := 23) (by decide +kernel))) rfl
theorem wE_n_i : ((Jvm.Cond.instanceMethod ({ cls := "java/lang/StringBuilder", name := "<init>", desc := "()V" } : Jvm.MethodName)) : Cond) ∈ LW := LW_mem (lw_in7 _ (List.mem_of_getElem? (i := 24) (by decide +kernel))) rfl
theorem wE_n_c : ((Jvm.Cond.code ({ cls := "java/lang/StringBuilder", name := "<init>", desc := "()V" } : Jvm.MethodName) prog_33_method_1_code (1 : Nat) (Option.none : Option Jvm.ClassFile.FieldType)) : Cond) ∈ LW := LW_mem (lw_in7 _ (List.mem_of_getElem? (i := 25) (by decide +kernel))) rfl
theorem wE_S_l : ((Jvm.Cond.methodLink "QueuewardLaw" (264 : Nat) ({ cls := "java/lang/StringBuilder", name := "append", desc := "(Ljava/lang/String;)Ljava/lang/StringBuilder;" } : Jvm.MethodName)) : Cond) ∈ LW := LW_mem (lw_in7 _ (List.mem_of_getElem? (i := 53) (by decide +kernel))) rfl
theorem wE_S_i : ((Jvm.Cond.instanceMethod ({ cls := "java/lang/StringBuilder", name := "append", desc := "(Ljava/lang/String;)Ljava/lang/StringBuilder;" } : Jvm.MethodName)) : Cond) ∈ LW := LW_mem (lw_in7 _ (List.mem_of_getElem? (i := 54) (by decide +kernel))) rfl
theorem wE_S_s : ((Jvm.Cond.selects "java/lang/StringBuilder" ({ cls := "java/lang/StringBuilder", name := "append", desc := "(Ljava/lang/String;)Ljava/lang/StringBuilder;" } : Jvm.MethodName) ({ cls := "java/lang/StringBuilder", name := "append", desc := "(Ljava/lang/String;)Ljava/lang/StringBuilder;" } : Jvm.MethodName)) : Cond) ∈ LW := LW_mem (lw_in7 _ (List.mem_of_getElem? (i := 55) (by decide +kernel))) rfl
theorem wE_S_c : ((Jvm.Cond.code ({ cls := "java/lang/StringBuilder", name := "append", desc := "(Ljava/lang/String;)Ljava/lang/StringBuilder;" } : Jvm.MethodName) prog_33_method_7_code (2 : Nat) (Option.some (Jvm.ClassFile.FieldType.object "java/lang/StringBuilder"))) : Cond) ∈ LW := LW_mem (lw_in7 _ (List.mem_of_getElem? (i := 56) (by decide +kernel))) rfl
theorem wE_I_l : ((Jvm.Cond.methodLink "QueuewardLaw" (268 : Nat) ({ cls := "java/lang/StringBuilder", name := "append", desc := "(I)Ljava/lang/StringBuilder;" } : Jvm.MethodName)) : Cond) ∈ LW := LW_mem (lw_in7 _ (List.mem_of_getElem? (i := 148) (by decide +kernel))) rfl
theorem wE_I_i : ((Jvm.Cond.instanceMethod ({ cls := "java/lang/StringBuilder", name := "append", desc := "(I)Ljava/lang/StringBuilder;" } : Jvm.MethodName)) : Cond) ∈ LW := LW_mem (lw_in7 _ (List.mem_of_getElem? (i := 149) (by decide +kernel))) rfl
theorem wE_I_s : ((Jvm.Cond.selects "java/lang/StringBuilder" ({ cls := "java/lang/StringBuilder", name := "append", desc := "(I)Ljava/lang/StringBuilder;" } : Jvm.MethodName) ({ cls := "java/lang/StringBuilder", name := "append", desc := "(I)Ljava/lang/StringBuilder;" } : Jvm.MethodName)) : Cond) ∈ LW := LW_mem (lw_in7 _ (List.mem_of_getElem? (i := 150) (by decide +kernel))) rfl
theorem wE_I_c : ((Jvm.Cond.code ({ cls := "java/lang/StringBuilder", name := "append", desc := "(I)Ljava/lang/StringBuilder;" } : Jvm.MethodName) prog_33_method_15_code (2 : Nat) (Option.some (Jvm.ClassFile.FieldType.object "java/lang/StringBuilder"))) : Cond) ∈ LW := LW_mem (lw_in7 _ (List.mem_of_getElem? (i := 151) (by decide +kernel))) rfl
theorem wE_T_l : ((Jvm.Cond.methodLink "QueuewardLaw" (271 : Nat) ({ cls := "java/lang/StringBuilder", name := "toString", desc := "()Ljava/lang/String;" } : Jvm.MethodName)) : Cond) ∈ LW := LW_mem (lw_in7 _ (List.mem_of_getElem? (i := 173) (by decide +kernel))) rfl
theorem wE_T_i : ((Jvm.Cond.instanceMethod ({ cls := "java/lang/StringBuilder", name := "toString", desc := "()Ljava/lang/String;" } : Jvm.MethodName)) : Cond) ∈ LW := LW_mem (lw_in7 _ (List.mem_of_getElem? (i := 174) (by decide +kernel))) rfl
theorem wE_T_s : ((Jvm.Cond.selects "java/lang/StringBuilder" ({ cls := "java/lang/StringBuilder", name := "toString", desc := "()Ljava/lang/String;" } : Jvm.MethodName) ({ cls := "java/lang/StringBuilder", name := "toString", desc := "()Ljava/lang/String;" } : Jvm.MethodName)) : Cond) ∈ LW := LW_mem (lw_in7 _ (List.mem_of_getElem? (i := 175) (by decide +kernel))) rfl
theorem wE_T_c : ((Jvm.Cond.code ({ cls := "java/lang/StringBuilder", name := "toString", desc := "()Ljava/lang/String;" } : Jvm.MethodName) prog_33_method_42_code (1 : Nat) (Option.some (Jvm.ClassFile.FieldType.object "java/lang/String"))) : Cond) ∈ LW := LW_mem (lw_in7 _ (List.mem_of_getElem? (i := 176) (by decide +kernel))) rfl
theorem wE_v : ((Jvm.Cond.laysFinal "java/lang/String" "java/lang/String" "value" "[B") : Cond) ∈ LW := LW_mem (lw_in3 _ (List.mem_of_getElem? (i := 48) (by decide +kernel))) rfl
theorem wE_c : ((Jvm.Cond.laysFinal "java/lang/String" "java/lang/String" "coder" "B") : Cond) ∈ LW := LW_mem (lw_in3 _ (List.mem_of_getElem? (i := 50) (by decide +kernel))) rfl
abbrev As (b da : Nat) : Nat → Prop := fun q => q = b ∨ q = da
theorem gapp_l {a b : List Int} {j : Nat} (h : j < a.length) : (a ++ b).getD j 0 = a.getD j 0 := by rw [List.getD_eq_getElem?_getD, List.getD_eq_getElem?_getD, List.getElem?_append_left h]
theorem gapp_r {a b : List Int} {j : Nat} (h : a.length ≤ j) : (a ++ b).getD j 0 = b.getD (j - a.length) 0 := by rw [List.getD_eq_getElem?_getD, List.getD_eq_getElem?_getD, List.getElem?_append_right h]
theorem txL_0 (x : Nat) : txL (2 * x + 0 + 6) = digT x := by
  unfold txL
  rw [if_neg (by omega), if_neg (by omega)]
  congr 1
  omega
theorem txL_1 (x : Nat) : txL (2 * x + 1 + 6) = 48 :: digT x := by
  unfold txL
  rw [if_neg (by omega), if_pos (by omega)]
  congr 2
  omega
theorem okW_dig {wd : List Int} {x : Nat} (hx : x < 1000) (h : okW wd) (h1 : wd.length ≤ 1) : okW (wd ++ digT x) := by
  refine ⟨?_, fun y hy => ?_⟩
  · rw [List.length_append, digs_len]
    unfold digs
    split
    · omega
    · split <;> omega
  · rcases List.mem_append.mp hy with hy | hy
    · exact h.2 y hy
    · unfold digT at hy
      split at hy
      · simp at hy; omega
      · split at hy
        · simp at hy; omega
        · simp at hy; omega
/-- the String that a builder made, as a text -/
theorem str_of {args : Array Value} {s U : State} {D : va_G} {cC : ClassId} {q t n : Nat} {f : Nat → Int32} {A : Nat → Prop} {wd : List Int} {H : Heap} (hts : ∀ w ∈ LW, w.before args s = true) (hK : va_K D gS (tB cC) s) (hP : va_P D gS (wS q t cC n f) H) (hn : wd.length = n) (hn7 : n < 100) (hf : ∀ j, j < n → f j = Int32.ofInt (wd.getD j 0)) (hq : ¬ A q) (ht : ¬ A t) (hU : U.heap = H) (hal : s.vm.Alike U.vm) : strAt wd q A U := by
  subst hn
  obtain ⟨r, hr, cell, g1, g2, g3, g4⟩ := hP 0 _ rfl
  cases hr
  have hKn := hK.1 1 _ rfl
  have key : ∀ (k : Nat), k < 2 → ∀ v, vp_V [Value.ref t, .int 0, .int 0, .int 0] k = v → (Cond.laysFinal RJ0 (TJ0 k).1 (TJ0 k).2.1 (TJ0 k).2.2.1).before args s = true → va_OF (TJ0 k).1 (TJ0 k).2.1 (TJ0 k).2.2.1 v q A s H := by
    intro k hk v hv hw
    obtain ⟨c1, k1, c2, k2, i, f1, -, -, h3, h4, -⟩ := Cond.laysFinal_spec hw
    obtain ⟨c3, k3, i3, f3, e1, e2⟩ := hKn.1 k (by show k < 4; omega)
    rw [h3] at e1
    cases e1
    exact ⟨c2, k2, i, f1, cell, h3, h4, g1, (by rw [g3]; exact fun e => by cases e), (by rw [e2, g4 k (by show k < 4; omega), hv]), hq⟩
  have hV := key 0 (by decide) _ rfl (hts _ wE_v)
  have hC := key 1 (by decide) _ rfl (hts _ wE_c)
  have hTt : va_T .byte t wd.length (fun j => .int (f j)) A s H := tab_of hK (fun k q hq => by
    rcases k with _ | k
    · exact hP 1 q hq
    · simp at hq) (by omega) ht
  have hT : va_T .byte t wd.length (fun i => .int (Int32.ofInt (wd.getD i 0))) A s H := by
    obtain ⟨cell, k1, k2, k3, k4, k5, k6, k7⟩ := hTt
    exact ⟨cell, k1, k2, k3, k4, k5, fun j hj => (k6 j hj).trans (congrArg some (congrArg Value.int (hf j hj))), k7⟩
  have hO : va_O "java/lang/String" q A s H := ⟨cell, g1, (by rw [g3]; rfl), (by rw [g2]; exact hKn.2.1), hq⟩
  subst hU
  exact ⟨hO.moved hal, hC.moved hal, t, hV.moved hal, hT.moved hal⟩
section TextL
variable {p : Program} {l : Launch} {e : Env} {R : Room} {s : State} {m : MethodId} {args : Array Value} {below : List Frame} {meth : Method} {c : Code}
variable {ρ sg sgL : Nat → Nat} {cA cW : Nat → ClassId} {D : va_G} {A J : Nat → Prop} {B : Nat} {bytes : ByteArray} {maxL km : Nat} {ret : Option FieldType} {pcs : List Nat} {rk : Nat} {Q : LQ}
variable {M : Mem} {C : LMem} {dp kc : Nat} {Z : State → Prop} {H : Heap} {locs : List Loc} {ls : Array Slot} {rest : List Value}
set_option maxHeartbeats 4000000 in
set_option maxRecDepth 100000 in
theorem l_text (hX : HypL p l R s m args meth c sg sgL cA cW D A J B bytes maxL km ret dp) {p0 pA d x : Nat} (hd1 : d ≤ 1) (hx9 : x < 1000) (hS : va_S A s.heap H locs) (hl : ls.size = maxL) (hroom : (rest.map fun v => v.category).sum ≤ 7) (hkc : kc + 4 ≤ km)
    (k1 : decode bytes p0 = .ok (.new 259, 3)) (k2 : decode bytes (p0 + 3) = .ok (.dup, 1)) (k3 : decode bytes (p0 + 4) = .ok (.invokespecial 261, 3)) (k4 : decode bytes (p0 + 7) = .ok (.ldc_w (if d = 0 then 262 else 275), 3)) (k5 : decode bytes (p0 + 10) = .ok (.invokevirtual 264, 3)) (k6 : decode bytes pA = .ok (.invokevirtual 268, 3)) (k7 : decode bytes (pA + 3) = .ok (.invokevirtual 271, 3))
    (harg : ∀ (H1 : Heap) (locs1 : List Loc) (k sl : Nat) (r1 : List Value), (∀ q : Nat, q < H.size → H1[q]? = H[q]?) → va_S A s.heap H1 locs1 → W p l e R s m args below meth c H1 locs1 k sl Z (F0 m pA ls (.int (Int32.ofInt (x : Int)) :: r1)) → W p l e R s m args below meth c H1 locs1 k sl Z (F0 m (p0 + 13) ls r1))
    (kk : ∀ (q t9 : Nat) (H1 : Heap) (locs1 : List Loc), (H.size ≤ q ∧ H.size ≤ t9 ∧ q < H1.size ∧ t9 < H1.size) → (∀ q : Nat, q < H.size → H1[q]? = H[q]?) → va_S A s.heap H1 locs1 → (∀ (A2 : Nat → Prop) (U : State), U.heap = H1 → s.WarmedH U.vm → ¬ A2 q → ¬ A2 t9 → strAt (txL (2 * x + d + 6)) q A2 U ∧ okW (txL (2 * x + d + 6))) → W p l e R s m args below meth c H1 locs1 (kc + 4) (52 * (kc + 4)) Z (F0 m (pA + 6) ls (.ref q :: rest))) : W p l e R s m args below meth c H locs kc (52 * kc) Z (F0 m p0 ls rest) := by
  obtain ⟨hx, hb, hr, hml, hown, hlocks, hts, hfix, hsz, hBs, htr, hR1, hR2, hm40, hm41, hm42⟩ := hX
  have hZ : strSt A s := hfix.1.2.2.2.2.1.2.2
  obtain ⟨-, -, -, -, -, -, -, hprv, hdig, hcst⟩ := hfix
  have hN : ∀ q, aN H.size q → A q := fun q h => hsz q (Nat.le_trans hS.1 h)
  obtain ⟨DS, hKS⟩ := gS_known hts
  have hKn := hKS.1 0 _ rfl
  refine W.newcK hx hb hown (hts _ wE_cl) (hts _ wE_in) (hts _ wE_ini) rfl k1 (by omega) (by omega) hKn.2.1 rfl (fun H1 kC hkC e1 z1 o1 => ?_)
  refine W.eq (g2 := F0 m (p0 + 3) ls (.ref H.size :: rest)) rfl ?_
  have hPb : va_P DS gS (wI H.size) H1 := fun k q hq => by
    rcases k with _ | k
    · cases hq
      exact ⟨_, rfl, (u_born tyJ4 hts uwJ4 hKn hkC e1 tyJ4_ok).to def4⟩
    · simp at hq
  have hS1 : va_S A s.heap H1 locs := ⟨Nat.le_trans hS.1 (by omega), fun q h1 h2 => (o1 q (Nat.lt_of_lt_of_le h1 hS.1)).trans (hS.2.1 q h1 h2), hS.2.2⟩
  refine lv_dup hx hb k2 rfl ?_
  have hpre : ∀ U : State, U.heap = H1 → s.WarmedH U.vm → sbI DS H.size (aN H.size) U := fun U hU hW => ⟨hKS.moved hW.alike, by rw [hU]; exact hPb, ⟨Nat.le_refl _, fun q h => by rw [hU, z1] at h; exact Nat.le_of_succ_le h⟩, (hZ.mv hW.alike (fun q q1 q2 => by rw [hU]; exact hS1.2.1 q q1 q2)).narrow hN⟩
  refine va_callv (va_runI (As := []) (rest := .ref H.size :: rest) ⟨hx, hb, hml, hown, hts⟩ (sb_bi (D := DS) (b := H.size) (A := aN H.size)) (cwI 0 hts (wMt_good wE_n_c) rfl rfl rfl (hts _ wE_ini) (hts _ wE_n_l) (hts _ wE_n_i) rfl (by decide +kernel) ⟨by show 2 + 1 ≤ R.frames; omega, by show 8 + (1 + 11) + 100 ≤ R.locals; omega⟩) ⟨sbI.blind, fun U hU hW => ⟨rfl, hpre U hU hW⟩⟩ rfl rfl hl rfl (by show 2 * 0 + (1 + (rest.map fun v => v.category).sum) ≤ 8; omega) k3 ⟨by omega, by omega⟩) hS1 (fun q _ h => hN q h) (fun q h => hN q h) (fun u t H2 locs2 ht hal hp hB hz2 hfr2 hS2 => ?_)
  obtain ⟨hK2, hA2, hP2⟩ := hB
  rw [ht] at hP2
  obtain ⟨da, cB⟩ := u
  dsimp only at hK2 hA2 hP2
  have hK2 := hK2.moved hal.symm
  have o2 : ∀ q : Nat, q < H.size → H2[q]? = H[q]? := fun q h => (hfr2 q (by omega) (fun h9 => absurd h (Nat.not_lt.mpr h9))).trans (o1 q h)
  obtain ⟨wd, a0, hwd, hvk, hst0, hok, hw1⟩ : ∃ (wd : List Int) (a0 : Nat), txL (2 * x + d + 6) = wd ++ digT x ∧ vk_R RL (if d = 0 then 262 else 275) (if d = 0 then "" else "0") a0 s ∧ strAt wd a0 A s ∧ okW wd ∧ wd.length ≤ 1 := by
    obtain ⟨⟨a, h1, h2⟩, a', h3, h4⟩ := hcst
    rcases d with _ | _ | d
    · exact ⟨[], a, by rw [txL_0]; rfl, h1, h2, ⟨by decide, fun x hx => by cases hx⟩, by decide⟩
    · exact ⟨[48], a', by rw [txL_1]; rfl, h3, h4, ⟨by decide, fun x hx => by simp at hx; omega⟩, by decide⟩
    · omega
  have hAs : ∀ q, As H.size da q → A q := fun q h => by rcases h with rfl | rfl; exact hN _ (Nat.le_refl _); exact hN _ hA2.2
  refine l_ldcwS hx hb hown hvk k4 ?_
  refine va_callr (va_runV (As := [.ref a0]) (rest := rest) ⟨hx, hb, hml, hown, hts⟩ (sb_bS (D := DS) (cB := cB) (b := H.size) (da := da) (n := 0) (f := fun _ => 0) (A := As H.size da) (wd := wd) (a0 := a0) hok (by omega)) (cwV 1 hts (wsV_good wE_S_l wE_S_i wE_S_s wE_ini wE_S_c) rfl rfl rfl (by decide +kernel) ⟨by show 6 + 1 ≤ R.frames; omega, by show 8 + (2 + 11) + 300 ≤ R.locals; omega⟩) ⟨sbT.blind, va_recv hK2 hP2 (show gS[0]? = some (RJ4, TJ4, 4) from rfl) (show (wB H.size _ _ _ _)[0]? = some (H.size, .inr (0, _)) from rfl), fun U hU hW => ⟨rfl, ⟨hK2.moved hW.alike, by rw [hU]; exact hP2, ⟨hA2.1, Or.inl rfl, Or.inr rfl⟩, (hZ.mv hW.alike (fun q q1 q2 => by rw [hU]; exact hS2.2.1 q q1 q2)).narrow hAs, hprv.moved hW.alike⟩, (hst0.mv hW.alike (fun q q1 q2 => by rw [hU]; exact hS2.2.1 q q1 q2)).narrow hAs⟩⟩ rfl rfl hl rfl (by show 2 * 0 + (rest.map fun v => v.category).sum ≤ 8; omega) k5 ⟨by omega, by omega⟩) hS2 (fun q _ h => hAs q h) (fun q h => hAs q h) (fun u a9 t H3 locs3 ht hal hp hB hz3 hfr3 hS3 => ?_)
  obtain ⟨rfl, hP3⟩ := hB
  rw [ht] at hP3
  have hnA : ∀ q : Nat, q < H.size → ¬ As H.size da q := fun q h h9 => by
    rcases h9 with rfl | rfl
    · exact Nat.lt_irrefl _ h
    · exact absurd h (Nat.not_lt.mpr hA2.2)
  have o3 : ∀ q : Nat, q < H.size → H3[q]? = H[q]? := fun q h => (hfr3 q (by omega) (hnA q h)).trans (o2 q h)
  refine harg H3 locs3 _ _ _ o3 hS3 ?_
  have hdg : digs x ≤ 3 := by unfold digs; split; omega; split <;> omega
  refine va_callr (va_runV (As := [.int (Int32.ofInt (x : Int))]) (rest := rest) ⟨hx, hb, hml, hown, hts⟩ (sb_bI (D := DS) (cB := cB) (b := H.size) (da := da) (n := 0 + wd.length) (f := _) (A := As H.size da) (x := x) hx9 (by omega)) (cwV 1 hts (wsV_good wE_I_l wE_I_i wE_I_s wE_ini wE_I_c) rfl rfl rfl (by decide +kernel) ⟨by show 3 + 1 ≤ R.frames; omega, by show 8 + (2 + 11) + 140 ≤ R.locals; omega⟩) ⟨sbG.blind, va_recv hK2 hP3 (show gS[0]? = some (RJ4, TJ4, 4) from rfl) (show (wB H.size _ _ _ _)[0]? = some (H.size, .inr (0, _)) from rfl), fun U hU hW => ⟨rfl, ⟨hK2.moved hW.alike, by rw [hU]; exact hP3, ⟨hA2.1, Or.inl rfl, Or.inr rfl⟩, (hZ.mv hW.alike (fun q q1 q2 => by rw [hU]; exact hS3.2.1 q q1 q2)).narrow hAs, hprv.moved hW.alike⟩, (hdig.mv hW.alike (fun q q1 q2 => by rw [hU]; exact hS3.2.1 q q1 q2)).narrow hAs⟩⟩ rfl rfl hl rfl (by show 2 * 0 + (rest.map fun v => v.category).sum ≤ 8; omega) k6 ⟨by omega, by omega⟩) hS3 (fun q _ h => hAs q h) (fun q h => hAs q h) (fun f9 a9 t H4 locs4 ht hal hp9 hB hz4 hfr4 hS4 => ?_)
  obtain ⟨rfl, hP4⟩ := hB
  rw [ht] at hP4
  have o4 : ∀ q : Nat, q < H.size → H4[q]? = H[q]? := fun q h => (hfr4 q (by omega) (hnA q h)).trans (o3 q h)
  have hok9 := okW_dig hx9 hok hw1
  have hlen : (wd ++ digT x).length = 0 + wd.length + digs x := by rw [List.length_append, digs_len]; omega
  have hf : ∀ j, j < 0 + wd.length + digs x → f9 j = Int32.ofInt ((wd ++ digT x).getD j 0) := by
    intro j hj
    by_cases h : j < wd.length
    · rw [hp9.1 j (by omega), if_pos ⟨Nat.zero_le _, by omega⟩, Nat.sub_zero, gapp_l h]
    · obtain ⟨i, rfl⟩ : ∃ i, j = 0 + wd.length + i := ⟨j - wd.length, by omega⟩
      rw [hp9.2 i (by omega), gapp_r (by omega)]
      congr 2
      omega
  have hb4 : H.size < H4.size := by
    have := (hP4 0 _ rfl).lt
    exact this
  have hd4 : da < H4.size := (hP4 1 _ rfl).lt
  have hN4 : ∀ q, aN H4.size q → A q := fun q h => hN q (Nat.le_trans (Nat.le_of_lt hb4) h)
  have hF4 : ∀ j, j < 0 + wd.length + digs x → fits .byte (.int (f9 j)) = true := fun j hj => by
    rw [hf j hj]
    exact fitB (hok9.2 _ (okW_at (by rw [hlen]; exact hj)))
  refine va_callr (va_runV (As := []) (rest := rest) ⟨hx, hb, hml, hown, hts⟩ (sb_ts (D := DS) (cB := cB) (b := H.size) (da := da) (n := 0 + wd.length + digs x) (f := f9) (N := H4.size) (by omega)) (cwV 0 hts (wsV_good wE_T_l wE_T_i wE_T_s wE_ini wE_T_c) rfl rfl rfl (by decide +kernel) ⟨by show 6 + 1 ≤ R.frames; omega, by show 8 + (1 + 11) + 320 ≤ R.locals; omega⟩) ⟨tsP.blind, va_recv hK2 hP4 (show gS[0]? = some (RJ4, TJ4, 4) from rfl) (show (wB H.size _ _ _ _)[0]? = some (H.size, .inr (0, _)) from rfl), fun U hU hW => ⟨rfl, hK2.moved hW.alike, by rw [hU]; exact hP4, ⟨⟨hb4, hd4⟩, by rw [hU]; exact Nat.le_refl _⟩, hF4, (hZ.mv hW.alike (fun q q1 q2 => by rw [hU]; exact hS4.2.1 q q1 q2)).narrow hN4⟩⟩ rfl rfl hl rfl (by show 2 * 0 + (rest.map fun v => v.category).sum ≤ 8; omega) k7 ⟨by omega, by omega⟩) hS4 (fun q _ h => hN4 q h) (fun q h => hN4 q h) (fun u q t H5 locs5 ht hal hp5 hB hz5 hfr5 hS5 => ?_)
  obtain ⟨⟨hq1, hq2, hq3⟩, hK5, hP5⟩ := hB
  rw [ht] at hP5
  have hK5 := hK5.moved hal.symm
  have o5 : ∀ q : Nat, q < H.size → H5[q]? = H[q]? := fun q h => (hfr5 q (by omega) (fun h9 => absurd (Nat.lt_trans h hb4) (Nat.not_lt.mpr h9))).trans (o4 q h)
  refine W.widen (by omega) (by omega) (kk q u.1 H5 locs5 ⟨by omega, by omega, (hP5 0 _ rfl).lt, (hP5 1 _ rfl).lt⟩ o5 hS5 (fun A2 U hU hW h1 h2 => ?_))
  rw [hwd]
  exact ⟨str_of hts hK5 hP5 hlen (by omega) (fun j hj => by rw [hp5 j hj, hf j hj]) h1 h2 hU hW.alike, hok9⟩
end TextL
theorem lpv_no {B hq : Nat} {sg sg2 : Nat → Nat} : ∀ l : List PV, noTx l = true → ∀ v ∈ l, lpv B hq sg2 v = lpv B hq sg v
  | [], _, v, hv => by cases hv
  | .inl x :: r, h, v, hv => by
    rcases List.mem_cons.mp hv with rfl | hv
    · rfl
    · exact lpv_no r h v hv
  | .inr (.inl x) :: r, h, v, hv => by
    rcases List.mem_cons.mp hv with rfl | hv
    · rfl
    · exact lpv_no r h v hv
  | .inr (.inr (.inl n)) :: r, h, v, hv => by
    rcases List.mem_cons.mp hv with rfl | hv
    · cases n <;> rfl
    · exact lpv_no r h v hv
  | .inr (.inr (.inr 0)) :: r, h, v, hv => by
    rcases List.mem_cons.mp hv with rfl | hv
    · rfl
    · exact lpv_no r h v hv
  | .inr (.inr (.inr (k + 1))) :: r, h, v, hv => by cases h
section TextW
variable {p : Program} {l : Launch} {e : Env} {R : Room} {s : State} {m : MethodId} {args : Array Value} {below : List Frame} {meth : Method} {c : Code}
variable {ρ sg sgL : Nat → Nat} {cA cW : Nat → ClassId} {D : va_G} {A J : Nat → Prop} {B : Nat} {bytes : ByteArray} {maxL km : Nat} {ret : Option FieldType} {pcs : List Nat} {rk : Nat} {Q : LQ}
variable {wl : List Cond} {linfs : List Inf} {mac : MacS} {cal : LCal} {ip kc : Nat} {lo : PL} {st : PS} {M : Mem} {C : LMem} {a b c0 d : Nat} {k : Int} {ts : List Nat} {ps : List Nat} {dp : Nat}
theorem wWL.cut {H H1 : Heap} {q t9 : Nat} (hw : wWL D cA cW A ρ B M C H) (h1 : H.size ≤ q) (h2 : H.size ≤ t9) (o1 : ∀ y : Nat, y < H.size → H1[y]? = H[y]?) : wWL D cA cW (fun y => A y ∧ y ≠ q ∧ y ≠ t9) ρ B M C H1 := by
  refine ⟨hw.1.kept (fun k x hx => o1 _ (hw.1 k x hx).lt), ⟨hw.2.1.1, fun k x hx => ⟨hw.2.1.2 k x hx, ?_, ?_⟩⟩, fun k hk => ?_⟩
  · have := (hw.1 k x hx).lt; omega
  · have := (hw.1 k x hx).lt; omega
  · obtain ⟨g1, g2, g3, g4⟩ := hw.2.2 k hk
    have := g4.lt
    exact ⟨⟨g1, by omega, by omega⟩, g2, g3, lat_kept g4 (o1 _ this)⟩
theorem wWL.wide {A2 : Nat → Prop} {H : Heap} (hw : wWL D cA cW A2 ρ B M C H) (h : ∀ q, A2 q → A q) : wWL D cA cW A ρ B M C H := ⟨hw.1, ⟨hw.2.1.1, fun k x hx => h _ (hw.2.1.2 k x hx)⟩, fun k hk => by
  obtain ⟨g1, g2, g3, g4⟩ := hw.2.2 k hk
  exact ⟨h _ g1, g2, g3, g4⟩⟩
set_option maxHeartbeats 2000000 in
theorem w_newL (hX : HypL p l R s m args meth c sg sgL cA cW D A J B bytes maxL km ret dp) (hwl : ∀ w ∈ wl, w ∈ lw_tbl) (hgd : ∀ w ∈ wl, goodWord w = true ∨ isStrW w = true) (hmx : ∀ y f, nth linfs y = some f → f.2.2.2.1 ≤ 40)
    (hIH : ∀ y a M C Q, cal y a M C Q → SoundL l linfs ρ sg cA cW D B dp y a M C Q) {ik : Nat}
    (hc : chkIL linfs wl bytes maxL ret pcs ip ps (.new ik, (a, b, c0, d), k, ts) = true)
    (hs : stepL mac cal (cald 12) rk km Q (PWL p l e R s m args below meth c ρ sgL cA cW D A J B maxL km pcs rk Q) (.new ik, (a, b, c0, d), k, ts) ip kc lo st M C) : PWL p l e R s m args below meth c ρ sgL cA cW D A J B maxL km pcs rk Q ip kc lo st M C := by
  have hX0 := hX
  obtain ⟨hx, hb, hr, hml, hown, hlocks, hts, hfix, hsz, hBs, htr, hR1, hR2, hm40⟩ := hX
  intro hkm hJ H locs ls hl hw hS
  simp only [stepL] at hs
  obtain ⟨hg7, hs⟩ := guardB_of hs
  have hg7 := Nat.le_of_ble_eq_true hg7
  -- the end, once the text stands
  have fin : ∀ (pA x : Nat), x < 1000 → d ≤ 1 → decode bytes (pcN pcs ip) = .ok (.new 259, 3) → decode bytes (pcN pcs ip + 3) = .ok (.dup, 1) → decode bytes (pcN pcs ip + 4) = .ok (.invokespecial 261, 3) → decode bytes (pcN pcs ip + 7) = .ok (.ldc_w (if d = 0 then 262 else 275), 3) → decode bytes (pcN pcs ip + 10) = .ok (.invokevirtual 264, 3) → chkPT linfs wl bytes pcs pA ps ts = true →
      putT cal (PWL p l e R s m args below meth c ρ sgL cA cW D A J B maxL km pcs rk Q) km kc (2 * x + d + 5 + 1) ts lo st M C →
      (∀ (H1 : Heap) (locs1 : List Loc) (k sl : Nat) (r1 : List Value), (∀ q : Nat, q < H.size → H1[q]? = H[q]?) → va_S A s.heap H1 locs1 → W p l e R s m args below meth c H1 locs1 k sl (MQ below (QcL D cA cW A ρ B rk Q) args s km (52 * km) A) (F0 m pA ls (.int (Int32.ofInt (x : Int)) :: r1)) → W p l e R s m args below meth c H1 locs1 k sl (MQ below (QcL D cA cW A ρ B rk Q) args s km (52 * km) A) (F0 m (pcN pcs ip + 13) ls r1)) →
      W p l e R s m args below meth c H locs kc (52 * kc) (MQ below (QcL D cA cW A ρ B rk Q) args s km (52 * km) A) (F0 m (pcN pcs ip) ls (st.map (lpv B (ρ 149) sgL))) := by
    intro pA x hx9 hd1 k1 k2 k3 k4 k5 hpt hs harg
    unfold chkPT at hpt
    simp only [dEp, Bool.and_eq_true, decide_eq_true_eq] at hpt
    obtain ⟨⟨k6, k7⟩, hpt⟩ := hpt
    rcases ts with _ | ⟨t0, _ | ⟨pn, _ | ⟨ipA, _ | ⟨cost, _ | ⟨t5, ts⟩⟩⟩⟩⟩ <;> try (cases hpt; done)
    rcases ps with _ | ⟨p0, _ | ⟨p1, _ | ⟨p2, _ | ⟨p3, ps⟩⟩⟩⟩ <;> try (cases hpt; done)
    simp only [Bool.and_eq_true, decide_eq_true_eq] at hpt
    obtain ⟨⟨rfl, g2⟩, g3⟩ := hpt
    have hs0 := hs
    unfold putT at hs0
    obtain ⟨hg, hkk, -⟩ := guardB_of hs0
    simp only [Bool.and_eq_true] at hg
    have hno := hg.2
    refine l_text hX0 (d := d) (x := x) hd1 hx9 hS hl.1 (by rw [lsum_cat]; exact hg7) (by omega) k1 k2 k3 k4 k5 k6 k7 harg (fun q t9 H1 locs1 hz o1 hS1 hstr => ?_)
    obtain ⟨z1, z2, z3, z4⟩ := hz
    have hA9 : ∀ y : Nat, H.size ≤ y → A y := fun y h => hsz y (Nat.le_trans hS.1 h)
    have hsg : ∀ y, (1 ≤ y ∧ y ≤ 5) → (fun k => if k = 2 * x + d + 5 + 1 then q else sgL k) y = sgL y := fun y h => if_neg (by omega)
    have go : ∀ pc : Nat, decode bytes pc = .ok (.invokestatic 255, 3) → pcN pcs ipA = pc + 3 → W p l e R s m args below meth c H1 locs1 (kc + 4) (52 * (kc + 4)) (MQ below (QcL D cA cW A ρ B rk Q) args s km (52 * km) A) (F0 m pc ls (.ref q :: st.map (lpv B (ρ 149) sgL))) := by
      intro pc hd hpc
      have h9 := l_puts hX0 hwl hgd hmx hIH (t9 := t0) g2 hd hpc (t := 2 * x + d + 5 + 1) (by omega) hs (by omega) (kc1 := kc + 8) (by omega) hJ (sg2 := fun k => if k = 2 * x + d + 5 + 1 then q else sgL k) (A2 := fun y => A y ∧ y ≠ q ∧ y ≠ t9) (J2 := fun j => (1 ≤ j ∧ j ≤ 5) ∨ j = 2 * x + d + 5 + 1) (fun y h => h.1) (Or.inr rfl) (lpv_no _ hno) (hw.cut z1 z2 o1) (fun _ _ _ h => h.wide fun y h => h.1) (fun y h => ⟨hA9 y (by omega), by omega, by omega⟩) (fun U hU hW => ?_) hS1 hl (Nat.le_refl _) (e := e) (below := below)
      · rw [show (if 2 * x + d + 5 + 1 = 2 * x + d + 5 + 1 then q else sgL (2 * x + d + 5 + 1)) = q from if_pos rfl] at h9
        exact W.widen (by omega) (by omega) h9
      · obtain ⟨f1, f2, f3, f4, f5, f6⟩ := (hfix.warm hW (fun y q1 q2 => by rw [hU]; exact hS1.2.1 y q1 q2)).narrow (A' := fun y => A y ∧ y ≠ q ∧ y ≠ t9) (fun y h => h.1)
        refine ⟨f1, f2, fun j k h1 h2 hm => ?_, fun j h1 h2 => Or.inl ⟨h1, h2⟩, fun j hj => ?_, f6⟩
        · rw [hsg j ⟨h1, h2⟩]; exact f3 j k h1 h2 hm
        · rcases hj with hj | rfl
          · rw [hsg j hj]; exact f5 j (f4 j hj.1 hj.2)
          · rw [show (fun k => if k = 2 * x + d + 5 + 1 then q else sgL k) (2 * x + d + 5 + 1) = q from if_pos rfl]
            exact hstr _ U hU hW (fun h => h.2.1 rfl) (fun h => h.2.2 rfl)
    revert g3
    split
    · rename_i hd
      intro g3
      exact go (pA + 6) hd (of_decide_eq_true g3)
    · rename_i off hd
      intro g3
      simp only [Bool.and_eq_true, decide_eq_true_eq] at g3
      refine lv_goto (tgt := (((pA + 6 : Nat) : Int) + off).toNat) hx hb hd (Int.toNat_of_nonneg g3.1.1).symm ?_
      exact go _ g3.1.2 g3.2
    · intro g3
      cases g3
  simp only [chkIL, dE, dEp, Bool.and_eq_true, decide_eq_true_eq] at hc
  obtain ⟨⟨⟨⟨⟨⟨⟨k1, rfl⟩, k2⟩, k3⟩, k4⟩, hd1⟩, k5⟩, hc⟩ := hc
  rcases c0 with _ | c0
  · simp only [Bool.and_eq_true, decide_eq_true_eq] at hc
    obtain ⟨kA, hpt⟩ := hc
    obtain ⟨x, gx, ⟨hx0, hx1⟩, hs⟩ := gI_of (show gI (nth lo a) _ from hs)
    obtain ⟨xn, rfl⟩ : ∃ xn : Nat, x = xn := ⟨x.toNat, by omega⟩
    refine fin (pcN pcs ip + 15) xn (by omega) hd1 k1 k2 k3 k4 k5 hpt hs (fun H1 locs1 k sl r1 _ _ hW => ?_)
    exact lv_iload hx hb kA (hl.at' gx) hW
  · simp only [Bool.and_eq_true, decide_eq_true_eq] at hc
    obtain ⟨⟨⟨⟨⟨⟨⟨kA, rfl⟩, kB⟩, kC⟩, hk5⟩, kD⟩, kE⟩, hpt⟩ := hc
    obtain ⟨o, go, hs⟩ := gR_of (show gR (nth lo 2) _ from hs)
    rcases o with o | o
    case inr => exact hs.elim
    obtain ⟨q, rfl, hs⟩ := cellAt_get hs
    obtain ⟨i, gi, hk1, hi, ⟨hx0, hx1⟩, hs⟩ := gI_of hs
    generalize hxe : (C q).2.2 (i + k).toNat = x at hs hx0 hx1
    obtain ⟨xn, rfl⟩ : ∃ xn : Nat, x = xn := ⟨x.toNat, by omega⟩
    refine fin (pcN pcs ip + 19) xn (by omega) hd1 k1 k2 k3 k4 k5 hpt hs (fun H1 locs1 k9 sl r1 o1 hS1 hW => ?_)
    refine lv_aload_n hx hb kA rfl (hl.at' go) ?_
    refine lv_iload hx hb kB (hl.at' gi) ?_
    refine lv_iconst (v := Int32.ofInt k) hx hb kC (by obtain ⟨h1, h2⟩ := hk5; have : k = 0 ∨ k = 1 ∨ k = 2 ∨ k = 3 ∨ k = 4 ∨ k = 5 := by omega
                                                       rcases this with rfl | rfl | rfl | rfl | rfl | rfl <;> rfl) ?_
    refine lv_iadd hx hb kD ?_
    rw [← Int32.ofInt_add]
    obtain ⟨-, -, ⟨-, hl9⟩, hat⟩ := hw.2.2 q (by omega)
    rw [lCell_k hk1] at hat
    have hat1 := lat_kept hat (o1 _ hat.lt)
    have hq := z_in hi hl9
    refine va_iald (ws := [(B + q, .inl (cW 1, (C q).2.1, .inl fun j => Int32.ofInt ((C q).2.2 j)))]) hx hb hfix.2.1 (lat_one hat1) 0 0 rfl (tysW_at 1 (by decide) (by decide)) hq.1 kE ?_
    rw [hq.2, hxe]
    exact hW
end TextW
