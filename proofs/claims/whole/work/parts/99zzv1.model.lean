/-! The constructor of the reference (by program). -/
def mLen : List Nat := [900, 96, 1920, 20, 49, 4, 4, 16, 4, 4, 4, 3, 3, 60000, 200, 100, 600, 24, 24, 24, 24, 24, 2000, 7, 3]
def mAF (cA : Nat → ClassId) (x : Nat) : va_E := .inl (cA 1, ((match wNth mLen x with
  | some n => n
  | none => 0), .inl (fun _ => 0)))
section MROWS
variable {p : Program} {l : Launch} {e : Env} {R : Room} {s : State} {m : MethodId} {args : Array Value} {below : List Frame} {meth : Method} {c : Code} {H H0 : Heap} {locs : List Loc} {cells slots : Nat} {Q : State → Prop}
variable {pc : Nat} {ls : Array Slot} {rest : List Value} {D : va_G} {cA : Nat → ClassId} {B N i k : Nat} {g g0 : Nat → va_E} {fs : List Value}
theorem m_arr {index j : Nat} (hexec : p.tables.exec = Jvm.exec) (hb : c.code = cX12_init) (hts : ∀ w ∈ LW, w.before args s = true) (hown : s.vm.findClass RX12 = some m.cls) (hK : va_K D gCl (tysL cA) s) (hi : i < N) (hE : EH D B (N + k) g H) (hS : va_S (Al B) H0 H locs) (hA : ∀ x, x < k → g (N + x) = mAF cA x) (ho : g i = .inr (12, fs)) (hf : ∀ x, x < N → x ≠ i → g x = g0 x)
    {n : Int32} {N' : Nat} (hn : ¬ n < 0) (hN : n.toNatClampNeg = N') (hAF : mAF cA k = .inl (cA 1, (N', .inl (fun _ => 0)))) (hbytes : N' * 4 ≤ 536870912) (hcells : cells + 1 ≤ R.cells) (hslots : slots + N' ≤ R.slots) (hj : j < gN 12) (hlen : j < fs.length) (hty : gTy 12 j = .array .int) (hlink : Cond.fieldLink RX12 index (gT 12 j).1 (gT 12 j).2.1 (gT 12 j).2.2.1 ∈ LW) (hfin : (gT 12 j).2.2.2 = false ∨ ((gT 12 j).2.2.2 = true ∧ meth.name = "<init>" ∧ (gT 12 j).1 = RX12)) (d1 : decode cX12_init pc = .ok (.newarray .int, 2)) (d2 : decode cX12_init (pc + 2) = .ok (.putfield index, 3))
    (kk : ∀ (g1 : Nat → va_E) (H1 : Heap) (locs1 : List Loc), EH D B (N + (k + 1)) g1 H1 → (∀ x, x < k + 1 → g1 (N + x) = mAF cA x) → g1 i = .inr (12, fs.set j (.ref (B + (N + k)))) → (∀ x, x < N → x ≠ i → g1 x = g0 x) → va_S (Al B) H0 H1 locs1 → W p l e R s m args below meth c H1 locs1 (cells + 1) (slots + N') Q (F0 m (pc + 5) ls rest)) : W p l e R s m args below meth c H locs cells slots Q (F0 m pc ls (.int n :: .ref (B + i) :: rest)) := by
  refine eh_newa (N := N + k) (atype := .int) (t0 := 0) (c1 := cA 1) (N' := N') (a0 := (N', .inl (fun _ => 0))) hexec hb hts hK hE hS wC_3 rfl (fun _ => rfl) hn hN hbytes hcells hslots d1 (fun H1 hE1 hS1 => ?_)
  refine eh_put (N := N + k + 1) (b := 12) (i := i) (k := j) (fs := fs) (v := .ref (B + (N + k))) hexec hb hts hown hK hE1 hS1 (by decide) (by omega) ((gup_ne (by omega)).trans ho) hj hlink hfin (by rw [hty]; rfl) (by rw [hty]; rfl) hlen d2 (fun H2 locs2 hE2 hS2 => ?_)
  refine kk _ H2 locs2 hE2 (fun x hx => ?_) gup_same (fun x hx hxi => ?_) hS2
  · rw [gup_ne (show N + x ≠ i by omega)]
    by_cases e1 : x = k
    · subst e1
      rw [gup_same, hAF]
    · rw [gup_ne (show N + x ≠ N + k by omega)]
      exact hA x (by omega)
  · rw [gup_ne hxi, gup_ne (show x ≠ N + k by omega)]
    exact hf x hx hxi
theorem m_int {index j : Nat} (hexec : p.tables.exec = Jvm.exec) (hb : c.code = cX12_init) (hts : ∀ w ∈ LW, w.before args s = true) (hown : s.vm.findClass RX12 = some m.cls) (hK : va_K D gCl (tysL cA) s) (hi : i < N) (hE : EH D B (N + k) g H) (hS : va_S (Al B) H0 H locs) (hA : ∀ x, x < k → g (N + x) = mAF cA x) (ho : g i = .inr (12, fs)) (hf : ∀ x, x < N → x ≠ i → g x = g0 x)
    {n : Int32} (hj : j < gN 12) (hlen : j < fs.length) (hty : gTy 12 j = .int) (hlink : Cond.fieldLink RX12 index (gT 12 j).1 (gT 12 j).2.1 (gT 12 j).2.2.1 ∈ LW) (hfin : (gT 12 j).2.2.2 = false ∨ ((gT 12 j).2.2.2 = true ∧ meth.name = "<init>" ∧ (gT 12 j).1 = RX12)) (d2 : decode cX12_init pc = .ok (.putfield index, 3))
    (kk : ∀ (g1 : Nat → va_E) (H1 : Heap) (locs1 : List Loc), EH D B (N + k) g1 H1 → (∀ x, x < k → g1 (N + x) = mAF cA x) → g1 i = .inr (12, fs.set j (.int n)) → (∀ x, x < N → x ≠ i → g1 x = g0 x) → va_S (Al B) H0 H1 locs1 → W p l e R s m args below meth c H1 locs1 cells slots Q (F0 m (pc + 3) ls rest)) : W p l e R s m args below meth c H locs cells slots Q (F0 m pc ls (.int n :: .ref (B + i) :: rest)) := by
  refine eh_put (N := N + k) (b := 12) (i := i) (k := j) (fs := fs) (v := .int n) hexec hb hts hown hK hE hS (by decide) (by omega) ho hj hlink hfin (by rw [hty]; rfl) (by rw [hty]; rfl) hlen d2 (fun H2 locs2 hE2 hS2 => ?_)
  refine kk _ H2 locs2 hE2 (fun x hx => ?_) gup_same (fun x hx hxi => ?_) hS2
  · rw [gup_ne (show N + x ≠ i by omega)]
    exact hA x hx
  · rw [gup_ne hxi]
    exact hf x hx hxi
end MROWS
set_option maxHeartbeats 40000000 in
set_option maxRecDepth 100000 in
theorem k_X12 {l : Launch} (htr : l.stackTraces = false) {D : va_G} {cA : Nat → ClassId} {sg : Nat → Nat} {B N i : Nat} {g : Nat → va_E} (hi0 : i = 150) (hN : N = 151) (he : g i = .inr (12, [.int 0, .null, .int 0, .null, .null, .null, .int 0, .int 0, .int 0, .int 0, .int 0, .int 0, .null, .null, .null, .null, .int 0, .int 0, .int 0, .null, .null, .null, .null, .null, .int 0, .int 0, .int 0, .int 0, .null, .null, .null, .int 0, .int 0, .null, .null, .null, .null, .null, .null, .null, .int 0, .int 0, .int 0, .null, .null])) (h11 : PK11 cA B g 0 1) : Met l yX12_init (wMt yX12_init cX12_init 2 none) ({ frames := 14, cells := 25, slots := 66057, locals := 600 }) (va_Pc [.ref (B + i)] (fun U => EH D B N g U.heap ∧ wCon cA D U ∧ wFix sg cA D B U)) (va_Qv (fun M : Mem => Iv M) (fun M t => wP0 (rho B) cA D B M t.heap) (Al B)) 25 66057 (Al B) := by
  refine Met.ofW (cc := cX12_init) (maxL := 2) (ret := none) (by decide) rfl ?_
  intro p e s m args below meth c s₁ B9 hml hv
  obtain ⟨rfl, hE, hCon, hfix⟩ := hv
  have hi : i < N := by omega
  have hsz : s.heap.size ≤ B + 176 := by rw [hE.1]; omega
  have hx := B9.exec
  have hb := B9.bytes
  have hr := B9.returns
  have hts0 := atoms_spec (ws := wMt yX12_init cX12_init 2 none) B9.pre
  have hts : ∀ w ∈ LW, w.before _ s = true := fun w hw => hts0 w (List.mem_cons_of_mem _ hw)
  have hown : s.vm.findClass RX12 = some m.cls := findClass_of_methodNamed B9.named
  have hlocks := B9.notSynchronized
  have hin : meth.name = "<init>" := (name_of_methodNamed B9.named B9.method).1
  have hK := hCon.1
  have hS : va_S (Al B) s.heap s.heap [] := va_S.rf
  have hl := lv_entry ([.ref (B + i)]) (n := 2) (Nat.le_of_ble_eq_true rfl)
  rw [lg_entry_eq]
  generalize (lg_sl ([.ref (B + i)]) ++ List.replicate (2 - (lg_sl ([.ref (B + i)])).length) Slot.unset).toArray = ls at hl ⊢
  have hl : lv_has ls 2 [(0, .ref (B + i))] := hl
  refine lv_aload_n hx hb dX12_init_0 rfl (lv_at hl 0 rfl) ?_
  refine W.objInit hx hb hown (hts _ wC_168) (hts _ wC_1) (hts _ wC_2) rfl (by rw [hml]; exact hl.1) rfl dX12_init_1 (Nat.le_of_ble_eq_true rfl) (Nat.le_of_ble_eq_true rfl) ?_
  refine W.eq (g2 := F0 m 4 ls []) rfl ?_
  have hf : ∀ x, x < N → x ≠ i → g x = g x := fun _ _ _ => rfl
  have hE : EH D B (N + 0) g s.heap := hE
  have hA : ∀ x, x < 0 → g (N + x) = mAF cA x := fun x hx => absurd hx (Nat.not_lt_zero x)
  have ho := he
  refine lv_aload_n hx hb dX12_init_4 rfl (lv_at hl 0 rfl) ?_
  refine lv_sipush (v := 900) hx hb dX12_init_5 (by decide) ?_
  refine m_arr (N := N) (i := i) (k := 0) (j := 1) (N' := 900) hx hb hts hown hK hi hE hS hA ho hf (by decide) (by decide) rfl (by decide) (Nat.le_of_ble_eq_true rfl) (Nat.le_of_ble_eq_true rfl) (by decide) (Nat.le_of_ble_eq_true rfl) rfl wC_169 (Or.inr ⟨rfl, hin, rfl⟩) dX12_init_8 dX12_init_10 (fun g H locs hE hA ho hf hS => ?_)
  have ho : g i = .inr (12, [.int 0, .ref (B + (N + 0)), .int 0, .null, .null, .null, .int 0, .int 0, .int 0, .int 0, .int 0, .int 0, .null, .null, .null, .null, .int 0, .int 0, .int 0, .null, .null, .null, .null, .null, .int 0, .int 0, .int 0, .int 0, .null, .null, .null, .int 0, .int 0, .null, .null, .null, .null, .null, .null, .null, .int 0, .int 0, .int 0, .null, .null]) := ho
  refine lv_aload_n hx hb dX12_init_13 rfl (lv_at hl 0 rfl) ?_
  refine lv_bipush (v := 96) hx hb dX12_init_14 (by decide) ?_
  refine m_arr (N := N) (i := i) (k := 1) (j := 3) (N' := 96) hx hb hts hown hK hi hE hS hA ho hf (by decide) (by decide) rfl (by decide) (Nat.le_of_ble_eq_true rfl) (Nat.le_of_ble_eq_true rfl) (by decide) (Nat.le_of_ble_eq_true rfl) rfl wC_170 (Or.inr ⟨rfl, hin, rfl⟩) dX12_init_16 dX12_init_18 (fun g H locs hE hA ho hf hS => ?_)
  have ho : g i = .inr (12, [.int 0, .ref (B + (N + 0)), .int 0, .ref (B + (N + 1)), .null, .null, .int 0, .int 0, .int 0, .int 0, .int 0, .int 0, .null, .null, .null, .null, .int 0, .int 0, .int 0, .null, .null, .null, .null, .null, .int 0, .int 0, .int 0, .int 0, .null, .null, .null, .int 0, .int 0, .null, .null, .null, .null, .null, .null, .null, .int 0, .int 0, .int 0, .null, .null]) := ho
  refine lv_aload_n hx hb dX12_init_21 rfl (lv_at hl 0 rfl) ?_
  refine lv_sipush (v := 1920) hx hb dX12_init_22 (by decide) ?_
  refine m_arr (N := N) (i := i) (k := 2) (j := 4) (N' := 1920) hx hb hts hown hK hi hE hS hA ho hf (by decide) (by decide) rfl (by decide) (Nat.le_of_ble_eq_true rfl) (Nat.le_of_ble_eq_true rfl) (by decide) (Nat.le_of_ble_eq_true rfl) rfl wC_171 (Or.inr ⟨rfl, hin, rfl⟩) dX12_init_25 dX12_init_27 (fun g H locs hE hA ho hf hS => ?_)
  have ho : g i = .inr (12, [.int 0, .ref (B + (N + 0)), .int 0, .ref (B + (N + 1)), .ref (B + (N + 2)), .null, .int 0, .int 0, .int 0, .int 0, .int 0, .int 0, .null, .null, .null, .null, .int 0, .int 0, .int 0, .null, .null, .null, .null, .null, .int 0, .int 0, .int 0, .int 0, .null, .null, .null, .int 0, .int 0, .null, .null, .null, .null, .null, .null, .null, .int 0, .int 0, .int 0, .null, .null]) := ho
  refine lv_aload_n hx hb dX12_init_30 rfl (lv_at hl 0 rfl) ?_
  refine lv_bipush (v := 20) hx hb dX12_init_31 (by decide) ?_
  refine m_arr (N := N) (i := i) (k := 3) (j := 5) (N' := 20) hx hb hts hown hK hi hE hS hA ho hf (by decide) (by decide) rfl (by decide) (Nat.le_of_ble_eq_true rfl) (Nat.le_of_ble_eq_true rfl) (by decide) (Nat.le_of_ble_eq_true rfl) rfl wC_172 (Or.inr ⟨rfl, hin, rfl⟩) dX12_init_33 dX12_init_35 (fun g H locs hE hA ho hf hS => ?_)
  have ho : g i = .inr (12, [.int 0, .ref (B + (N + 0)), .int 0, .ref (B + (N + 1)), .ref (B + (N + 2)), .ref (B + (N + 3)), .int 0, .int 0, .int 0, .int 0, .int 0, .int 0, .null, .null, .null, .null, .int 0, .int 0, .int 0, .null, .null, .null, .null, .null, .int 0, .int 0, .int 0, .int 0, .null, .null, .null, .int 0, .int 0, .null, .null, .null, .null, .null, .null, .null, .int 0, .int 0, .int 0, .null, .null]) := ho
  refine lv_aload_n hx hb dX12_init_38 rfl (lv_at hl 0 rfl) ?_
  refine lv_iconst (v := 1) hx hb dX12_init_39 (by decide) ?_
  refine m_int (N := N) (i := i) (k := 4) (j := 8) hx hb hts hown hK hi hE hS hA ho hf (by decide) (Nat.le_of_ble_eq_true rfl) rfl wC_173 (Or.inl rfl) dX12_init_40 (fun g H locs hE hA ho hf hS => ?_)
  have ho : g i = .inr (12, [.int 0, .ref (B + (N + 0)), .int 0, .ref (B + (N + 1)), .ref (B + (N + 2)), .ref (B + (N + 3)), .int 0, .int 0, .int 1, .int 0, .int 0, .int 0, .null, .null, .null, .null, .int 0, .int 0, .int 0, .null, .null, .null, .null, .null, .int 0, .int 0, .int 0, .int 0, .null, .null, .null, .int 0, .int 0, .null, .null, .null, .null, .null, .null, .null, .int 0, .int 0, .int 0, .null, .null]) := ho
  refine lv_aload_n hx hb dX12_init_43 rfl (lv_at hl 0 rfl) ?_
  refine lv_bipush (v := 24) hx hb dX12_init_44 (by decide) ?_
  refine m_int (N := N) (i := i) (k := 4) (j := 10) hx hb hts hown hK hi hE hS hA ho hf (by decide) (Nat.le_of_ble_eq_true rfl) rfl wC_174 (Or.inl rfl) dX12_init_46 (fun g H locs hE hA ho hf hS => ?_)
  have ho : g i = .inr (12, [.int 0, .ref (B + (N + 0)), .int 0, .ref (B + (N + 1)), .ref (B + (N + 2)), .ref (B + (N + 3)), .int 0, .int 0, .int 1, .int 0, .int 24, .int 0, .null, .null, .null, .null, .int 0, .int 0, .int 0, .null, .null, .null, .null, .null, .int 0, .int 0, .int 0, .int 0, .null, .null, .null, .int 0, .int 0, .null, .null, .null, .null, .null, .null, .null, .int 0, .int 0, .int 0, .null, .null]) := ho
  refine lv_aload_n hx hb dX12_init_49 rfl (lv_at hl 0 rfl) ?_
  refine lv_sipush (v := 999) hx hb dX12_init_50 (by decide) ?_
  refine m_int (N := N) (i := i) (k := 4) (j := 11) hx hb hts hown hK hi hE hS hA ho hf (by decide) (Nat.le_of_ble_eq_true rfl) rfl wC_175 (Or.inl rfl) dX12_init_53 (fun g H locs hE hA ho hf hS => ?_)
  have ho : g i = .inr (12, [.int 0, .ref (B + (N + 0)), .int 0, .ref (B + (N + 1)), .ref (B + (N + 2)), .ref (B + (N + 3)), .int 0, .int 0, .int 1, .int 0, .int 24, .int 999, .null, .null, .null, .null, .int 0, .int 0, .int 0, .null, .null, .null, .null, .null, .int 0, .int 0, .int 0, .int 0, .null, .null, .null, .int 0, .int 0, .null, .null, .null, .null, .null, .null, .null, .int 0, .int 0, .int 0, .null, .null]) := ho
  refine lv_aload_n hx hb dX12_init_56 rfl (lv_at hl 0 rfl) ?_
  refine lv_bipush (v := 49) hx hb dX12_init_57 (by decide) ?_
  refine m_arr (N := N) (i := i) (k := 4) (j := 12) (N' := 49) hx hb hts hown hK hi hE hS hA ho hf (by decide) (by decide) rfl (by decide) (Nat.le_of_ble_eq_true rfl) (Nat.le_of_ble_eq_true rfl) (by decide) (Nat.le_of_ble_eq_true rfl) rfl wC_176 (Or.inr ⟨rfl, hin, rfl⟩) dX12_init_59 dX12_init_61 (fun g H locs hE hA ho hf hS => ?_)
  have ho : g i = .inr (12, [.int 0, .ref (B + (N + 0)), .int 0, .ref (B + (N + 1)), .ref (B + (N + 2)), .ref (B + (N + 3)), .int 0, .int 0, .int 1, .int 0, .int 24, .int 999, .ref (B + (N + 4)), .null, .null, .null, .int 0, .int 0, .int 0, .null, .null, .null, .null, .null, .int 0, .int 0, .int 0, .int 0, .null, .null, .null, .int 0, .int 0, .null, .null, .null, .null, .null, .null, .null, .int 0, .int 0, .int 0, .null, .null]) := ho
  refine lv_aload_n hx hb dX12_init_64 rfl (lv_at hl 0 rfl) ?_
  refine lv_iconst (v := 4) hx hb dX12_init_65 (by decide) ?_
  refine m_arr (N := N) (i := i) (k := 5) (j := 13) (N' := 4) hx hb hts hown hK hi hE hS hA ho hf (by decide) (by decide) rfl (by decide) (Nat.le_of_ble_eq_true rfl) (Nat.le_of_ble_eq_true rfl) (by decide) (Nat.le_of_ble_eq_true rfl) rfl wC_177 (Or.inr ⟨rfl, hin, rfl⟩) dX12_init_66 dX12_init_68 (fun g H locs hE hA ho hf hS => ?_)
  have ho : g i = .inr (12, [.int 0, .ref (B + (N + 0)), .int 0, .ref (B + (N + 1)), .ref (B + (N + 2)), .ref (B + (N + 3)), .int 0, .int 0, .int 1, .int 0, .int 24, .int 999, .ref (B + (N + 4)), .ref (B + (N + 5)), .null, .null, .int 0, .int 0, .int 0, .null, .null, .null, .null, .null, .int 0, .int 0, .int 0, .int 0, .null, .null, .null, .int 0, .int 0, .null, .null, .null, .null, .null, .null, .null, .int 0, .int 0, .int 0, .null, .null]) := ho
  refine lv_aload_n hx hb dX12_init_71 rfl (lv_at hl 0 rfl) ?_
  refine lv_iconst (v := 4) hx hb dX12_init_72 (by decide) ?_
  refine m_arr (N := N) (i := i) (k := 6) (j := 14) (N' := 4) hx hb hts hown hK hi hE hS hA ho hf (by decide) (by decide) rfl (by decide) (Nat.le_of_ble_eq_true rfl) (Nat.le_of_ble_eq_true rfl) (by decide) (Nat.le_of_ble_eq_true rfl) rfl wC_178 (Or.inr ⟨rfl, hin, rfl⟩) dX12_init_73 dX12_init_75 (fun g H locs hE hA ho hf hS => ?_)
  have ho : g i = .inr (12, [.int 0, .ref (B + (N + 0)), .int 0, .ref (B + (N + 1)), .ref (B + (N + 2)), .ref (B + (N + 3)), .int 0, .int 0, .int 1, .int 0, .int 24, .int 999, .ref (B + (N + 4)), .ref (B + (N + 5)), .ref (B + (N + 6)), .null, .int 0, .int 0, .int 0, .null, .null, .null, .null, .null, .int 0, .int 0, .int 0, .int 0, .null, .null, .null, .int 0, .int 0, .null, .null, .null, .null, .null, .null, .null, .int 0, .int 0, .int 0, .null, .null]) := ho
  refine lv_aload_n hx hb dX12_init_78 rfl (lv_at hl 0 rfl) ?_
  refine lv_bipush (v := 16) hx hb dX12_init_79 (by decide) ?_
  refine m_arr (N := N) (i := i) (k := 7) (j := 15) (N' := 16) hx hb hts hown hK hi hE hS hA ho hf (by decide) (by decide) rfl (by decide) (Nat.le_of_ble_eq_true rfl) (Nat.le_of_ble_eq_true rfl) (by decide) (Nat.le_of_ble_eq_true rfl) rfl wC_179 (Or.inr ⟨rfl, hin, rfl⟩) dX12_init_81 dX12_init_83 (fun g H locs hE hA ho hf hS => ?_)
  have ho : g i = .inr (12, [.int 0, .ref (B + (N + 0)), .int 0, .ref (B + (N + 1)), .ref (B + (N + 2)), .ref (B + (N + 3)), .int 0, .int 0, .int 1, .int 0, .int 24, .int 999, .ref (B + (N + 4)), .ref (B + (N + 5)), .ref (B + (N + 6)), .ref (B + (N + 7)), .int 0, .int 0, .int 0, .null, .null, .null, .null, .null, .int 0, .int 0, .int 0, .int 0, .null, .null, .null, .int 0, .int 0, .null, .null, .null, .null, .null, .null, .null, .int 0, .int 0, .int 0, .null, .null]) := ho
  refine lv_aload_n hx hb dX12_init_86 rfl (lv_at hl 0 rfl) ?_
  refine lv_iconst (v := 1) hx hb dX12_init_87 (by decide) ?_
  refine m_int (N := N) (i := i) (k := 8) (j := 16) hx hb hts hown hK hi hE hS hA ho hf (by decide) (Nat.le_of_ble_eq_true rfl) rfl wC_180 (Or.inl rfl) dX12_init_88 (fun g H locs hE hA ho hf hS => ?_)
  have ho : g i = .inr (12, [.int 0, .ref (B + (N + 0)), .int 0, .ref (B + (N + 1)), .ref (B + (N + 2)), .ref (B + (N + 3)), .int 0, .int 0, .int 1, .int 0, .int 24, .int 999, .ref (B + (N + 4)), .ref (B + (N + 5)), .ref (B + (N + 6)), .ref (B + (N + 7)), .int 1, .int 0, .int 0, .null, .null, .null, .null, .null, .int 0, .int 0, .int 0, .int 0, .null, .null, .null, .int 0, .int 0, .null, .null, .null, .null, .null, .null, .null, .int 0, .int 0, .int 0, .null, .null]) := ho
  refine lv_aload_n hx hb dX12_init_91 rfl (lv_at hl 0 rfl) ?_
  refine lv_iconst (v := 1) hx hb dX12_init_92 (by decide) ?_
  refine m_int (N := N) (i := i) (k := 8) (j := 17) hx hb hts hown hK hi hE hS hA ho hf (by decide) (Nat.le_of_ble_eq_true rfl) rfl wC_181 (Or.inl rfl) dX12_init_93 (fun g H locs hE hA ho hf hS => ?_)
  have ho : g i = .inr (12, [.int 0, .ref (B + (N + 0)), .int 0, .ref (B + (N + 1)), .ref (B + (N + 2)), .ref (B + (N + 3)), .int 0, .int 0, .int 1, .int 0, .int 24, .int 999, .ref (B + (N + 4)), .ref (B + (N + 5)), .ref (B + (N + 6)), .ref (B + (N + 7)), .int 1, .int 1, .int 0, .null, .null, .null, .null, .null, .int 0, .int 0, .int 0, .int 0, .null, .null, .null, .int 0, .int 0, .null, .null, .null, .null, .null, .null, .null, .int 0, .int 0, .int 0, .null, .null]) := ho
  refine lv_aload_n hx hb dX12_init_96 rfl (lv_at hl 0 rfl) ?_
  refine lv_iconst (v := 1) hx hb dX12_init_97 (by decide) ?_
  refine m_int (N := N) (i := i) (k := 8) (j := 18) hx hb hts hown hK hi hE hS hA ho hf (by decide) (Nat.le_of_ble_eq_true rfl) rfl wC_182 (Or.inl rfl) dX12_init_98 (fun g H locs hE hA ho hf hS => ?_)
  have ho : g i = .inr (12, [.int 0, .ref (B + (N + 0)), .int 0, .ref (B + (N + 1)), .ref (B + (N + 2)), .ref (B + (N + 3)), .int 0, .int 0, .int 1, .int 0, .int 24, .int 999, .ref (B + (N + 4)), .ref (B + (N + 5)), .ref (B + (N + 6)), .ref (B + (N + 7)), .int 1, .int 1, .int 1, .null, .null, .null, .null, .null, .int 0, .int 0, .int 0, .int 0, .null, .null, .null, .int 0, .int 0, .null, .null, .null, .null, .null, .null, .null, .int 0, .int 0, .int 0, .null, .null]) := ho
  refine lv_aload_n hx hb dX12_init_101 rfl (lv_at hl 0 rfl) ?_
  refine lv_iconst (v := 4) hx hb dX12_init_102 (by decide) ?_
  refine m_arr (N := N) (i := i) (k := 8) (j := 19) (N' := 4) hx hb hts hown hK hi hE hS hA ho hf (by decide) (by decide) rfl (by decide) (Nat.le_of_ble_eq_true rfl) (Nat.le_of_ble_eq_true rfl) (by decide) (Nat.le_of_ble_eq_true rfl) rfl wC_183 (Or.inr ⟨rfl, hin, rfl⟩) dX12_init_103 dX12_init_105 (fun g H locs hE hA ho hf hS => ?_)
  have ho : g i = .inr (12, [.int 0, .ref (B + (N + 0)), .int 0, .ref (B + (N + 1)), .ref (B + (N + 2)), .ref (B + (N + 3)), .int 0, .int 0, .int 1, .int 0, .int 24, .int 999, .ref (B + (N + 4)), .ref (B + (N + 5)), .ref (B + (N + 6)), .ref (B + (N + 7)), .int 1, .int 1, .int 1, .ref (B + (N + 8)), .null, .null, .null, .null, .int 0, .int 0, .int 0, .int 0, .null, .null, .null, .int 0, .int 0, .null, .null, .null, .null, .null, .null, .null, .int 0, .int 0, .int 0, .null, .null]) := ho
  refine lv_aload_n hx hb dX12_init_108 rfl (lv_at hl 0 rfl) ?_
  refine lv_iconst (v := 4) hx hb dX12_init_109 (by decide) ?_
  refine m_arr (N := N) (i := i) (k := 9) (j := 20) (N' := 4) hx hb hts hown hK hi hE hS hA ho hf (by decide) (by decide) rfl (by decide) (Nat.le_of_ble_eq_true rfl) (Nat.le_of_ble_eq_true rfl) (by decide) (Nat.le_of_ble_eq_true rfl) rfl wC_184 (Or.inr ⟨rfl, hin, rfl⟩) dX12_init_110 dX12_init_112 (fun g H locs hE hA ho hf hS => ?_)
  have ho : g i = .inr (12, [.int 0, .ref (B + (N + 0)), .int 0, .ref (B + (N + 1)), .ref (B + (N + 2)), .ref (B + (N + 3)), .int 0, .int 0, .int 1, .int 0, .int 24, .int 999, .ref (B + (N + 4)), .ref (B + (N + 5)), .ref (B + (N + 6)), .ref (B + (N + 7)), .int 1, .int 1, .int 1, .ref (B + (N + 8)), .ref (B + (N + 9)), .null, .null, .null, .int 0, .int 0, .int 0, .int 0, .null, .null, .null, .int 0, .int 0, .null, .null, .null, .null, .null, .null, .null, .int 0, .int 0, .int 0, .null, .null]) := ho
  refine lv_aload_n hx hb dX12_init_115 rfl (lv_at hl 0 rfl) ?_
  refine lv_iconst (v := 4) hx hb dX12_init_116 (by decide) ?_
  refine m_arr (N := N) (i := i) (k := 10) (j := 21) (N' := 4) hx hb hts hown hK hi hE hS hA ho hf (by decide) (by decide) rfl (by decide) (Nat.le_of_ble_eq_true rfl) (Nat.le_of_ble_eq_true rfl) (by decide) (Nat.le_of_ble_eq_true rfl) rfl wC_185 (Or.inr ⟨rfl, hin, rfl⟩) dX12_init_117 dX12_init_119 (fun g H locs hE hA ho hf hS => ?_)
  have ho : g i = .inr (12, [.int 0, .ref (B + (N + 0)), .int 0, .ref (B + (N + 1)), .ref (B + (N + 2)), .ref (B + (N + 3)), .int 0, .int 0, .int 1, .int 0, .int 24, .int 999, .ref (B + (N + 4)), .ref (B + (N + 5)), .ref (B + (N + 6)), .ref (B + (N + 7)), .int 1, .int 1, .int 1, .ref (B + (N + 8)), .ref (B + (N + 9)), .ref (B + (N + 10)), .null, .null, .int 0, .int 0, .int 0, .int 0, .null, .null, .null, .int 0, .int 0, .null, .null, .null, .null, .null, .null, .null, .int 0, .int 0, .int 0, .null, .null]) := ho
  refine lv_aload_n hx hb dX12_init_122 rfl (lv_at hl 0 rfl) ?_
  refine lv_iconst (v := 3) hx hb dX12_init_123 (by decide) ?_
  refine m_arr (N := N) (i := i) (k := 11) (j := 22) (N' := 3) hx hb hts hown hK hi hE hS hA ho hf (by decide) (by decide) rfl (by decide) (Nat.le_of_ble_eq_true rfl) (Nat.le_of_ble_eq_true rfl) (by decide) (Nat.le_of_ble_eq_true rfl) rfl wC_186 (Or.inr ⟨rfl, hin, rfl⟩) dX12_init_124 dX12_init_126 (fun g H locs hE hA ho hf hS => ?_)
  have ho : g i = .inr (12, [.int 0, .ref (B + (N + 0)), .int 0, .ref (B + (N + 1)), .ref (B + (N + 2)), .ref (B + (N + 3)), .int 0, .int 0, .int 1, .int 0, .int 24, .int 999, .ref (B + (N + 4)), .ref (B + (N + 5)), .ref (B + (N + 6)), .ref (B + (N + 7)), .int 1, .int 1, .int 1, .ref (B + (N + 8)), .ref (B + (N + 9)), .ref (B + (N + 10)), .ref (B + (N + 11)), .null, .int 0, .int 0, .int 0, .int 0, .null, .null, .null, .int 0, .int 0, .null, .null, .null, .null, .null, .null, .null, .int 0, .int 0, .int 0, .null, .null]) := ho
  refine lv_aload_n hx hb dX12_init_129 rfl (lv_at hl 0 rfl) ?_
  refine lv_iconst (v := 3) hx hb dX12_init_130 (by decide) ?_
  refine m_arr (N := N) (i := i) (k := 12) (j := 23) (N' := 3) hx hb hts hown hK hi hE hS hA ho hf (by decide) (by decide) rfl (by decide) (Nat.le_of_ble_eq_true rfl) (Nat.le_of_ble_eq_true rfl) (by decide) (Nat.le_of_ble_eq_true rfl) rfl wC_187 (Or.inr ⟨rfl, hin, rfl⟩) dX12_init_131 dX12_init_133 (fun g H locs hE hA ho hf hS => ?_)
  have ho : g i = .inr (12, [.int 0, .ref (B + (N + 0)), .int 0, .ref (B + (N + 1)), .ref (B + (N + 2)), .ref (B + (N + 3)), .int 0, .int 0, .int 1, .int 0, .int 24, .int 999, .ref (B + (N + 4)), .ref (B + (N + 5)), .ref (B + (N + 6)), .ref (B + (N + 7)), .int 1, .int 1, .int 1, .ref (B + (N + 8)), .ref (B + (N + 9)), .ref (B + (N + 10)), .ref (B + (N + 11)), .ref (B + (N + 12)), .int 0, .int 0, .int 0, .int 0, .null, .null, .null, .int 0, .int 0, .null, .null, .null, .null, .null, .null, .null, .int 0, .int 0, .int 0, .null, .null]) := ho
  refine lv_aload_n hx hb dX12_init_136 rfl (lv_at hl 0 rfl) ?_
  refine lv_iconst (v := 1) hx hb dX12_init_137 (by decide) ?_
  refine m_int (N := N) (i := i) (k := 13) (j := 26) hx hb hts hown hK hi hE hS hA ho hf (by decide) (Nat.le_of_ble_eq_true rfl) rfl wC_188 (Or.inl rfl) dX12_init_138 (fun g H locs hE hA ho hf hS => ?_)
  have ho : g i = .inr (12, [.int 0, .ref (B + (N + 0)), .int 0, .ref (B + (N + 1)), .ref (B + (N + 2)), .ref (B + (N + 3)), .int 0, .int 0, .int 1, .int 0, .int 24, .int 999, .ref (B + (N + 4)), .ref (B + (N + 5)), .ref (B + (N + 6)), .ref (B + (N + 7)), .int 1, .int 1, .int 1, .ref (B + (N + 8)), .ref (B + (N + 9)), .ref (B + (N + 10)), .ref (B + (N + 11)), .ref (B + (N + 12)), .int 0, .int 0, .int 1, .int 0, .null, .null, .null, .int 0, .int 0, .null, .null, .null, .null, .null, .null, .null, .int 0, .int 0, .int 0, .null, .null]) := ho
  refine lv_aload_n hx hb dX12_init_141 rfl (lv_at hl 0 rfl) ?_
  refine lv_ldc (v := 60000) hx hb hown (hts _ wC_189) dX12_init_142 ?_
  refine m_arr (N := N) (i := i) (k := 13) (j := 28) (N' := 60000) hx hb hts hown hK hi hE hS hA ho hf (by decide) (by decide) rfl (by decide) (Nat.le_of_ble_eq_true rfl) (Nat.le_of_ble_eq_true rfl) (by decide) (Nat.le_of_ble_eq_true rfl) rfl wC_190 (Or.inr ⟨rfl, hin, rfl⟩) dX12_init_144 dX12_init_146 (fun g H locs hE hA ho hf hS => ?_)
  have ho : g i = .inr (12, [.int 0, .ref (B + (N + 0)), .int 0, .ref (B + (N + 1)), .ref (B + (N + 2)), .ref (B + (N + 3)), .int 0, .int 0, .int 1, .int 0, .int 24, .int 999, .ref (B + (N + 4)), .ref (B + (N + 5)), .ref (B + (N + 6)), .ref (B + (N + 7)), .int 1, .int 1, .int 1, .ref (B + (N + 8)), .ref (B + (N + 9)), .ref (B + (N + 10)), .ref (B + (N + 11)), .ref (B + (N + 12)), .int 0, .int 0, .int 1, .int 0, .ref (B + (N + 13)), .null, .null, .int 0, .int 0, .null, .null, .null, .null, .null, .null, .null, .int 0, .int 0, .int 0, .null, .null]) := ho
  refine lv_aload_n hx hb dX12_init_149 rfl (lv_at hl 0 rfl) ?_
  refine lv_sipush (v := 200) hx hb dX12_init_150 (by decide) ?_
  refine m_arr (N := N) (i := i) (k := 14) (j := 29) (N' := 200) hx hb hts hown hK hi hE hS hA ho hf (by decide) (by decide) rfl (by decide) (Nat.le_of_ble_eq_true rfl) (Nat.le_of_ble_eq_true rfl) (by decide) (Nat.le_of_ble_eq_true rfl) rfl wC_191 (Or.inr ⟨rfl, hin, rfl⟩) dX12_init_153 dX12_init_155 (fun g H locs hE hA ho hf hS => ?_)
  have ho : g i = .inr (12, [.int 0, .ref (B + (N + 0)), .int 0, .ref (B + (N + 1)), .ref (B + (N + 2)), .ref (B + (N + 3)), .int 0, .int 0, .int 1, .int 0, .int 24, .int 999, .ref (B + (N + 4)), .ref (B + (N + 5)), .ref (B + (N + 6)), .ref (B + (N + 7)), .int 1, .int 1, .int 1, .ref (B + (N + 8)), .ref (B + (N + 9)), .ref (B + (N + 10)), .ref (B + (N + 11)), .ref (B + (N + 12)), .int 0, .int 0, .int 1, .int 0, .ref (B + (N + 13)), .ref (B + (N + 14)), .null, .int 0, .int 0, .null, .null, .null, .null, .null, .null, .null, .int 0, .int 0, .int 0, .null, .null]) := ho
  refine lv_aload_n hx hb dX12_init_158 rfl (lv_at hl 0 rfl) ?_
  refine lv_bipush (v := 100) hx hb dX12_init_159 (by decide) ?_
  refine m_arr (N := N) (i := i) (k := 15) (j := 30) (N' := 100) hx hb hts hown hK hi hE hS hA ho hf (by decide) (by decide) rfl (by decide) (Nat.le_of_ble_eq_true rfl) (Nat.le_of_ble_eq_true rfl) (by decide) (Nat.le_of_ble_eq_true rfl) rfl wC_192 (Or.inr ⟨rfl, hin, rfl⟩) dX12_init_161 dX12_init_163 (fun g H locs hE hA ho hf hS => ?_)
  have ho : g i = .inr (12, [.int 0, .ref (B + (N + 0)), .int 0, .ref (B + (N + 1)), .ref (B + (N + 2)), .ref (B + (N + 3)), .int 0, .int 0, .int 1, .int 0, .int 24, .int 999, .ref (B + (N + 4)), .ref (B + (N + 5)), .ref (B + (N + 6)), .ref (B + (N + 7)), .int 1, .int 1, .int 1, .ref (B + (N + 8)), .ref (B + (N + 9)), .ref (B + (N + 10)), .ref (B + (N + 11)), .ref (B + (N + 12)), .int 0, .int 0, .int 1, .int 0, .ref (B + (N + 13)), .ref (B + (N + 14)), .ref (B + (N + 15)), .int 0, .int 0, .null, .null, .null, .null, .null, .null, .null, .int 0, .int 0, .int 0, .null, .null]) := ho
  refine lv_aload_n hx hb dX12_init_166 rfl (lv_at hl 0 rfl) ?_
  refine lv_sipush (v := 600) hx hb dX12_init_167 (by decide) ?_
  refine m_arr (N := N) (i := i) (k := 16) (j := 33) (N' := 600) hx hb hts hown hK hi hE hS hA ho hf (by decide) (by decide) rfl (by decide) (Nat.le_of_ble_eq_true rfl) (Nat.le_of_ble_eq_true rfl) (by decide) (Nat.le_of_ble_eq_true rfl) rfl wC_193 (Or.inr ⟨rfl, hin, rfl⟩) dX12_init_170 dX12_init_172 (fun g H locs hE hA ho hf hS => ?_)
  have ho : g i = .inr (12, [.int 0, .ref (B + (N + 0)), .int 0, .ref (B + (N + 1)), .ref (B + (N + 2)), .ref (B + (N + 3)), .int 0, .int 0, .int 1, .int 0, .int 24, .int 999, .ref (B + (N + 4)), .ref (B + (N + 5)), .ref (B + (N + 6)), .ref (B + (N + 7)), .int 1, .int 1, .int 1, .ref (B + (N + 8)), .ref (B + (N + 9)), .ref (B + (N + 10)), .ref (B + (N + 11)), .ref (B + (N + 12)), .int 0, .int 0, .int 1, .int 0, .ref (B + (N + 13)), .ref (B + (N + 14)), .ref (B + (N + 15)), .int 0, .int 0, .ref (B + (N + 16)), .null, .null, .null, .null, .null, .null, .int 0, .int 0, .int 0, .null, .null]) := ho
  refine lv_aload_n hx hb dX12_init_175 rfl (lv_at hl 0 rfl) ?_
  refine lv_bipush (v := 24) hx hb dX12_init_176 (by decide) ?_
  refine m_arr (N := N) (i := i) (k := 17) (j := 34) (N' := 24) hx hb hts hown hK hi hE hS hA ho hf (by decide) (by decide) rfl (by decide) (Nat.le_of_ble_eq_true rfl) (Nat.le_of_ble_eq_true rfl) (by decide) (Nat.le_of_ble_eq_true rfl) rfl wC_194 (Or.inr ⟨rfl, hin, rfl⟩) dX12_init_178 dX12_init_180 (fun g H locs hE hA ho hf hS => ?_)
  have ho : g i = .inr (12, [.int 0, .ref (B + (N + 0)), .int 0, .ref (B + (N + 1)), .ref (B + (N + 2)), .ref (B + (N + 3)), .int 0, .int 0, .int 1, .int 0, .int 24, .int 999, .ref (B + (N + 4)), .ref (B + (N + 5)), .ref (B + (N + 6)), .ref (B + (N + 7)), .int 1, .int 1, .int 1, .ref (B + (N + 8)), .ref (B + (N + 9)), .ref (B + (N + 10)), .ref (B + (N + 11)), .ref (B + (N + 12)), .int 0, .int 0, .int 1, .int 0, .ref (B + (N + 13)), .ref (B + (N + 14)), .ref (B + (N + 15)), .int 0, .int 0, .ref (B + (N + 16)), .ref (B + (N + 17)), .null, .null, .null, .null, .null, .int 0, .int 0, .int 0, .null, .null]) := ho
  refine lv_aload_n hx hb dX12_init_183 rfl (lv_at hl 0 rfl) ?_
  refine lv_bipush (v := 24) hx hb dX12_init_184 (by decide) ?_
  refine m_arr (N := N) (i := i) (k := 18) (j := 35) (N' := 24) hx hb hts hown hK hi hE hS hA ho hf (by decide) (by decide) rfl (by decide) (Nat.le_of_ble_eq_true rfl) (Nat.le_of_ble_eq_true rfl) (by decide) (Nat.le_of_ble_eq_true rfl) rfl wC_195 (Or.inr ⟨rfl, hin, rfl⟩) dX12_init_186 dX12_init_188 (fun g H locs hE hA ho hf hS => ?_)
  have ho : g i = .inr (12, [.int 0, .ref (B + (N + 0)), .int 0, .ref (B + (N + 1)), .ref (B + (N + 2)), .ref (B + (N + 3)), .int 0, .int 0, .int 1, .int 0, .int 24, .int 999, .ref (B + (N + 4)), .ref (B + (N + 5)), .ref (B + (N + 6)), .ref (B + (N + 7)), .int 1, .int 1, .int 1, .ref (B + (N + 8)), .ref (B + (N + 9)), .ref (B + (N + 10)), .ref (B + (N + 11)), .ref (B + (N + 12)), .int 0, .int 0, .int 1, .int 0, .ref (B + (N + 13)), .ref (B + (N + 14)), .ref (B + (N + 15)), .int 0, .int 0, .ref (B + (N + 16)), .ref (B + (N + 17)), .ref (B + (N + 18)), .null, .null, .null, .null, .int 0, .int 0, .int 0, .null, .null]) := ho
  refine lv_aload_n hx hb dX12_init_191 rfl (lv_at hl 0 rfl) ?_
  refine lv_bipush (v := 24) hx hb dX12_init_192 (by decide) ?_
  refine m_arr (N := N) (i := i) (k := 19) (j := 36) (N' := 24) hx hb hts hown hK hi hE hS hA ho hf (by decide) (by decide) rfl (by decide) (Nat.le_of_ble_eq_true rfl) (Nat.le_of_ble_eq_true rfl) (by decide) (Nat.le_of_ble_eq_true rfl) rfl wC_196 (Or.inr ⟨rfl, hin, rfl⟩) dX12_init_194 dX12_init_196 (fun g H locs hE hA ho hf hS => ?_)
  have ho : g i = .inr (12, [.int 0, .ref (B + (N + 0)), .int 0, .ref (B + (N + 1)), .ref (B + (N + 2)), .ref (B + (N + 3)), .int 0, .int 0, .int 1, .int 0, .int 24, .int 999, .ref (B + (N + 4)), .ref (B + (N + 5)), .ref (B + (N + 6)), .ref (B + (N + 7)), .int 1, .int 1, .int 1, .ref (B + (N + 8)), .ref (B + (N + 9)), .ref (B + (N + 10)), .ref (B + (N + 11)), .ref (B + (N + 12)), .int 0, .int 0, .int 1, .int 0, .ref (B + (N + 13)), .ref (B + (N + 14)), .ref (B + (N + 15)), .int 0, .int 0, .ref (B + (N + 16)), .ref (B + (N + 17)), .ref (B + (N + 18)), .ref (B + (N + 19)), .null, .null, .null, .int 0, .int 0, .int 0, .null, .null]) := ho
  refine lv_aload_n hx hb dX12_init_199 rfl (lv_at hl 0 rfl) ?_
  refine lv_bipush (v := 24) hx hb dX12_init_200 (by decide) ?_
  refine m_arr (N := N) (i := i) (k := 20) (j := 37) (N' := 24) hx hb hts hown hK hi hE hS hA ho hf (by decide) (by decide) rfl (by decide) (Nat.le_of_ble_eq_true rfl) (Nat.le_of_ble_eq_true rfl) (by decide) (Nat.le_of_ble_eq_true rfl) rfl wC_197 (Or.inr ⟨rfl, hin, rfl⟩) dX12_init_202 dX12_init_204 (fun g H locs hE hA ho hf hS => ?_)
  have ho : g i = .inr (12, [.int 0, .ref (B + (N + 0)), .int 0, .ref (B + (N + 1)), .ref (B + (N + 2)), .ref (B + (N + 3)), .int 0, .int 0, .int 1, .int 0, .int 24, .int 999, .ref (B + (N + 4)), .ref (B + (N + 5)), .ref (B + (N + 6)), .ref (B + (N + 7)), .int 1, .int 1, .int 1, .ref (B + (N + 8)), .ref (B + (N + 9)), .ref (B + (N + 10)), .ref (B + (N + 11)), .ref (B + (N + 12)), .int 0, .int 0, .int 1, .int 0, .ref (B + (N + 13)), .ref (B + (N + 14)), .ref (B + (N + 15)), .int 0, .int 0, .ref (B + (N + 16)), .ref (B + (N + 17)), .ref (B + (N + 18)), .ref (B + (N + 19)), .ref (B + (N + 20)), .null, .null, .int 0, .int 0, .int 0, .null, .null]) := ho
  refine lv_aload_n hx hb dX12_init_207 rfl (lv_at hl 0 rfl) ?_
  refine lv_bipush (v := 24) hx hb dX12_init_208 (by decide) ?_
  refine m_arr (N := N) (i := i) (k := 21) (j := 38) (N' := 24) hx hb hts hown hK hi hE hS hA ho hf (by decide) (by decide) rfl (by decide) (Nat.le_of_ble_eq_true rfl) (Nat.le_of_ble_eq_true rfl) (by decide) (Nat.le_of_ble_eq_true rfl) rfl wC_198 (Or.inr ⟨rfl, hin, rfl⟩) dX12_init_210 dX12_init_212 (fun g H locs hE hA ho hf hS => ?_)
  have ho : g i = .inr (12, [.int 0, .ref (B + (N + 0)), .int 0, .ref (B + (N + 1)), .ref (B + (N + 2)), .ref (B + (N + 3)), .int 0, .int 0, .int 1, .int 0, .int 24, .int 999, .ref (B + (N + 4)), .ref (B + (N + 5)), .ref (B + (N + 6)), .ref (B + (N + 7)), .int 1, .int 1, .int 1, .ref (B + (N + 8)), .ref (B + (N + 9)), .ref (B + (N + 10)), .ref (B + (N + 11)), .ref (B + (N + 12)), .int 0, .int 0, .int 1, .int 0, .ref (B + (N + 13)), .ref (B + (N + 14)), .ref (B + (N + 15)), .int 0, .int 0, .ref (B + (N + 16)), .ref (B + (N + 17)), .ref (B + (N + 18)), .ref (B + (N + 19)), .ref (B + (N + 20)), .ref (B + (N + 21)), .null, .int 0, .int 0, .int 0, .null, .null]) := ho
  refine lv_aload_n hx hb dX12_init_215 rfl (lv_at hl 0 rfl) ?_
  refine lv_sipush (v := 2000) hx hb dX12_init_216 (by decide) ?_
  refine m_arr (N := N) (i := i) (k := 22) (j := 39) (N' := 2000) hx hb hts hown hK hi hE hS hA ho hf (by decide) (by decide) rfl (by decide) (Nat.le_of_ble_eq_true rfl) (Nat.le_of_ble_eq_true rfl) (by decide) (Nat.le_of_ble_eq_true rfl) rfl wC_199 (Or.inr ⟨rfl, hin, rfl⟩) dX12_init_219 dX12_init_221 (fun g H locs hE hA ho hf hS => ?_)
  have ho : g i = .inr (12, [.int 0, .ref (B + (N + 0)), .int 0, .ref (B + (N + 1)), .ref (B + (N + 2)), .ref (B + (N + 3)), .int 0, .int 0, .int 1, .int 0, .int 24, .int 999, .ref (B + (N + 4)), .ref (B + (N + 5)), .ref (B + (N + 6)), .ref (B + (N + 7)), .int 1, .int 1, .int 1, .ref (B + (N + 8)), .ref (B + (N + 9)), .ref (B + (N + 10)), .ref (B + (N + 11)), .ref (B + (N + 12)), .int 0, .int 0, .int 1, .int 0, .ref (B + (N + 13)), .ref (B + (N + 14)), .ref (B + (N + 15)), .int 0, .int 0, .ref (B + (N + 16)), .ref (B + (N + 17)), .ref (B + (N + 18)), .ref (B + (N + 19)), .ref (B + (N + 20)), .ref (B + (N + 21)), .ref (B + (N + 22)), .int 0, .int 0, .int 0, .null, .null]) := ho
  refine lv_aload_n hx hb dX12_init_224 rfl (lv_at hl 0 rfl) ?_
  refine lv_bipush (v := 7) hx hb dX12_init_225 (by decide) ?_
  refine m_arr (N := N) (i := i) (k := 23) (j := 43) (N' := 7) hx hb hts hown hK hi hE hS hA ho hf (by decide) (by decide) rfl (by decide) (Nat.le_of_ble_eq_true rfl) (Nat.le_of_ble_eq_true rfl) (by decide) (Nat.le_of_ble_eq_true rfl) rfl wC_200 (Or.inr ⟨rfl, hin, rfl⟩) dX12_init_227 dX12_init_229 (fun g H locs hE hA ho hf hS => ?_)
  have ho : g i = .inr (12, [.int 0, .ref (B + (N + 0)), .int 0, .ref (B + (N + 1)), .ref (B + (N + 2)), .ref (B + (N + 3)), .int 0, .int 0, .int 1, .int 0, .int 24, .int 999, .ref (B + (N + 4)), .ref (B + (N + 5)), .ref (B + (N + 6)), .ref (B + (N + 7)), .int 1, .int 1, .int 1, .ref (B + (N + 8)), .ref (B + (N + 9)), .ref (B + (N + 10)), .ref (B + (N + 11)), .ref (B + (N + 12)), .int 0, .int 0, .int 1, .int 0, .ref (B + (N + 13)), .ref (B + (N + 14)), .ref (B + (N + 15)), .int 0, .int 0, .ref (B + (N + 16)), .ref (B + (N + 17)), .ref (B + (N + 18)), .ref (B + (N + 19)), .ref (B + (N + 20)), .ref (B + (N + 21)), .ref (B + (N + 22)), .int 0, .int 0, .int 0, .ref (B + (N + 23)), .null]) := ho
  refine lv_aload_n hx hb dX12_init_232 rfl (lv_at hl 0 rfl) ?_
  refine lv_iconst (v := 3) hx hb dX12_init_233 (by decide) ?_
  refine m_arr (N := N) (i := i) (k := 24) (j := 44) (N' := 3) hx hb hts hown hK hi hE hS hA ho hf (by decide) (by decide) rfl (by decide) (Nat.le_of_ble_eq_true rfl) (Nat.le_of_ble_eq_true rfl) (by decide) (Nat.le_of_ble_eq_true rfl) rfl wC_201 (Or.inr ⟨rfl, hin, rfl⟩) dX12_init_234 dX12_init_236 (fun g H locs hE hA ho hf hS => ?_)
  have ho : g i = .inr (12, [.int 0, .ref (B + (N + 0)), .int 0, .ref (B + (N + 1)), .ref (B + (N + 2)), .ref (B + (N + 3)), .int 0, .int 0, .int 1, .int 0, .int 24, .int 999, .ref (B + (N + 4)), .ref (B + (N + 5)), .ref (B + (N + 6)), .ref (B + (N + 7)), .int 1, .int 1, .int 1, .ref (B + (N + 8)), .ref (B + (N + 9)), .ref (B + (N + 10)), .ref (B + (N + 11)), .ref (B + (N + 12)), .int 0, .int 0, .int 1, .int 0, .ref (B + (N + 13)), .ref (B + (N + 14)), .ref (B + (N + 15)), .int 0, .int 0, .ref (B + (N + 16)), .ref (B + (N + 17)), .ref (B + (N + 18)), .ref (B + (N + 19)), .ref (B + (N + 20)), .ref (B + (N + 21)), .ref (B + (N + 22)), .int 0, .int 0, .int 0, .ref (B + (N + 23)), .ref (B + (N + 24))]) := ho
  have hE : EH D B (N + 25) g _ := hE
  refine lv_aload_n hx hb dX12_init_239 rfl (lv_at hl 0 rfl) ?_
  refine eh_get (b := 12) (i := i) (k := 12) (fs := [.int 0, .ref (B + (N + 0)), .int 0, .ref (B + (N + 1)), .ref (B + (N + 2)), .ref (B + (N + 3)), .int 0, .int 0, .int 1, .int 0, .int 24, .int 999, .ref (B + (N + 4)), .ref (B + (N + 5)), .ref (B + (N + 6)), .ref (B + (N + 7)), .int 1, .int 1, .int 1, .ref (B + (N + 8)), .ref (B + (N + 9)), .ref (B + (N + 10)), .ref (B + (N + 11)), .ref (B + (N + 12)), .int 0, .int 0, .int 1, .int 0, .ref (B + (N + 13)), .ref (B + (N + 14)), .ref (B + (N + 15)), .int 0, .int 0, .ref (B + (N + 16)), .ref (B + (N + 17)), .ref (B + (N + 18)), .ref (B + (N + 19)), .ref (B + (N + 20)), .ref (B + (N + 21)), .ref (B + (N + 22)), .int 0, .int 0, .int 0, .ref (B + (N + 23)), .ref (B + (N + 24))]) (v := .ref (B + (N + 4))) hx hb hts hown hK hE (by decide) (by omega) ho (by decide) wC_176 rfl dX12_init_240 ?_
  refine lv_iconst (v := 0) hx hb dX12_init_243 (by decide) ?_
  refine lv_iconst (v := 1) hx hb dX12_init_244 (by decide) ?_
  refine eh_iast2 (N := N + 25) (i := N + 4) (j := 0) (x := 1) (jn := 0) (n := 49) (f := fun _ => 0) hx hb hK hE hS (by omega) (hA 4 (by decide)) (by decide) (by decide) (by decide) dX12_init_245 (fun H locs hE hS => ?_)
  refine lv_aload_n hx hb dX12_init_246 rfl (lv_at hl 0 rfl) ?_
  refine eh_get (b := 12) (i := i) (k := 14) (fs := [.int 0, .ref (B + (N + 0)), .int 0, .ref (B + (N + 1)), .ref (B + (N + 2)), .ref (B + (N + 3)), .int 0, .int 0, .int 1, .int 0, .int 24, .int 999, .ref (B + (N + 4)), .ref (B + (N + 5)), .ref (B + (N + 6)), .ref (B + (N + 7)), .int 1, .int 1, .int 1, .ref (B + (N + 8)), .ref (B + (N + 9)), .ref (B + (N + 10)), .ref (B + (N + 11)), .ref (B + (N + 12)), .int 0, .int 0, .int 1, .int 0, .ref (B + (N + 13)), .ref (B + (N + 14)), .ref (B + (N + 15)), .int 0, .int 0, .ref (B + (N + 16)), .ref (B + (N + 17)), .ref (B + (N + 18)), .ref (B + (N + 19)), .ref (B + (N + 20)), .ref (B + (N + 21)), .ref (B + (N + 22)), .int 0, .int 0, .int 0, .ref (B + (N + 23)), .ref (B + (N + 24))]) (v := .ref (B + (N + 6))) hx hb hts hown hK hE (by decide) (by omega) ((gup_ne (by omega)).trans ho) (by decide) wC_178 rfl dX12_init_247 ?_
  refine lv_iconst (v := 0) hx hb dX12_init_250 (by decide) ?_
  refine lv_iconst (v := 1) hx hb dX12_init_251 (by decide) ?_
  refine eh_iast2 (N := N + 25) (i := N + 6) (j := 0) (x := 1) (jn := 0) (n := 4) (f := fun _ => 0) hx hb hK hE hS (by omega) ((gup_ne (by omega)).trans (hA 6 (by decide))) (by decide) (by decide) (by decide) dX12_init_252 (fun H locs hE hS => ?_)
  have hE : EH D B (N + 25) (gup (gup g (N + 4) (.inl (cA 1, (49, .inl (upd (fun _ => 0) 0 1))))) (N + 6) (.inl (cA 1, (4, .inl (upd (fun _ => 0) 0 1))))) _ := hE
  refine lv_iconst (v := Int32.ofInt ((0 : Nat) : Int)) hx hb dX12_init_253 (by decide) ?_
  refine lv_istore_n (lv' := [(1, .int (Int32.ofInt ((0 : Nat) : Int))), (0, .ref (B + i))]) hx hb dX12_init_254 rfl hl (by decide) rfl (fun ls hl => ?_)
  sorry
