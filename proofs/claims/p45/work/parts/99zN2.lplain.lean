/-! Steps of the law's machine that touch neither heap nor calls (the rows of the class's machine, turned). -/
/-- classes that don't cast: what the law's catches pass -/
def ncD : List (Nat × Nat × String) := [(2, 114, "java/lang/IndexOutOfBoundsException"), (3, 114, "java/lang/IndexOutOfBoundsException"), (3, 117, "java/lang/IllegalArgumentException"), (5, 114, "java/lang/IndexOutOfBoundsException"), (5, 117, "java/lang/IllegalArgumentException"), (5, 120, "java/lang/IllegalStateException")]
def wNcL (U : State) : Prop := ∀ q ∈ ncD, va_Nc (exN q.1) q.2.2 U
theorem wNcL.moved {u U : State} (h : u.vm.Alike U.vm) (hN : wNcL u) : wNcL U := fun q hq => va_Nc.moved h (hN q hq)
/-- the private methods that a text builder calls -/
def prvA (U : State) : Prop := va_Nw (.privateMethod yJ5_ensureCapacityInternal_d00df) U ∧ va_Nw (.privateMethod yJ5_inflateIfNeededFor_a7421) U ∧ va_Nw (.privateMethod yJ5_putStringAt_47b60) U
theorem va_Nw.movedP {x : MethodName} {s U : State} (hal : s.vm.Alike U.vm) (hZ : va_Nw (.privateMethod x) s) : va_Nw (.privateMethod x) U := va_tabs rfl (rfl : (s.setVm U.vm).vm = U.vm) (by rw [Cond.privateMethod_setVm hal]; exact hZ)
theorem prvA.moved {s U : State} (hal : s.vm.Alike U.vm) (h : prvA s) : prvA U := ⟨h.1.movedP hal, h.2.1.movedP hal, h.2.2.movedP hal⟩
/-- Integer's two rows of digits -/
def digA (A : Nat → Prop) (U : State) : Prop := (∃ t, va_Z "java/lang/Integer" "DigitOnes" "[B" (.ref t) A U U.heap ∧ va_T .byte t 100 (fun j => .int (Int32.ofInt (48 + ((j % 10 : Nat) : Int)))) A U U.heap) ∧ (∃ t, va_Z "java/lang/Integer" "DigitTens" "[B" (.ref t) A U U.heap ∧ va_T .byte t 100 (fun j => .int (Int32.ofInt (48 + ((j / 10 : Nat) : Int)))) A U U.heap)
theorem digA.mv {A : Nat → Prop} {s U : State} (h : digA A s) (hal : s.vm.Alike U.vm) (hq : ∀ q : Nat, q < s.heap.size → ¬ A q → U.heap[q]? = s.heap[q]?) : digA A U := by
  obtain ⟨⟨t, g1, g2⟩, t', g3, g4⟩ := h
  exact ⟨⟨t, (g1.moved hal).kept hq, (g2.moved hal).kept hq⟩, t', (g3.moved hal).kept hq, (g4.moved hal).kept hq⟩
theorem digA.narrow {A A' : Nat → Prop} {U : State} (h : digA A U) (hq : ∀ q, A' q → A q) : digA A' U := by
  obtain ⟨⟨t, g1, g2⟩, t', g3, g4⟩ := h
  exact ⟨⟨t, g1.narrow hq, g2.narrow hq⟩, t', g3.narrow hq, g4.narrow hq⟩
/-- the two texts that numbers are put to -/
def cstA (A : Nat → Prop) (U : State) : Prop := (∃ a, vk_R RL 262 "" a U ∧ strAt [] a A U) ∧ (∃ a, vk_R RL 275 "0" a U ∧ strAt [48] a A U)
theorem cstA.warm {A : Nat → Prop} {s U : State} (hW : s.WarmedH U.vm) (hq : ∀ q : Nat, q < s.heap.size → ¬ A q → U.heap[q]? = s.heap[q]?) (h : cstA A s) : cstA A U := by
  obtain ⟨⟨a, h1, h2⟩, a', h3, h4⟩ := h
  exact ⟨⟨a, h1.warm hW, h2.mv hW.alike hq⟩, a', h3.warm hW, h4.mv hW.alike hq⟩
theorem cstA.narrow {A A' : Nat → Prop} {U : State} (h : cstA A U) (hq : ∀ q, A' q → A q) : cstA A' U := by
  obtain ⟨⟨a, h1, g1, g2, t, g3, g4⟩, a', h3, k1, k2, t', k3, k4⟩ := h
  exact ⟨⟨a, h1, g1.narrow hq, g2.narrow hq, t, g3.narrow hq, g4.narrow hq⟩, a', h3, k1.narrow hq, k2.narrow hq, t', k3.narrow hq, k4.narrow hq⟩
/-- what nobody writes, for the law -/
def wFixL (sg sgL : Nat → Nat) (cA cW : Nat → ClassId) (D : va_G) (A : Nat → Prop) (J : Nat → Prop) (U : State) : Prop :=
  wFix sg cA D A U ∧ va_K D gCl (tysW cW) U ∧ (∀ j k : Nat, 1 ≤ j → j ≤ 5 → Cond.stringRef RL k (wTx j) ∈ lw_tbl → vk_R RL k (wTx j) (sgL j) U) ∧ (∀ j, 1 ≤ j → j ≤ 5 → J j) ∧ (∀ j, J j → strAt (txL j) (sgL j) A U ∧ okW (txL j)) ∧ (AOA .int U ∧ AOA .boolean U ∧ AOA .long U ∧ AOA (.array .long) U) ∧ wNcL U ∧ prvA U ∧ digA A U ∧ cstA A U
theorem wFixL.warm {sg sgL : Nat → Nat} {cA cW : Nat → ClassId} {D : va_G} {A J : Nat → Prop} {s U : State} (hW : s.WarmedH U.vm) (hq : ∀ q : Nat, q < s.heap.size → ¬ A q → U.heap[q]? = s.heap[q]?) (h : wFixL sg sgL cA cW D A J s) : wFixL sg sgL cA cW D A J U := by
  obtain ⟨h1, h2, h3, h4, h5, h6, h7, h8, h9, h10⟩ := h
  have ha := hW.alike
  exact ⟨h1.warm hW hq, h2.moved ha, fun j k a b m => (h3 j k a b m).warm hW, h4, fun j hj => ⟨(h5 j hj).1.mv ha hq, (h5 j hj).2⟩, ⟨h6.1.moved ha, h6.2.1.moved ha, h6.2.2.1.moved ha, h6.2.2.2.moved ha⟩, h7.moved ha, h8.moved ha, h9.mv ha hq, h10.warm hW hq⟩
def QcL (D : va_G) (cA cW : Nat → ClassId) (A : Nat → Prop) (ρ : Nat → Nat) (B : Nat) (rk : Nat) (Q : LQ) : Array Value → State → Outcome → State → Prop := match rk with
  | 2 => va_Ql (fun r (u : Mem × LMem) => ∃ x, r = Int64.ofInt x ∧ Q x u.1 u.2) (fun u t => wWL D cA cW A ρ B u.1 u.2 t.heap) A
  | 4 => va_Qq (fun r (u : Mem × LMem) => ∃ n : Nat, r = rfB B (n : Int) ∧ Q (n : Int) u.1 u.2) (fun u t => wWL D cA cW A ρ B u.1 u.2 t.heap) A
  | _ => va_Qi (fun r (u : Mem × LMem) => ∃ x, r = Int32.ofInt x ∧ Q x u.1 u.2) (fun u t => wWL D cA cW A ρ B u.1 u.2 t.heap) A
def rmL (d km : Nat) : Room := { frames := d + 40, cells := km, slots := 52 * km, locals := 60 * d + 1600 }
def HypL (p : Program) (l : Launch) (R : Room) (s : State) (m : MethodId) (args : Array Value) (meth : Method) (c : Code) (sg sgL : Nat → Nat) (cA cW : Nat → ClassId) (D : va_G) (A J : Nat → Prop) (B : Nat) (bytes : ByteArray) (maxL km : Nat) (ret : Option FieldType) (dp : Nat) : Prop :=
  p.tables.exec = Jvm.exec ∧ c.code = bytes ∧ meth.sig.returnType = ret ∧ c.maxLocals = maxL ∧ s.vm.findClass RL = some m.cls ∧ meth.locks = false ∧ (∀ w ∈ LW, w.before args s = true) ∧ wFixL sg sgL cA cW D A J s ∧ (∀ q : Nat, s.heap.size ≤ q → A q) ∧ B ≤ s.heap.size ∧ l.stackTraces = false ∧ R.cells = km ∧ R.slots = 52 * km ∧ (maxL ≤ 40 ∧ dp + 41 ≤ R.frames ∧ 60 * dp + 1660 ≤ R.locals)
def PWL (p : Program) (l : Launch) (e : Env) (R : Room) (s : State) (m : MethodId) (args : Array Value) (below : List Frame) (meth : Method) (c : Code) (ρ sgL : Nat → Nat) (cA cW : Nat → ClassId) (D : va_G) (A J : Nat → Prop) (B maxL km : Nat) (pcs : List Nat) (rk : Nat) (Q : LQ) : LKt := fun ip kc lo st M C =>
  kc ≤ km → txOk J lo → ∀ (H : Heap) (locs : List Loc) (ls : Array Slot), LG (lpv B (ρ 149) sgL) ls maxL lo → wWL D cA cW A ρ B M C H → va_S A s.heap H locs →
    W p l e R s m args below meth c H locs kc (52 * kc) (MQ below (QcL D cA cW A ρ B rk Q) args s km (52 * km) A) (F0 m (pcN pcs ip) ls (st.map (lpv B (ρ 149) sgL)))
theorem z64_tdiv {x y : Int} (hx : -9223372036854775808 < x ∧ x < 9223372036854775808) (hy : R64 y ∧ ¬ y = 0) : Int64.ofInt x / Int64.ofInt y = Int64.ofInt (x.tdiv y) := by
  have hx1 := hx.1
  have hx2 := hx.2
  have h2 : (x.tdiv y).natAbs ≤ x.natAbs := Int.natAbs_tdiv_le_natAbs x y
  have h3 : R64 (x.tdiv y) := ⟨by omega, by omega⟩
  rw [← Int64.toInt_inj, Int64.toInt_div, zi64 ⟨by omega, hx.2⟩, zi64 hy.1, zi64 h3]
  exact Int.bmod_eq_of_le (by have := h3.1; omega) (by have := h3.2; omega)
theorem z64_tmod {x y : Int} (hx : -9223372036854775808 < x ∧ x < 9223372036854775808) (hy : R64 y ∧ ¬ y = 0) : Int64.ofInt x - Int64.ofInt x / Int64.ofInt y * Int64.ofInt y = Int64.ofInt (x.tmod y) := by
  rw [z64_tdiv hx hy, ← Int64.ofInt_mul, ← Int64.ofInt_sub]
  congr 1
  have := Int.tmod_add_mul_tdiv x y
  have h2 : x.tdiv y * y = y * x.tdiv y := Int.mul_comm _ _
  omega
theorem z64_ne {y : Int} (hy : R64 y ∧ ¬ y = 0) : ¬ Int64.ofInt y = 0 := fun h => hy.2 ((z64_eq (x := y) (y := 0) hy.1 ⟨by decide, by decide⟩).mp h)
theorem gRn_of {o : Option (Option PV)} {f : Sum Nat Nat → Prop} (h : gRn o f) : ∃ x, o = some (some (.inr (.inr x))) ∧ (∀ k, (.inr (.inr x) : PV) ≠ .inr (.inr (.inr (k + 1)))) ∧ f x := by
  unfold gRn at h; split at h
  · exact ⟨_, rfl, (fun k q => by cases q), h⟩
  · exact ⟨_, rfl, (fun k q => by cases q), h⟩
  · exact h.elim
theorem pRn_of {st : PS} {f : Sum Nat Nat → PS → Prop} (h : pRn st f) : ∃ x r, st = .inr (.inr x) :: r ∧ (∀ k, (.inr (.inr x) : PV) ≠ .inr (.inr (.inr (k + 1)))) ∧ f x r := by
  unfold pRn at h; split at h
  · exact ⟨_, _, rfl, (fun k q => by cases q), h⟩
  · exact ⟨_, _, rfl, (fun k q => by cases q), h⟩
  · exact h.elim
theorem gX_of {o : Option (Option PV)} {f : Nat → Prop} (h : gX o f) : ∃ k, o = some (some (.inr (.inr (.inr (k + 1))))) ∧ f (k + 1) := by
  unfold gX at h; split at h
  · exact ⟨_, rfl, h⟩
  · exact h.elim
theorem pC_of {st : PS} {f : Nat → PS → Prop} (h : pC st f) : ∃ q r, st = .inr (.inr (.inl (q + 1))) :: r ∧ f q r := by
  unfold pC at h; split at h
  · obtain ⟨q, rfl, h⟩ := cellAt_get h
    exact ⟨_, _, rfl, h⟩
  · exact h.elim
theorem hAr_of {as : List PV} {f : List PV → Prop} (h : hAr as f) : ∃ r, as = .inr (.inr (.inr 0)) :: r ∧ f r := by
  unfold hAr at h; split at h
  · exact ⟨_, rfl, h⟩
  · exact h.elim
theorem isH_of {st : PS} {p : Prop} (h : isH st p) : st = [.inr (.inr (.inr 0))] ∧ p := by
  unfold isH at h; split at h
  · exact ⟨rfl, h⟩
  · exact h.elim
section StepsL
variable {p : Program} {l : Launch} {e : Env} {R : Room} {s : State} {m : MethodId} {args : Array Value} {below : List Frame} {meth : Method} {c : Code}
variable {ρ sg sgL : Nat → Nat} {cA cW : Nat → ClassId} {D : va_G} {A J : Nat → Prop} {B : Nat} {bytes : ByteArray} {maxL km : Nat} {ret : Option FieldType} {pcs : List Nat} {rk : Nat} {Q : LQ}
variable {wl : List Cond} {mac : MacS} {cal : LCal} {cc : Cal} {ip kc : Nat} {lo : PL} {st : PS} {M : Mem} {C : LMem} {a b c0 d : Nat} {k : Int} {ts : List Nat} {ps : List Nat} {dp : Nat}
/-- a reference by its code, on the machine's stack -/
theorem lrf_cases (n : Nat) : (n = 0 ∧ lpv B (ρ 149) sgL (.inr (.inr (.inl n))) = .null) ∨ (∃ q, n = q + 1 ∧ lpv B (ρ 149) sgL (.inr (.inr (.inl n))) = .ref (B + q)) := by
  cases n with
  | zero => exact Or.inl ⟨rfl, rfl⟩
  | succ q => exact Or.inr ⟨q, rfl, rfl⟩
theorem lref_cases {x : Sum Nat Nat} (hx : ∀ k, (.inr (.inr x) : PV) ≠ .inr (.inr (.inr (k + 1)))) : lpv B (ρ 149) sgL (.inr (.inr x)) = .null ∨ ∃ q, lpv B (ρ 149) sgL (.inr (.inr x)) = .ref q := by
  rcases x with (_ | n) | (_ | n)
  · exact Or.inl rfl
  · exact Or.inr ⟨_, rfl⟩
  · exact Or.inr ⟨_, rfl⟩
  · exact absurd rfl (hx n)
theorem w_plainL (hX : HypL p l R s m args meth c sg sgL cA cW D A J B bytes maxL km ret dp) (hwl : ∀ w ∈ wl, w ∈ lw_tbl) {i : Instr}
    (hi : match i with
      | .iconst _ | .bipush _ | .sipush _ | .lconst _ | .iload_n _ | .iload _ | .lload_n _ | .lload _ | .istore_n _ | .istore _ | .lstore_n _ | .lstore _ | .iinc _ _ | .iadd | .isub | .imul | .irem | .ishl | .ishr | .iushr | .iand | .ior | .ixor | .ladd | .lsub | .lmul | .lneg | .lshl | .lor | .i2l | .lcmp | .if_icmp _ _ | .ifCond _ _ | .goto _ | .dup | .dup2 | .pop | .ldiv | .lrem | .aload _ | .astore_n _ | .astore _ => True
      | _ => False)
    (hc : chkI infs wl RL bytes maxL ret pcs ip ps (i, (a, b, c0, d), k, ts) = true)
    (hs : stepL mac cal cc rk km Q (PWL p l e R s m args below meth c ρ sgL cA cW D A J B maxL km pcs rk Q) (i, (a, b, c0, d), k, ts) ip kc lo st M C) : PWL p l e R s m args below meth c ρ sgL cA cW D A J B maxL km pcs rk Q ip kc lo st M C := by
  obtain ⟨hx, hb, hr, hml, hown, hlocks, hts, hfix, hsz, hBs, htr, hR1, hR2, hm40⟩ := hX
  intro hkm hJ H locs ls hl hw hS
  have hcv : ∀ u, (lpv B (ρ 149) sgL u).category = 2 → isLg u = true := fun u => lpv_cat2
  cases i <;> try exact hi.elim
  all_goals clear hi
  all_goals simp only [stepL] at hs
  all_goals simp only [chkI, dN, dE, jT, Bool.and_eq_true, decide_eq_true_eq] at hc
  case iconst n =>
    obtain ⟨⟨h1, h2⟩, rfl⟩ := hc
    refine lv_iconst hx hb h1 rfl ?_
    rw [← h2]
    exact hs hkm hJ H locs ls hl hw hS
  case bipush n =>
    obtain ⟨⟨h1, h2⟩, h3⟩ := hc
    refine lv_bipush hx hb h1 h3 ?_
    rw [← h2]
    exact hs hkm hJ H locs ls hl hw hS
  case sipush n =>
    obtain ⟨⟨h1, h2⟩, h3⟩ := hc
    refine lv_sipush hx hb h1 h3 ?_
    rw [← h2]
    exact hs hkm hJ H locs ls hl hw hS
  case lconst n =>
    obtain ⟨⟨h1, h2⟩, h3⟩ := hc
    refine lv_lconst hx hb h1 (v := Int64.ofInt k) (by rw [← h3]; exact (Int64.ofInt_eq_ofNat).symm) ?_
    rw [← h2]
    exact hs hkm hJ H locs ls hl hw hS
  case iload_n n =>
    obtain ⟨⟨h1, h2⟩, h3⟩ := hc
    obtain ⟨x, hg, hs11⟩ := gI_of hs
    refine lv_iload_n hx hb h1 h3 (hl.at' hg) ?_
    rw [← h2]
    exact hs11 hkm hJ H locs ls hl hw hS
  case iload n =>
    obtain ⟨⟨h1, h2⟩, h3⟩ := hc
    obtain ⟨x, hg, hs11⟩ := gI_of hs
    subst h3
    refine lv_iload hx hb h1 (hl.at' hg) ?_
    rw [← h2]
    exact hs11 hkm hJ H locs ls hl hw hS
  case lload_n n =>
    obtain ⟨⟨h1, h2⟩, h3⟩ := hc
    obtain ⟨x, hg, hs11⟩ := gL_of hs
    refine lv_lload_n hx hb h1 h3 (hl.at' hg) ?_
    rw [← h2]
    exact hs11 hkm hJ H locs ls hl hw hS
  case lload n =>
    obtain ⟨⟨h1, h2⟩, h3⟩ := hc
    obtain ⟨x, hg, hs11⟩ := gL_of hs
    subst h3
    refine lv_lload hx hb h1 (hl.at' hg) ?_
    rw [← h2]
    exact hs11 hkm hJ H locs ls hl hw hS
  case istore_n n =>
    obtain ⟨⟨h1, h2⟩, h3, h4⟩ := hc
    obtain ⟨x, r, rfl, hs11⟩ := pI_of hs
    refine lv_istore_n hx hb h1 h3 hl h4 rfl fun ls' hl' => ?_
    rw [← h2]
    exact hs11 hkm (hJ.st1 (fun k q => by cases q)) H locs ls' (LG.st1 hcv (v := .inl x) hl') hw hS
  case istore n =>
    obtain ⟨⟨h1, h2⟩, h3, h4⟩ := hc
    obtain ⟨x, r, rfl, hs11⟩ := pI_of hs
    subst h3
    refine lv_istore hx hb h1 hl h4 rfl fun ls' hl' => ?_
    rw [← h2]
    exact hs11 hkm (hJ.st1 (fun k q => by cases q)) H locs ls' (LG.st1 hcv (v := .inl x) hl') hw hS
  case lstore_n n =>
    obtain ⟨⟨h1, h2⟩, h3, h4⟩ := hc
    obtain ⟨x, r, rfl, hs11⟩ := pL_of hs
    refine lv_lstore_n hx hb h1 h3 hl h4 rfl fun ls' hl' => ?_
    rw [← h2]
    exact hs11 hkm (hJ.st2 (fun k q => by cases q)) H locs ls' (LG.st2 hcv (v := .inr (.inl x)) hl') hw hS
  case lstore n =>
    obtain ⟨⟨h1, h2⟩, h3, h4⟩ := hc
    obtain ⟨x, r, rfl, hs11⟩ := pL_of hs
    subst h3
    refine lv_lstore hx hb h1 hl h4 rfl fun ls' hl' => ?_
    rw [← h2]
    exact hs11 hkm (hJ.st2 (fun k q => by cases q)) H locs ls' (LG.st2 hcv (v := .inr (.inl x)) hl') hw hS
  case iinc n m2 =>
    obtain ⟨⟨h1, h2⟩, h3, h4, h5⟩ := hc
    obtain ⟨x, hg, hs11⟩ := gI_of hs
    subst h3; subst h4
    obtain ⟨q, hq⟩ := List.getElem?_of_mem ((mem_lsg lo 0).mpr ⟨n, .inl x, (Nat.zero_add n).symm, hg, rfl⟩)
    refine lv_iinc hx hb h1 hl hq (Int32.ofInt_add x m2).symm h5 rfl fun ls' hl' => ?_
    rw [← h2]
    exact hs11 hkm (hJ.st1 (fun k q => by cases q)) H locs ls' (LG.st1 hcv (v := .inl (x + m2)) hl') hw hS
  case iadd =>
    obtain ⟨h1, h2⟩ := hc
    obtain ⟨y, r, rfl, hs11⟩ := pI_of hs
    obtain ⟨x, r, rfl, hs12⟩ := pI_of hs11
    refine lv_iadd hx hb h1 ?_
    rw [← Int32.ofInt_add, ← h2]
    exact hs12 hkm hJ H locs ls hl hw hS
  case isub =>
    obtain ⟨h1, h2⟩ := hc
    obtain ⟨y, r, rfl, hs11⟩ := pI_of hs
    obtain ⟨x, r, rfl, hs12⟩ := pI_of hs11
    refine lv_isub hx hb h1 ?_
    rw [← Int32.ofInt_sub, ← h2]
    exact hs12 hkm hJ H locs ls hl hw hS
  case imul =>
    obtain ⟨h1, h2⟩ := hc
    obtain ⟨y, r, rfl, hs11⟩ := pI_of hs
    obtain ⟨x, r, rfl, hs12⟩ := pI_of hs11
    refine lv_imul hx hb h1 ?_
    rw [← Int32.ofInt_mul, ← h2]
    exact hs12 hkm hJ H locs ls hl hw hS
  case irem =>
    obtain ⟨h1, h2⟩ := hc
    obtain ⟨y, r, rfl, hs11⟩ := pI_of hs
    obtain ⟨x, r, rfl, hgx, hgy, hs12⟩ := pI_of hs11
    refine lv_irem hx hb h1 (z32_ne0 hgy) ?_
    rw [z32_mod hgx hgy, ← h2]
    exact hs12 hkm hJ H locs ls hl hw hS
  case ishl =>
    obtain ⟨h1, h2⟩ := hc
    obtain ⟨y, r, rfl, hs11⟩ := pI_of hs
    obtain ⟨x, r, rfl, hgy, hs12⟩ := pI_of hs11
    refine lv_ishl hx hb h1 ?_
    rw [z32_shl hgy, ← h2]
    exact hs12 hkm hJ H locs ls hl hw hS
  case ishr =>
    obtain ⟨h1, h2⟩ := hc
    obtain ⟨y, r, rfl, hs11⟩ := pI_of hs
    obtain ⟨x, r, rfl, hgx, hgy, hs12⟩ := pI_of hs11
    refine lv_ishr hx hb h1 ?_
    rw [z32_shr hgx hgy, ← h2]
    exact hs12 hkm hJ H locs ls hl hw hS
  case iushr =>
    obtain ⟨h1, h2⟩ := hc
    obtain ⟨y, r, rfl, hs11⟩ := pI_of hs
    obtain ⟨x, r, rfl, hgy, hs12⟩ := pI_of hs11
    refine lv_iushr hx hb h1 (z32_ushr hgy) ?_
    rw [← h2]
    exact hs12 hkm hJ H locs ls hl hw hS
  case iand =>
    obtain ⟨h1, h2⟩ := hc
    obtain ⟨y, r, rfl, hs11⟩ := pI_of hs
    obtain ⟨x, r, rfl, hs12⟩ := pI_of hs11
    refine lv_iand hx hb h1 ?_
    rw [z32_and, ← h2]
    exact hs12 hkm hJ H locs ls hl hw hS
  case ior =>
    obtain ⟨h1, h2⟩ := hc
    obtain ⟨y, r, rfl, hs11⟩ := pI_of hs
    obtain ⟨x, r, rfl, hs12⟩ := pI_of hs11
    refine lv_ior hx hb h1 ?_
    rw [z32_or, ← h2]
    exact hs12 hkm hJ H locs ls hl hw hS
  case ixor =>
    obtain ⟨h1, h2⟩ := hc
    obtain ⟨y, r, rfl, hs11⟩ := pI_of hs
    obtain ⟨x, r, rfl, hs12⟩ := pI_of hs11
    refine lv_ixor hx hb h1 ?_
    rw [z32_xor, ← h2]
    exact hs12 hkm hJ H locs ls hl hw hS
  case ladd =>
    obtain ⟨h1, h2⟩ := hc
    obtain ⟨y, r, rfl, hs11⟩ := pL_of hs
    obtain ⟨x, r, rfl, hs12⟩ := pL_of hs11
    refine lv_ladd hx hb h1 ?_
    rw [← Int64.ofInt_add, ← h2]
    exact hs12 hkm hJ H locs ls hl hw hS
  case lsub =>
    obtain ⟨h1, h2⟩ := hc
    obtain ⟨y, r, rfl, hs11⟩ := pL_of hs
    obtain ⟨x, r, rfl, hs12⟩ := pL_of hs11
    refine lv_lsub hx hb h1 ?_
    rw [← Int64.ofInt_sub, ← h2]
    exact hs12 hkm hJ H locs ls hl hw hS
  case lmul =>
    obtain ⟨h1, h2⟩ := hc
    obtain ⟨y, r, rfl, hs11⟩ := pL_of hs
    obtain ⟨x, r, rfl, hs12⟩ := pL_of hs11
    refine lv_lmul hx hb h1 ?_
    rw [← Int64.ofInt_mul, ← h2]
    exact hs12 hkm hJ H locs ls hl hw hS
  case lneg =>
    obtain ⟨h1, h2⟩ := hc
    obtain ⟨x, r, rfl, hs11⟩ := pL_of hs
    refine lv_lneg hx hb h1 ?_
    rw [← Int64.ofInt_neg, ← h2]
    exact hs11 hkm hJ H locs ls hl hw hS
  case lshl =>
    obtain ⟨h1, h2⟩ := hc
    obtain ⟨y, r, rfl, hs11⟩ := pI_of hs
    obtain ⟨x, r, rfl, hgy, hs12⟩ := pL_of hs11
    refine lv_lshl hx hb h1 (z64_shl hgy) ?_
    rw [← h2]
    exact hs12 hkm hJ H locs ls hl hw hS
  case lor =>
    obtain ⟨h1, h2⟩ := hc
    obtain ⟨y, r, rfl, hs11⟩ := pL_of hs
    obtain ⟨x, r, rfl, hs12⟩ := pL_of hs11
    refine lv_lor hx hb h1 ?_
    rw [z64_or, ← h2]
    exact hs12 hkm hJ H locs ls hl hw hS
  case i2l =>
    obtain ⟨h1, h2⟩ := hc
    obtain ⟨x, r, rfl, hgx, hs11⟩ := pI_of hs
    refine lv_i2l hx hb h1 (z_i2l hgx) ?_
    rw [← h2]
    exact hs11 hkm hJ H locs ls hl hw hS
  case lcmp =>
    obtain ⟨⟨⟨h1, h2⟩, h3⟩, h4⟩ := hc
    obtain ⟨y, r, rfl, hs11⟩ := pL_of hs
    obtain ⟨x, r, rfl, ⟨hgx, hgy⟩, hs1, hs2⟩ := pL_of hs11
    split at h4
    · rename_i cn off hd2
      rw [Bool.and_eq_true] at h4
      obtain ⟨h5, h6⟩ := h4
      have h5 := of_decide_eq_true h5
      have h6 := of_decide_eq_true h6
      subst h5
      refine w_lcmp hx hb hgx hgy h1 hd2 h6 (fun q => ?_) (fun q => ?_)
      · exact hs1 q hkm hJ H locs ls hl hw hS
      · rw [← h3]
        exact hs2 q hkm hJ H locs ls hl hw hS
    · cases h4
  case if_icmp cn off =>
    obtain ⟨⟨h1, h2⟩, h3⟩ := hc
    obtain ⟨y, r, rfl, hs11⟩ := pI_of hs
    obtain ⟨x, r, rfl, ⟨hgx, hgy⟩, hs1, hs2⟩ := pI_of hs11
    refine w_icmp hx hb hgx hgy h1 h3 (fun q => ?_) (fun q => ?_)
    · exact hs1 q hkm hJ H locs ls hl hw hS
    · rw [← h2]
      exact hs2 q hkm hJ H locs ls hl hw hS
  case ifCond cn off =>
    obtain ⟨⟨h1, h2⟩, h3⟩ := hc
    obtain ⟨x, r, rfl, hgx, hs1, hs2⟩ := pI_of hs
    refine w_if hx hb hgx h1 h3 (fun q => ?_) (fun q => ?_)
    · exact hs1 q hkm hJ H locs ls hl hw hS
    · rw [← h2]
      exact hs2 q hkm hJ H locs ls hl hw hS
  case goto off =>
    obtain ⟨h1, h3⟩ := hc
    exact lv_goto hx hb h1 h3 (hs hkm hJ H locs ls hl hw hS)
  case dup =>
    obtain ⟨h1, h2⟩ := hc
    rcases st with _ | ⟨x | x | x, r⟩
    · exact hs.elim
    · refine lv_dup hx hb h1 rfl ?_
      rw [← h2]
      exact hs hkm hJ H locs ls hl hw hS
    · exact hs.elim
    · refine lv_dup hx hb h1 (lpv_cat1 rfl) ?_
      rw [← h2]
      exact hs hkm hJ H locs ls hl hw hS
  case dup2 =>
    obtain ⟨h1, h2⟩ := hc
    rcases st with _ | ⟨x | x | x, _ | ⟨y | y | y, r⟩⟩ <;> try exact hs.elim
    · refine lv_dup2_11 hx hb h1 rfl (lpv_cat1 rfl) ?_
      rw [← h2]
      exact hs hkm hJ H locs ls hl hw hS
    all_goals
      refine lv_dup2_2 hx hb h1 rfl ?_
      rw [← h2]
      exact hs hkm hJ H locs ls hl hw hS
  case pop =>
    obtain ⟨h1, h2⟩ := hc
    obtain ⟨x, r, rfl, hs11⟩ := pI_of hs
    refine lv_pop hx hb h1 rfl ?_
    rw [← h2]
    exact hs11 hkm hJ H locs ls hl hw hS
  case ldiv =>
    obtain ⟨h1, h2⟩ := hc
    obtain ⟨y, r, rfl, hs11⟩ := pL_of hs
    obtain ⟨x, r, rfl, hgx, hgy, hs12⟩ := pL_of hs11
    refine lv_ldiv hx hb h1 (z64_ne hgy) ?_
    rw [z64_tdiv hgx hgy, ← h2]
    exact hs12 hkm hJ H locs ls hl hw hS
  case lrem =>
    obtain ⟨h1, h2⟩ := hc
    obtain ⟨y, r, rfl, hs11⟩ := pL_of hs
    obtain ⟨x, r, rfl, hgx, hgy, hs12⟩ := pL_of hs11
    refine lv_lrem hx hb h1 (z64_ne hgy) ?_
    rw [z64_tmod hgx hgy, ← h2]
    exact hs12 hkm hJ H locs ls hl hw hS
  case aload n =>
    obtain ⟨⟨h1, h2⟩, h3⟩ := hc
    obtain ⟨x, hg, hnt, hs11⟩ := gRn_of hs
    subst h3
    have hat := hl.at' hg
    rcases lref_cases (B := B) (ρ := ρ) (sgL := sgL) hnt with q | ⟨q, hq⟩
    · rw [q] at hat
      refine lv_aloadN hx hb h1 hat ?_
      rw [← q, ← h2]
      exact hs11 hkm hJ H locs ls hl hw hS
    · rw [hq] at hat
      refine lv_aload hx hb h1 hat ?_
      rw [← hq, ← h2]
      exact hs11 hkm hJ H locs ls hl hw hS
  case astore_n n =>
    obtain ⟨⟨h1, h2⟩, h3, h4⟩ := hc
    obtain ⟨x, r, rfl, hnt, hs11⟩ := pRn_of hs
    have go : ∀ ls' : Array Slot, lv_has ls' maxL ((a, lpv B (ρ 149) sgL (.inr (.inr x))) :: (lsg (lpv B (ρ 149) sgL) 0 lo).filter (fun q => !(q.1 == a) && !(q.1 + 1 == a && q.2.category == 2))) → W p l e R s m args below meth c H locs kc (52 * kc) (MQ below (QcL D cA cW A ρ B rk Q) args s km (52 * km) A) (F0 m (pcN pcs ip + 1) ls' (r.map (lpv B (ρ 149) sgL))) := fun ls' hl' => by
      rw [← h2]
      exact hs11 hkm (hJ.st1 hnt) H locs ls' (LG.st1 hcv (v := .inr (.inr x)) hl') hw hS
    rw [List.map_cons]
    rcases lref_cases (B := B) (ρ := ρ) (sgL := sgL) hnt with q | ⟨q, hq⟩
    · rw [q] at go ⊢
      exact lv_astore_nN hx hb h1 h3 hl h4 rfl go
    · rw [hq] at go ⊢
      exact lv_astore_n hx hb h1 h3 hl h4 rfl go
  case astore n =>
    obtain ⟨⟨h1, h2⟩, h3, h4⟩ := hc
    obtain ⟨x, r, rfl, hnt, hs11⟩ := pRn_of hs
    subst h3
    have go : ∀ ls' : Array Slot, lv_has ls' maxL ((n, lpv B (ρ 149) sgL (.inr (.inr x))) :: (lsg (lpv B (ρ 149) sgL) 0 lo).filter (fun q => !(q.1 == n) && !(q.1 + 1 == n && q.2.category == 2))) → W p l e R s m args below meth c H locs kc (52 * kc) (MQ below (QcL D cA cW A ρ B rk Q) args s km (52 * km) A) (F0 m (pcN pcs ip + 2) ls' (r.map (lpv B (ρ 149) sgL))) := fun ls' hl' => by
      rw [← h2]
      exact hs11 hkm (hJ.st1 hnt) H locs ls' (LG.st1 hcv (v := .inr (.inr x)) hl') hw hS
    rw [List.map_cons]
    rcases lref_cases (B := B) (ρ := ρ) (sgL := sgL) hnt with q | ⟨q, hq⟩
    · rw [q] at go ⊢
      exact lv_astoreN hx hb h1 hl h4 rfl go
    · rw [hq] at go ⊢
      exact lv_astore hx hb h1 hl h4 rfl go
end StepsL
