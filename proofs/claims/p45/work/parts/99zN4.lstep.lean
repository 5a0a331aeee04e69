/-! What ties the law's tables to its class file, and the steps on cells. -/
/-- a call of the law's own -/
def chkLC (linfs : List Inf) (wl : List Cond) (idx : Nat) (ps : List Nat) (a b c d : Nat) : Bool := match nth linfs a with
  | none => false
  | some f => match ps with
    | [p0, p1, p2] => wAt wl p0 (.methodLink RL idx f.2.1) && wAt wl p1 (.static f.2.1) && wAt wl p2 (.initialized RL) && decide (f.1 = RL ∧ f.2.1.cls = RL ∧ c = f.2.2.2.2.2.1.2.1 ∧ d = f.2.2.2.2.2.1.2.2.1 ∧ c ≤ 4 ∧ (parseMethodDescriptor f.2.1.desc).map (fun q => q.parameters.length) = some b)
    | _ => false
/-- a call of the class -/
def chkCC (wl : List Cond) (idx : Nat) (ps : List Nat) (a b c d : Nat) : Bool := match nth infs a with
  | none => false
  | some f => match ps with
    | [p0, p1, p2, p3] => wAt wl p0 (.methodLink RL idx f.2.1) && wAt wl p1 (.instanceMethod f.2.1) && wAt wl p2 (.selects RX11 f.2.1 f.2.1) && wAt wl p3 (.initialized RX11) && decide (f.1 = RX11 ∧ f.2.1.cls = RX11 ∧ c = f.2.2.2.2.2.1.2.1 ∧ d = f.2.2.2.2.2.1.2.2.1 ∧ f.2.2.2.2.2.1.2.2.2.2 = 12 ∧ 1 ≤ b ∧ (parseMethodDescriptor f.2.1.desc).map (fun q => q.parameters.length) = some (b - 1))
    | _ => false
def isArrT : Option FieldType → Bool
  | some (.array _) => true
  | _ => false
/-- the end of a text that is made: the number put, the text, puts -/
def chkPT (linfs : List Inf) (wl : List Cond) (bytes : ByteArray) (pcs : List Nat) (q : Nat) (ps ts : List Nat) : Bool := dEp bytes q (.invokevirtual 268) 3 && dEp bytes (q + 3) (.invokevirtual 271) 3 && (match ts, ps with
  | [_, pn, ipA, cost], [p0, p1, p2] => decide (cost = 8) && chkLC linfs wl 255 [p0, p1, p2] pn 4 1 0 && (match decode bytes (q + 6) with
    | .ok (.invokestatic 255, 3) => decide (pcN pcs ipA = q + 9)
    | .ok (.goto off, 3) => decide (0 ≤ ((q + 6 : Nat) : Int) + off) && dEp bytes (((q + 6 : Nat) : Int) + off).toNat (.invokestatic 255) 3 && decide (pcN pcs ipA = (((q + 6 : Nat) : Int) + off).toNat + 3)
    | _ => false)
  | _, _ => false)
def chkIL (linfs : List Inf) (wl : List Cond) (bytes : ByteArray) (maxL : Nat) (ret : Option FieldType) (pcs : List Nat) (ip : Nat) (ps : List Nat) (g : GI) : Bool := match g with
  | (i, (a, b, c, d), k, ts) => match i with
    | .ineg | .baload | .bastore | .aastore | .aconst_null => dN bytes pcs ip i 1
    | .areturn => dE bytes pcs ip i 1 && isArrT ret
    | .ifnull off => dN bytes pcs ip i 3 && jT pcs (pcN pcs ip) off a
    | .ifnonnull off => dN bytes pcs ip i 3 && jT pcs (pcN pcs ip) off a
    | .newarray at_ => dN bytes pcs ip i 2 && decide (newarray.typeOf at_ = kTy c ∧ (c = 1 ∨ c = 2 ∨ c = 3)) && (match ps with
      | [p] => wAt wl p (.arrayClass (kTy c))
      | _ => false)
    | .anewarray idx => dN bytes pcs ip i 3 && decide (c = 6) && (match ps with
      | [p] => wAt wl p (.classLink RL idx "[J")
      | _ => false)
    | .multianewarray idx dm => dN bytes pcs ip i 4 && decide (dm = 2 ∧ (c = 4 ∨ c = 5 ∨ c = 7)) && (match ps with
      | [p, r] => wAt wl p (.classLink RL idx (clNm c)) && (match c with
        | 7 => true
        | _ => wAt wl r (.arrayClass (kTy (elK c))))
      | _ => false)
    | .aload_n n => match c with
      | 0 => dN bytes pcs ip i 1 && decide ((n : Nat) = a)
      | 7 => dE bytes pcs ip i 1 && decide ((n : Nat) = a) && dEp bytes (pcN pcs ip + 1) (.invokevirtual 235) 3 && decide (pcN pcs (ip + 1) = pcN pcs ip + 4)
      | 8 => dE bytes pcs ip i 1 && decide ((n : Nat) = a) && dEp bytes (pcN pcs ip + 1) (.iload b) 2 && dEp bytes (pcN pcs ip + 3) (.invokevirtual 240) 3 && decide (pcN pcs (ip + 1) = pcN pcs ip + 6)
      | _ => false
    | .ldc idx => match c with
      | 0 => chkI infs wl RL bytes maxL ret pcs ip ps g
      | _ => dE bytes pcs ip i 2 && dEp bytes (pcN pcs ip + 2) (.invokestatic 255) 3 && decide (1 ≤ a ∧ a ≤ 5) && (match ts, ps with
        | [_, pn, ipA, cost], [q, p0, p1, p2] => wAt wl q (.stringRef RL idx (wTx a)) && chkLC linfs wl 255 [p0, p1, p2] pn 4 1 cost && decide (pcN pcs ipA = pcN pcs ip + 5)
        | _, _ => false)
    | .ldc_w idx => match c with
      | 0 => chkI infs wl RL bytes maxL ret pcs ip ps g
      | _ => dE bytes pcs ip i 3 && dEp bytes (pcN pcs ip + 3) (.invokestatic 255) 3 && decide (1 ≤ a ∧ a ≤ 5) && (match ts, ps with
        | [_, pn, ipA, cost], [q, p0, p1, p2] => wAt wl q (.stringRef RL idx (wTx a)) && chkLC linfs wl 255 [p0, p1, p2] pn 4 1 cost && decide (pcN pcs ipA = pcN pcs ip + 6)
        | _, _ => false)
    | .invokestatic idx => match c with
      | 8 => dN bytes pcs ip i 3 && (match ps with
        | [p0, p1, p2, p3] => wAt wl p0 (.methodLink RL idx Lib.MathLoose.abs_long.x) && wAt wl p1 (.static Lib.MathLoose.abs_long.x) && wAt wl p2 (.initialized "java/lang/Math") && wAt wl p3 (.code Lib.MathLoose.abs_long.x Lib.MathLoose.abs_long.code 2 (some .long))
        | _ => false)
      | 9 => dN bytes pcs ip i 3 && decide (idx = 140)
      | _ => dN bytes pcs ip i 3 && chkLC linfs wl idx ps a b c d
    | .invokevirtual idx => match c with
      | 5 => dE bytes pcs ip i 3 && decide (idx = 168) && decide (b = 3) && dEp bytes (pcN pcs ip + 3) (.iload a) 2 && dEp bytes (pcN pcs ip + 5) .i2d 1 && dEp bytes (pcN pcs ip + 6) (.aload_n 3) 1 && dEp bytes (pcN pcs ip + 7) (.iconst 0) 1 && dEp bytes (pcN pcs ip + 8) .iaload 1 && dEp bytes (pcN pcs ip + 9) .i2d 1 && dEp bytes (pcN pcs ip + 10) .ddiv 1 && dEp bytes (pcN pcs ip + 11) (.dcmp .l) 1 && (match decode bytes (pcN pcs ip + 12) with
        | .ok (.ifCond .eq off, 3) => jT pcs (pcN pcs ip + 12) off d
        | _ => false)
      | 6 => dE bytes pcs ip i 3 && decide (idx = 172) && decide (b = 3) && dEp bytes (pcN pcs ip + 3) (.iload a) 2 && dEp bytes (pcN pcs ip + 5) .i2f 1 && dEp bytes (pcN pcs ip + 6) (.aload_n 3) 1 && dEp bytes (pcN pcs ip + 7) (.iconst 0) 1 && dEp bytes (pcN pcs ip + 8) .iaload 1 && dEp bytes (pcN pcs ip + 9) .i2f 1 && dEp bytes (pcN pcs ip + 10) .fdiv 1 && dEp bytes (pcN pcs ip + 11) (.fcmp .l) 1 && (match decode bytes (pcN pcs ip + 12) with
        | .ok (.ifCond .ne off, 3) => decide (pcN pcs d = pcN pcs ip + 15) && decide (0 ≤ ((pcN pcs ip + 12 : Nat) : Int) + off)
        | _ => false)
      | _ => dN bytes pcs ip i 3 && decide (1 ≤ c ∧ c ≤ 3) && chkCC wl idx ps a b c d
    | .new ik => dE bytes pcs ip i 3 && decide (ik = 259) && dEp bytes (pcN pcs ip + 3) .dup 1 && dEp bytes (pcN pcs ip + 4) (.invokespecial 261) 3 && dEp bytes (pcN pcs ip + 7) (.ldc_w (if d = 0 then 262 else 275)) 3 && decide (d ≤ 1) && dEp bytes (pcN pcs ip + 10) (.invokevirtual 264) 3 && (match c with
      | 0 => dEp bytes (pcN pcs ip + 13) (.iload a) 2 && chkPT linfs wl bytes pcs (pcN pcs ip + 15) ps ts
      | _ => dEp bytes (pcN pcs ip + 13) (.aload_n 2) 1 && decide (a = 2) && dEp bytes (pcN pcs ip + 14) (.iload b) 2 && dEp bytes (pcN pcs ip + 16) (.iconst k) 1 && decide (0 ≤ k ∧ k ≤ 5) && dEp bytes (pcN pcs ip + 17) .iadd 1 && dEp bytes (pcN pcs ip + 18) .iaload 1 && chkPT linfs wl bytes pcs (pcN pcs ip + 19) ps ts)
    | _ => chkI infs wl RL bytes maxL ret pcs ip ps g
section StepsL4
variable {p : Program} {l : Launch} {e : Env} {R : Room} {s : State} {m : MethodId} {args : Array Value} {below : List Frame} {meth : Method} {c : Code}
variable {ρ sg sgL : Nat → Nat} {cA cW : Nat → ClassId} {D : va_G} {A J : Nat → Prop} {B : Nat} {bytes : ByteArray} {maxL km : Nat} {ret : Option FieldType} {pcs : List Nat} {rk : Nat} {Q : LQ}
variable {wl : List Cond} {linfs : List Inf} {mac : MacS} {cal : LCal} {cc : Cal} {ip kc : Nat} {lo : PL} {st : PS} {M : Mem} {C : LMem} {a b c0 d : Nat} {k : Int} {ts : List Nat} {ps : List Nat} {dp : Nat}
variable {Z : State → Prop} {H : Heap} {locs : List Loc} {ls : Array Slot} {cells slots : Nat} {rest : List Value} {pc : Nat}
theorem wWL.up (hw : wWL D cA cW A ρ B M C H) {q i : Nat} {v : Int} (hq : (C q).1 ≠ 0) {H1 : Heap} (oq : ∀ x : Nat, x ≠ B + q → H1[x]? = H[x]?) (he : va_at D gCl (B + q, lCell B cW ((C q).1, (C q).2.1, sr (C q).2.2 i v)) H1) : wWL D cA cW A ρ B M (cup C q i v) H1 :=
  ⟨wP_off hw.1 (hw.2.2 q hq).2.1 oq, hw.2.1, hw.2.2.up hq oq he⟩
theorem lCell_k {x : LCel} {k : Nat} (h : x.1 = k) : lCell B cW x = .inl (cW k, x.2.1, lAr B k x.2.2) := by subst h; rfl
theorem l_iast (hx : p.tables.exec = Jvm.exec) (hb : c.code = bytes) (hK : va_K D gCl (tysW cW) s) (hw : wWL D cA cW A ρ B M C H) (hS : va_S A s.heap H locs) {q : Nat} (hk : (C q).1 = 1) {x v : Int} (hi : 0 ≤ x ∧ x < ((C q).2.1 : Int)) (hd : decode bytes pc = .ok (.iastore, 1))
    (kk : ∀ (H1 : Heap) (locs1 : List Loc), wWL D cA cW A ρ B M (cup C q x.toNat v) H1 → va_S A s.heap H1 locs1 → W p l e R s m args below meth c H1 locs1 cells slots Z (F0 m (pc + 1) ls rest)) : W p l e R s m args below meth c H locs cells slots Z (F0 m pc ls (.int (Int32.ofInt v) :: .int (Int32.ofInt x) :: .ref (B + q) :: rest)) := by
  have h0 : (C q).1 ≠ 0 := by omega
  obtain ⟨hA, hr, ⟨-, hl9⟩, hat⟩ := hw.2.2 q h0
  have hq := z_in hi hl9
  rw [lCell_k hk] at hat
  refine W.iast hx hb hat ((hK.2 0 _ (tysW_at 1 (by decide) (by decide))).1 (C q).2.1 (fun j => .int (Int32.ofInt ((C q).2.2 j)))) (fun z => by cases z) (by show ¬ (Int32.ofInt x < 0 ∨ (arrV _ _ _).slots.size ≤ _); rw [arrV_size]; exact hq.1) rfl rfl hd fun H1 e1 z1 oq => ?_
  refine kk H1 _ (hw.up h0 oq ?_) (hS.put z1 oq hA)
  rw [lCell_k (x := ((C q).1, (C q).2.1, sr (C q).2.2 x.toNat v)) hk]
  show H1[B + q]? = some (vp_cell _ _)
  rw [e1]
  show some (Cell.setSlot (vp_cell (cW 1) ((C q).2.1, .inl fun j => Int32.ofInt ((C q).2.2 j))) _ _) = some (vp_cell (cW 1) ((C q).2.1, .inl fun j => Int32.ofInt (sr (C q).2.2 x.toNat v j)))
  rw [vp_cell_i, vp_cell_i, arrV_store, hq.2]
  congr 2
  funext j
  by_cases hj : j = x.toNat
  · subst hj
    simp [updV, sr]
  · simp [updV, sr, hj]
theorem l_last (hx : p.tables.exec = Jvm.exec) (hb : c.code = bytes) (hK : va_K D gCl (tysW cW) s) (hw : wWL D cA cW A ρ B M C H) (hS : va_S A s.heap H locs) {q : Nat} (hk : (C q).1 = 2) {x v : Int} (hi : 0 ≤ x ∧ x < ((C q).2.1 : Int)) (hd : decode bytes pc = .ok (.lastore, 1))
    (kk : ∀ (H1 : Heap) (locs1 : List Loc), wWL D cA cW A ρ B M (cup C q x.toNat v) H1 → va_S A s.heap H1 locs1 → W p l e R s m args below meth c H1 locs1 cells slots Z (F0 m (pc + 1) ls rest)) : W p l e R s m args below meth c H locs cells slots Z (F0 m pc ls (.long (Int64.ofInt v) :: .int (Int32.ofInt x) :: .ref (B + q) :: rest)) := by
  have h0 : (C q).1 ≠ 0 := by omega
  obtain ⟨hA, hr, ⟨-, hl9⟩, hat⟩ := hw.2.2 q h0
  have hq := z_in hi hl9
  rw [lCell_k hk] at hat
  refine W.last hx hb hat ((hK.2 1 _ (tysW_at 2 (by decide) (by decide))).1 (C q).2.1 (fun j => .long (Int64.ofInt ((C q).2.2 j)))) (fun z => by cases z) (by show ¬ (Int32.ofInt x < 0 ∨ (arrV _ _ _).slots.size ≤ _); rw [arrV_size]; exact hq.1) rfl rfl hd fun H1 e1 z1 oq => ?_
  refine kk H1 _ (hw.up h0 oq ?_) (hS.put z1 oq hA)
  rw [lCell_k (x := ((C q).1, (C q).2.1, sr (C q).2.2 x.toNat v)) hk]
  show H1[B + q]? = some (vp_cell _ _)
  rw [e1]
  show some (Cell.setSlot (vp_cell (cW 2) ((C q).2.1, .inr (.inl fun j => Int64.ofInt ((C q).2.2 j)))) _ _) = some (vp_cell (cW 2) ((C q).2.1, .inr (.inl fun j => Int64.ofInt (sr (C q).2.2 x.toNat v j))))
  rw [vp_cell_l, vp_cell_l, arrV_store, hq.2]
  congr 2
  funext j
  by_cases hj : j = x.toNat
  · subst hj
    simp [updV, sr]
  · simp [updV, sr, hj]
theorem l_zast (hx : p.tables.exec = Jvm.exec) (hb : c.code = bytes) (hK : va_K D gCl (tysW cW) s) (hw : wWL D cA cW A ρ B M C H) (hS : va_S A s.heap H locs) {q : Nat} (hk : (C q).1 = 3) {x v : Int} (hi : 0 ≤ x ∧ x < ((C q).2.1 : Int)) (hv : v = 0 ∨ v = 1) (hd : decode bytes pc = .ok (.bastore, 1))
    (kk : ∀ (H1 : Heap) (locs1 : List Loc), wWL D cA cW A ρ B M (cup C q x.toNat v) H1 → va_S A s.heap H1 locs1 → W p l e R s m args below meth c H1 locs1 cells slots Z (F0 m (pc + 1) ls rest)) : W p l e R s m args below meth c H locs cells slots Z (F0 m pc ls (.int (Int32.ofInt v) :: .int (Int32.ofInt x) :: .ref (B + q) :: rest)) := by
  have h0 : (C q).1 ≠ 0 := by omega
  obtain ⟨hA, hr, ⟨-, hl9⟩, hat⟩ := hw.2.2 q h0
  have hq := z_in hi hl9
  rw [lCell_k hk] at hat
  refine W.zast hx hb hat ((hK.2 2 _ (tysW_at 3 (by decide) (by decide))).1 (C q).2.1 (fun j => .int (Int32.ofInt ((C q).2.2 j)))) (fun z => by cases z) (by show ¬ (Int32.ofInt x < 0 ∨ (arrV _ _ _).slots.size ≤ _); rw [arrV_size]; exact hq.1) rfl rfl hd fun H1 e1 z1 oq => ?_
  refine kk H1 _ (hw.up h0 oq ?_) (hS.put z1 oq hA)
  rw [lCell_k (x := ((C q).1, (C q).2.1, sr (C q).2.2 x.toNat v)) hk]
  show H1[B + q]? = some (vp_cell _ _)
  rw [e1]
  have hnar : narrow .boolean (.int (Int32.ofInt v)) = .int (Int32.ofInt v) := by rcases hv with rfl | rfl <;> decide
  show some (Cell.setSlot (vp_cell (cW 3) ((C q).2.1, .inl fun j => Int32.ofInt ((C q).2.2 j))) _ _) = some (vp_cell (cW 3) ((C q).2.1, .inl fun j => Int32.ofInt (sr (C q).2.2 x.toNat v j)))
  rw [vp_cell_i, vp_cell_i, arrV_store, hq.2]
  congr 2
  funext j
  by_cases hj : j = x.toNat
  · subst hj
    simp only [updV, if_true, sr]
    first | exact hnar | simp [hnar]
  · simp [updV, sr, hj]
theorem l_aald (hx : p.tables.exec = Jvm.exec) (hb : c.code = bytes) (hK : va_K D gCl (tysW cW) s) (hw : wWL D cA cW A ρ B M C H) {q : Nat} (hk : 4 ≤ (C q).1 ∧ (C q).1 ≤ 7) {x : Int} (hi : 0 ≤ x ∧ x < ((C q).2.1 : Int)) (hd : decode bytes pc = .ok (.aaload, 1))
    (kk : W p l e R s m args below meth c H locs cells slots Z (F0 m (pc + 1) ls (lpv B (ρ 149) sgL (.inr (.inr (.inl ((C q).2.2 x.toNat).toNat))) :: rest))) : W p l e R s m args below meth c H locs cells slots Z (F0 m pc ls (.int (Int32.ofInt x) :: .ref (B + q) :: rest)) := by
  have h0 : (C q).1 ≠ 0 := by omega
  obtain ⟨hA, hr, ⟨-, hl9⟩, hat⟩ := hw.2.2 q h0
  have hq := z_in hi hl9
  have hlt : (Int32.ofInt x).toNatClampNeg < (C q).2.1 := Nat.not_le.mp fun z => hq.1 (Or.inr z)
  have hcell : lCell B cW (C q) = .inl (cW (C q).1, (C q).2.1, .inr (.inr (.inr (.inr fun j => rfB B ((C q).2.2 j))))) := by
    unfold lCell
    obtain ⟨k1, hk1⟩ : ∃ k1, (C q).1 = k1 + 4 := ⟨(C q).1 - 4, by omega⟩
    rw [hk1]
    rfl
  rw [hcell] at hat
  have ev : va_rf (rfB B ((C q).2.2 x.toNat)) = lpv B (ρ 149) sgL (.inr (.inr (.inl ((C q).2.2 x.toNat).toNat))) := by
    unfold rfB
    cases ((C q).2.2 x.toNat).toNat <;> rfl
  refine W.aald (v := va_rf (rfB B ((C q).2.2 x.toNat))) (ty := kTy (C q).1) hx hb hat ((hK.2 ((C q).1 - 1) _ (tysW_at _ (by omega) hk.2)).1 (C q).2.1 (fun j => va_rf (rfB B ((C q).2.2 j)))) ?_ (fun z => by cases z) (by show ¬ (Int32.ofInt x < 0 ∨ (arrV _ _ _).slots.size ≤ _); rw [arrV_size]; exact hq.1) (by show (arrV _ _ _).slots[_]? = _; rw [arrV_read _ _ hlt, hq.2]) rfl rfl hd ?_
  · obtain ⟨k1, hk1⟩ : ∃ k1, (C q).1 = k1 + 4 := ⟨(C q).1 - 4, by omega⟩
    rw [hk1]
    rcases k1 with _ | _ | _ | _ | k1 <;> first | rfl | omega
  · rw [ev]
    exact kk
theorem l_comp (hK : va_K D gCl (tysW cW) s) (hAO : AOA .int s ∧ AOA .boolean s ∧ AOA .long s ∧ AOA (.array .long) s) {k : Nat} (hk : 4 ≤ k ∧ k ≤ 7) : ∃ kA, s.vm.classes[cW k]? = some kA ∧ kA.kind = .array (cW (elK k)) (kTy k) := by
  have key : ∀ (ty : FieldType) (k1 k2 : Nat), AOA ty s → s.vm.findClass ("[" ++ (FieldType.array ty).toString) = some (cW k1) → s.vm.findClass (FieldType.array ty).toString = some (cW k2) → ∃ kA, s.vm.classes[cW k1]? = some kA ∧ kA.kind = .array (cW k2) (.array ty) := fun ty k1 k2 h h1 h2 => by
    obtain ⟨comp, cc9, kk9, g1, g2, g3, g4, g5⟩ := arrayOverA_spec h
    cases Option.some.inj (h1.symm.trans g5)
    cases Option.some.inj (h2.symm.trans g1)
    exact ⟨kk9, g3, g4⟩
  obtain ⟨k1, rfl⟩ : ∃ k1, k = k1 + 4 := ⟨k - 4, by omega⟩
  rcases k1 with _ | _ | _ | _ | k1
  · exact key _ 4 1 hAO.1 (hK.2 3 _ (tysW_at 4 (by decide) (by decide))).2 (hK.2 0 _ (tysW_at 1 (by decide) (by decide))).2
  · exact key _ 5 3 hAO.2.1 (hK.2 4 _ (tysW_at 5 (by decide) (by decide))).2 (hK.2 2 _ (tysW_at 3 (by decide) (by decide))).2
  · exact key _ 6 2 hAO.2.2.1 (hK.2 5 _ (tysW_at 6 (by decide) (by decide))).2 (hK.2 1 _ (tysW_at 2 (by decide) (by decide))).2
  · exact key _ 7 6 hAO.2.2.2 (hK.2 6 _ (tysW_at 7 (by decide) (by decide))).2 (hK.2 5 _ (tysW_at 6 (by decide) (by decide))).2
  · omega
theorem l_aastN0 {T : State} (X : Stand p l e R s m args below meth c T locs cells slots) (hexec : p.tables.exec = Jvm.exec) {a : Addr} {cell : Cell} {ty : FieldType} {j : Int32} (hcell : T.heap[a]? = some cell) (harr : s.isArrayOf cell ty) (href : ∃ t, ty = .array t) (hknown : cell.vm ≠ .unknown)
    (hin : ¬ (j < 0 ∨ cell.slots.size ≤ j.toNatClampNeg))
    {g : JFrame} (hg : g.method = m) {rest : List Value} (hstack : g.stack = .null :: .int j :: .ref a :: rest) (hdg : decode c.code g.pc = .ok (.aastore, 1)) :
    Stand p l e R s m args below meth c (T.setCell a (cell.setSlot j.toNatClampNeg .null)) (locs ++ [⟨a, j.toNatClampNeg⟩]) cells slots ∧
      ∀ target, Steps p.tables e below ((T.setCell a (cell.setSlot j.toNatClampNeg .null)).setTop { g with pc := g.pc + 1, stack := rest }) target → Steps p.tables e below (T.setTop g) target := by
  obtain ⟨t, rfl⟩ := href
  have hT := State.isArrayOf_alike X.warmed.alike harr
  have hfit : T.fitsSlot cell.cls cell.vm j.toNatClampNeg .null = true := by
    obtain ⟨hobj, k, hk, comp, hkind⟩ := hT
    cases hvm : cell.vm <;> first | exact absurd hvm (hobj _) | simp [State.fitsSlot, State.slotType?, hk, hkind, fits]
  refine ⟨X.stored hcell _ _, fun target hrest => ?_⟩
  subst hg
  jvm_step X.here [hexec, hdg]
  refine aastore.wp_of_null (c := cell) (t := .array t) X.here.top hstack hcell hT hin hknown (Nat.not_le.mp fun q => hin (Or.inr q)) hfit ?_
  intro acts
  rw [afterInstr_ok]
  exact hrest
theorem l_aast (hAO : AOA .int s ∧ AOA .boolean s ∧ AOA .long s ∧ AOA (.array .long) s) (hx : p.tables.exec = Jvm.exec) (hb : c.code = bytes) (hK : va_K D gCl (tysW cW) s) (hw : wWL D cA cW A ρ B M C H) (hS : va_S A s.heap H locs) {q n : Nat} (hk : 4 ≤ (C q).1 ∧ (C q).1 ≤ 7) {x : Int} (hi : 0 ≤ x ∧ x < ((C q).2.1 : Int)) (hn : codeOk C n (C q).1) (hd : decode bytes pc = .ok (.aastore, 1))
    (kk : ∀ (H1 : Heap) (locs1 : List Loc), wWL D cA cW A ρ B M (cup C q x.toNat (n : Int)) H1 → va_S A s.heap H1 locs1 → W p l e R s m args below meth c H1 locs1 cells slots Z (F0 m (pc + 1) ls rest)) : W p l e R s m args below meth c H locs cells slots Z (F0 m pc ls (lpv B (ρ 149) sgL (.inr (.inr (.inl n))) :: .int (Int32.ofInt x) :: .ref (B + q) :: rest)) := by
  have h0 : (C q).1 ≠ 0 := by omega
  obtain ⟨hA, hr, ⟨-, hl9⟩, hat⟩ := hw.2.2 q h0
  have hq := z_in hi hl9
  have hnn : ¬ Int32.ofInt x < 0 := fun z => hq.1 (Or.inl z)
  have hlt : (Int32.ofInt x).toNatClampNeg < (C q).2.1 := Nat.not_le.mp fun z => hq.1 (Or.inr z)
  obtain ⟨k1, hk1⟩ : ∃ k1, (C q).1 = k1 + 4 := ⟨(C q).1 - 4, by omega⟩
  have hcell : ∀ f : Nat → Int, lCell B cW ((C q).1, (C q).2.1, f) = .inl (cW (C q).1, (C q).2.1, .inr (.inr (.inr (.inr fun j => rfB B (f j))))) := fun f => by
    unfold lCell
    rw [hk1]
    rfl
  have hat2 : va_at D gCl (B + q, .inl (cW (C q).1, (C q).2.1, .inr (.inr (.inr (.inr fun j => rfB B ((C q).2.2 j)))))) H := by
    have := hcell (C q).2.2
    rw [← this]
    exact hat
  have hKq := hK.2 ((C q).1 - 1) _ (tysW_at _ (by omega) hk.2)
  have hAr := hKq.1 (C q).2.1 (fun j => va_rf (rfB B ((C q).2.2 j)))
  have fin : ∀ (H1 : Heap), H1[B + q]? = some (Cell.setSlot (vp_cell (cW (C q).1) ((C q).2.1, .inr (.inr (.inr (.inr fun j => rfB B ((C q).2.2 j)))))) (Int32.ofInt x).toNatClampNeg (va_rf (rfB B (n : Int)))) → (∀ y : Nat, y ≠ B + q → H1[y]? = H[y]?) → wWL D cA cW A ρ B M (cup C q x.toNat (n : Int)) H1 := fun H1 e1 oq => by
    refine hw.up h0 oq ?_
    rw [hcell]
    show H1[B + q]? = some (vp_cell _ _)
    rw [e1, vp_cell_q, vp_cell_q, arrV_store, hq.2]
    congr 2
    funext j
    by_cases hj : j = x.toNat
    · subst hj
      simp [updV, sr]
    · simp [updV, sr, hj]
  cases n with
  | zero =>
    intro T hT X
    have hT' : T.heap[B + q]? = some (vp_cell (cW (C q).1) ((C q).2.1, .inr (.inr (.inr (.inr fun j => rfB B ((C q).2.2 j)))))) := by rw [hT]; exact hat2
    have hlt9 : B + q < T.heap.size := (Array.getElem?_eq_some_iff.mp hT').1
    obtain ⟨X', st⟩ := l_aastN0 (ty := kTy (C q).1) X hx hT' (hKq.1 (C q).2.1 (fun j => va_rf (rfB B ((C q).2.2 j)))) (by
      rw [hk1]
      rcases k1 with _ | _ | _ | _ | k1 <;> first | exact ⟨_, rfl⟩ | omega) (fun z => by cases z) (by show ¬ (Int32.ofInt x < 0 ∨ (arrV _ _ _).slots.size ≤ _); rw [arrV_size]; exact hq.1) (g := F0 m pc ls (.null :: .int (Int32.ofInt x) :: .ref (B + q) :: rest)) rfl rfl (by rw [hb]; exact hd)
    have hH1 := fin _ (heapAt_setCell_self _ hlt9) (fun y hy => by rw [heapAt_setCell_ne _ (Ne.symm hy), hT])
    obtain ⟨t', a1, b1⟩ := kk _ _ hH1 (hS.put (by rw [size_setCell, hT]) (fun y hy => by rw [heapAt_setCell_ne _ (Ne.symm hy), hT]) hA) _ rfl X'
    exact ⟨t', st t' a1, b1⟩
  | succ v =>
    have hn : (C v).1 = elK (C q).1 := hn
    have hv0 : (C v).1 ≠ 0 := by
      rw [hn, hk1]
      rcases k1 with _ | _ | _ | _ | k1
      all_goals first | decide | (exfalso; omega)
    obtain ⟨-, -, ⟨hv7, -⟩, hatv⟩ := hw.2.2 v hv0
    obtain ⟨kA, hkA, hkind⟩ := l_comp hK hAO hk
    rw [← hn] at hkind
    have hKv := hK.2 ((C v).1 - 1) _ (tysW_at _ (by omega) hv7)
    obtain ⟨-, kB, hkB, -⟩ := hKv.1 0 (fun _ => .null)
    have hkB : s.vm.classes[cW (C v).1]? = some kB := hkB
    have hcv : H[B + v]? = some (vp_cell (cW (C v).1) ((C v).2.1, lAr B (C v).1 (C v).2.2)) := hatv
    have hvm : ∀ (cl : ClassId) (x : vp_A), (vp_cell cl x).vm = .none ∧ (vp_cell cl x).cls = cl := fun cl x => by obtain ⟨n9, f | f | f | f | f⟩ := x <;> exact ⟨rfl, rfl⟩
    refine W.aast hx hb hat2 (fun z h9 => by cases h9) (fun z => by cases z) hkA hkind ?_ hkB ⟨hnn, by show _ < (arrV _ _ _).slots.size; rw [arrV_size]; exact hlt⟩ hcv (fun z h9 => by rw [(hvm _ _).1] at h9; cases h9) (by rw [(hvm _ _).2]; exact hkB) (by rw [(hvm _ _).2]; exact Vm.assignable_self _ _) rfl rfl hd fun H1 e1 z1 oq => ?_
    · rw [hk1]
      rcases k1 with _ | _ | _ | _ | k1 <;> first | rfl | omega
    · refine kk H1 _ (fin H1 (by rw [e1]; rfl) oq) (hS.put z1 oq hA)
end StepsL4
