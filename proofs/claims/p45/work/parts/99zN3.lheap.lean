/-! Steps of the law's machine on its cells. -/
def rkL (r : Option FieldType) : Nat := match r with
  | none => 0
  | some .int => 1
  | some .long => 2
  | some .boolean => 3
  | _ => 4
def clNm (c : Nat) : String := match c with
  | 4 => "[[I"
  | 5 => "[[Z"
  | 6 => "[J"
  | _ => "[[[J"
theorem Ofp (x : Int) : (Int32.ofInt x).toNatClampNeg = (Int32.ofInt x).toInt.toNat := rfl
theorem ofI_nn {x : Int} (h : 0 ≤ x ∧ x < 2147483648) : ¬ Int32.ofInt x < 0 ∧ (Int32.ofInt x).toNatClampNeg = x.toNat := by
  have rx : R32 x := ⟨by omega, h.2⟩
  refine ⟨fun q => ?_, ?_⟩
  · have := (z32_lt rx r32_0).mp q
    omega
  · show (Int32.ofInt x).toInt.toNat = _
    rw [zi32 rx]
theorem kTy_def {c : Nat} (h : c = 1 ∨ c = 2 ∨ c = 3) (B N : Nat) (cl : ClassId) : vp_cell cl (N, lAr B c (fun _ => 0)) = arrV cl N (fun _ => defaultValue (kTy c)) := by
  rcases h with rfl | rfl | rfl <;> rfl
section StepsH
variable {p : Program} {l : Launch} {e : Env} {R : Room} {s : State} {m : MethodId} {args : Array Value} {below : List Frame} {meth : Method} {c : Code}
variable {ρ sg sgL : Nat → Nat} {cA cW : Nat → ClassId} {D : va_G} {A J : Nat → Prop} {B : Nat} {bytes : ByteArray} {maxL km : Nat} {ret : Option FieldType} {pcs : List Nat} {rk : Nat} {Q : LQ}
variable {wl : List Cond} {mac : MacS} {cal : LCal} {cc : Cal} {ip kc : Nat} {lo : PL} {st : PS} {M : Mem} {C : LMem} {a b c0 d : Nat} {k : Int} {ts : List Nat} {ps : List Nat} {dp : Nat}
variable {Z : State → Prop} {H : Heap} {locs : List Loc} {ls : Array Slot} {sl : Nat} {rest : List Value} {pc : Nat}
/-- a row of one kind is made -/
theorem l_newa {atype : ArrayType} (hx : p.tables.exec = Jvm.exec) (hb : c.code = bytes) (hK : va_K D gCl (tysW cW) s) (harr : (Cond.arrayClass (newarray.typeOf atype)).before args s = true) (hw : wWL D cA cW A ρ B M C H) (hS : va_S A s.heap H locs) (hsz : ∀ q : Nat, s.heap.size ≤ q → A q) (hBs : B ≤ s.heap.size)
    {k : Nat} (hk : k = 1 ∨ k = 2 ∨ k = 3) (hty : newarray.typeOf atype = kTy k) {n : Int} (hn : 0 ≤ n ∧ n < 10000) (hc : kc + lcost n.toNat ≤ R.cells) (hs : 52 * (kc + lcost n.toNat) ≤ R.slots) (hd : decode bytes pc = .ok (.newarray atype, 2))
    (kk : ∀ (q : Nat) (H1 : Heap), (C q).1 = 0 → wWL D cA cW A ρ B M (cst C q (k, n.toNat, fun _ => 0)) H1 → va_S A s.heap H1 locs → W p l e R s m args below meth c H1 locs (kc + lcost n.toNat) (52 * (kc + lcost n.toNat)) Z (F0 m (pc + 2) ls (.ref (B + q) :: rest))) : W p l e R s m args below meth c H locs kc (52 * kc) Z (F0 m pc ls (.int (Int32.ofInt n) :: rest)) := by
  have hq := ofI_nn (x := n) ⟨hn.1, by omega⟩
  have hco : 1 ≤ lcost n.toNat ∧ n.toNat ≤ 52 * lcost n.toNat := by unfold lcost; omega
  refine va_newaK hx hb harr rfl hd rfl hq.1 hq.2 ?_ (by omega) (by omega) rfl fun H1 c2 e1 z1 o1 _ hNm => ?_
  · rw [hty]
    have : componentBytes (kTy k) ≤ 8 := by rcases hk with rfl | rfl | rfl <;> decide
    have h2 : n.toNat * componentBytes (kTy k) ≤ n.toNat * 8 := Nat.mul_le_mul_left _ this
    omega
  have h2 := (hK.2 (k - 1) _ (tysW_at k (by omega) (by omega))).2
  have hNm1 : s.vm.findClass ("[" ++ (newarray.typeOf atype).toString) = some (cW k) := by rw [hty]; rcases hk with rfl | rfl | rfl <;> exact h2
  have ec : c2 = cW k := Option.some.inj (hNm.symm.trans hNm1)
  subst ec
  have hB : B ≤ H.size := Nat.le_trans hBs hS.1
  have e3 : B + (H.size - B) = H.size := by omega
  have hh := kk (H.size - B) H1 (hw.2.2.free (by omega)) ⟨hw.1.kept (fun k q hk => o1 _ (hw.1 k q hk).lt), hw.2.1, hw.2.2.new hw.1 hB (hsz _ hS.1) ⟨by dsimp only; omega, by dsimp only; omega⟩ o1 (by
    show H1[H.size]? = some (vp_cell _ _)
    rw [kTy_def hk, e1, hty])⟩ ⟨Nat.le_trans hS.1 (by omega), fun x h1 h2 => (o1 x (Nat.lt_of_lt_of_le h1 hS.1)).trans (hS.2.1 x h1 h2), hS.2.2⟩
  rw [e3] at hh
  exact W.widen (by omega) (by omega) hh
theorem l_anew (hx : p.tables.exec = Jvm.exec) (hb : c.code = bytes) (hown : s.vm.findClass RL = some m.cls) (hK : va_K D gCl (tysW cW) s) {index : Nat} (hclink : (Cond.classLink RL index "[J").before args s = true) (hover : AOA .long s) (hw : wWL D cA cW A ρ B M C H) (hS : va_S A s.heap H locs) (hsz : ∀ q : Nat, s.heap.size ≤ q → A q) (hBs : B ≤ s.heap.size)
    {n : Int} (hn : 0 ≤ n ∧ n < 10000) (hc : kc + lcost n.toNat ≤ R.cells) (hs : 52 * (kc + lcost n.toNat) ≤ R.slots) (hd : decode bytes pc = .ok (.anewarray index, 3))
    (kk : ∀ (q : Nat) (H1 : Heap), (C q).1 = 0 → wWL D cA cW A ρ B M (cst C q (6, n.toNat, fun _ => 0)) H1 → va_S A s.heap H1 locs → W p l e R s m args below meth c H1 locs (kc + lcost n.toNat) (52 * (kc + lcost n.toNat)) Z (F0 m (pc + 3) ls (.ref (B + q) :: rest))) : W p l e R s m args below meth c H locs kc (52 * kc) Z (F0 m pc ls (.int (Int32.ofInt n) :: rest)) := by
  have hq := ofI_nn (x := n) ⟨hn.1, by omega⟩
  have hco : 1 ≤ lcost n.toNat ∧ n.toNat ≤ 52 * lcost n.toNat := by unfold lcost; omega
  refine W.anewA (t := .long) hx hb hown hclink (AOA.use hover) rfl hd rfl hq.1 (by rw [hq.2]; omega) (by omega) (by rw [hq.2]; omega) fun c2 kA comp f1 f2 f3 f4 => ?_
  generalize hH1 : H.push ({ cls := c2, slots := Array.replicate (Int32.ofInt n).toNatClampNeg .null, vm := .none } : Cell) = H1
  have z1 : H1.size = H.size + 1 := by rw [← hH1, Array.size_push]
  have e1 : H1[H.size]? = some (arrV c2 (Int32.ofInt n).toNatClampNeg (fun _ => .null)) := by rw [← hH1, Array.getElem?_push_size, ← arrV_new]
  have o1 : ∀ q : Nat, q < H.size → H1[q]? = H[q]? := fun q hq => by rw [← hH1, Array.getElem?_push, if_neg (Nat.ne_of_lt hq)]
  have h2 := (hK.2 5 _ (tysW_at 6 (by decide) (by decide))).2
  have ec : c2 = cW 6 := Option.some.inj (f1.symm.trans h2)
  subst ec
  have hB : B ≤ H.size := Nat.le_trans hBs hS.1
  have e3 : B + (H.size - B) = H.size := by omega
  have hh := kk (H.size - B) H1 (hw.2.2.free (by omega)) ⟨hw.1.kept (fun k q hk => o1 _ (hw.1 k q hk).lt), hw.2.1, hw.2.2.new hw.1 hB (hsz _ hS.1) ⟨by dsimp only; omega, by dsimp only; omega⟩ o1 (by
    show H1[H.size]? = some (vp_cell _ _)
    rw [e1, hq.2]
    rfl)⟩ ⟨Nat.le_trans hS.1 (by omega), fun x h1 h2 => (o1 x (Nat.lt_of_lt_of_le h1 hS.1)).trans (hS.2.1 x h1 h2), hS.2.2⟩
  rw [e3] at hh
  rw [hq.2]
  exact W.widen (by omega) (by omega) hh
theorem aoa_class {s : State} {args : Array Value} (h : AOA .long s) : (Cond.arrayClass (.array .long)).before args s = true := by
  obtain ⟨comp, c, k, h1, h2, h3, h4, h5⟩ := arrayOverA_spec h
  unfold Cond.before Cond.holds
  simp only [Cond.value]
  rw [h5, Option.bind_some, h3]
  simp [h4]
theorem l_mna {c1 : Nat} {ty : FieldType} (hx : p.tables.exec = Jvm.exec) (hb : c.code = bytes) (hown : s.vm.findClass RL = some m.cls) (hK : va_K D gCl (tysW cW) s) {index : Nat} (h3 : (c1 = 4 ∧ ty = .int) ∨ (c1 = 5 ∧ ty = .boolean) ∨ (c1 = 7 ∧ ty = .array .long)) (hclink : (Cond.classLink RL index ("[" ++ (FieldType.array ty).toString)).before args s = true) (hover : (Cond.arrayOver (.array ty)).before args s = true) (harr : (Cond.arrayClass ty).before args s = true) (hw : wWL D cA cW A ρ B M C H) (hS : va_S A s.heap H locs) (hsz : ∀ q : Nat, s.heap.size ≤ q → A q) (hBs : B ≤ s.heap.size)
    {n k : Int} (hn : 0 ≤ n ∧ n < 50) (hk : 0 ≤ k ∧ k < 50) (hc : kc + (n.toNat + 1) ≤ R.cells) (hs : 52 * (kc + (n.toNat + 1)) ≤ R.slots) (hd : decode bytes pc = .ok (.multianewarray index 2, 4))
    (kk : ∀ (q : Nat) (H1 : Heap), (∀ j, j ≤ n.toNat → (C (q + j)).1 = 0) → wWL D cA cW A ρ B M (cmn C q n.toNat c1 (elK c1) k.toNat) H1 → va_S A s.heap H1 locs → W p l e R s m args below meth c H1 locs (kc + (n.toNat + 1)) (52 * (kc + (n.toNat + 1))) Z (F0 m (pc + 4) ls (.ref (B + q) :: rest))) : W p l e R s m args below meth c H locs kc (52 * kc) Z (F0 m pc ls (.int (Int32.ofInt k) :: .int (Int32.ofInt n) :: rest)) := by
  have hqn := ofI_nn (x := n) ⟨hn.1, by omega⟩
  have hqk := ofI_nn (x := k) ⟨hk.1, by omega⟩
  have hcl1 : s.vm.findClass ("[" ++ (FieldType.array ty).toString) = some (cW c1) := by
    rcases h3 with ⟨rfl, rfl⟩ | ⟨rfl, rfl⟩ | ⟨rfl, rfl⟩
    · exact (hK.2 3 _ (tysW_at 4 (by decide) (by decide))).2
    · exact (hK.2 4 _ (tysW_at 5 (by decide) (by decide))).2
    · exact (hK.2 6 _ (tysW_at 7 (by decide) (by decide))).2
  have hcl2 : s.vm.findClass (FieldType.array ty).toString = some (cW (elK c1)) := by
    rcases h3 with ⟨rfl, rfl⟩ | ⟨rfl, rfl⟩ | ⟨rfl, rfl⟩
    · exact (hK.2 0 _ (tysW_at 1 (by decide) (by decide))).2
    · exact (hK.2 2 _ (tysW_at 3 (by decide) (by decide))).2
    · exact (hK.2 5 _ (tysW_at 6 (by decide) (by decide))).2
  have hin : ∀ cl : ClassId, Jvm.Free.Multi.innerC cl k.toNat (defaultValue ty) = vp_cell cl (k.toNat, lAr B (elK c1) (fun _ => 0)) := fun cl => by
    rcases h3 with ⟨rfl, rfl⟩ | ⟨rfl, rfl⟩ | ⟨rfl, rfl⟩ <;> exact arrV_new _ _ _
  have hcb : componentBytes ty ≤ 8 := by rcases h3 with ⟨-, rfl⟩ | ⟨-, rfl⟩ | ⟨-, rfl⟩ <;> decide
  have hnk : n.toNat * k.toNat ≤ n.toNat * 50 := Nat.mul_le_mul_left _ (by omega)
  have hnk2 : n.toNat * k.toNat < 52 * n.toNat + 1 := by omega
  intro T hT Xs
  obtain ⟨vm₁, cO, comp, -, fA, fC, -, -, X', step⟩ := Xs.multianewarray2F hx hown hclink hover harr (g := F0 m pc ls (.int (Int32.ofInt k) :: .int (Int32.ofInt n) :: rest)) rfl (by rw [hb]; exact hd) rfl hqn.1 hqk.1 (by rw [hqn.2]; omega) (by
    rw [hqk.2]
    have : k.toNat * componentBytes ty ≤ k.toNat * 8 := Nat.mul_le_mul_left _ hcb
    omega) (by rw [hqk.2]; omega) (by rcases h3 with ⟨-, rfl⟩ | ⟨-, rfl⟩ | ⟨-, rfl⟩ <;> rfl) (by rcases h3 with ⟨-, rfl⟩ | ⟨-, rfl⟩ | ⟨-, rfl⟩ <;> rfl) (by rw [hqn.2]; omega) (by rw [hqn.2, hqk.2]; omega)
  cases Option.some.inj (fA.symm.trans hcl1)
  cases Option.some.inj (fC.symm.trans hcl2)
  rw [hqn.2, hqk.2] at X' step
  generalize hF : Jvm.Free.Multi.fill (T.setVm vm₁) (cW c1) (cW (elK c1)) n.toNat k.toNat (defaultValue ty) n.toNat = F at X' step
  have hTh : (T.setVm vm₁).heap = H := hT
  obtain ⟨f1, f2, -, -⟩ := Jvm.Free.Multi.fill_facts (T.setVm vm₁) (cW c1) (cW (elK c1)) n.toNat k.toNat (defaultValue ty) n.toNat
  rw [hF, hTh] at f1 f2
  have hold : ∀ x : Nat, x < H.size → F.heap[x]? = H[x]? := fun x hx => by
    have := Jvm.Free.Multi.fill_old (T.setVm vm₁) (cW c1) (cW (elK c1)) n.toNat k.toNat (defaultValue ty) (a := x) (by rw [hTh]; exact hx) n.toNat
    rw [hF, hTh] at this
    exact this
  have hrow : ∀ j : Nat, j < n.toNat → F.heap[H.size + 1 + j]? = some (vp_cell (cW (elK c1)) (k.toNat, lAr B (elK c1) (fun _ => 0))) := fun j hj => by
    have := Jvm.Free.Multi.fill_inner (T.setVm vm₁) (cW c1) (cW (elK c1)) n.toNat k.toNat (defaultValue ty) n.toNat j hj
    rw [hF, hTh, hin] at this
    exact this
  have hB : B ≤ H.size := Nat.le_trans hBs hS.1
  have e3 : B + (H.size - B) = H.size := by omega
  have hout : F.heap[H.size]? = some (vp_cell (cW c1) (n.toNat, lAr B c1 (fun j => if j < n.toNat then ((H.size - B + 1 + j + 1 : Nat) : Int) else 0))) := by
    rw [f2, eh_out]
    have e9 : ∀ j : Nat, va_rf (if j < n.toNat then some (H.size + 1 + j) else none) = va_rf (rfB B (if j < n.toNat then ((H.size - B + 1 + j + 1 : Nat) : Int) else 0)) := fun j => by
      by_cases hj : j < n.toNat
      · rw [if_pos hj, if_pos hj]
        unfold rfB
        rw [Int.toNat_natCast]
        show va_rf (some (H.size + 1 + j)) = va_rf (some (B + (H.size - B + 1 + j)))
        congr 2
        omega
      · rw [if_neg hj, if_neg hj]
        rfl
    rw [show (fun j => va_rf (if j < n.toNat then some (H.size + 1 + j) else none)) = fun j => va_rf (rfB B (if j < n.toNat then ((H.size - B + 1 + j + 1 : Nat) : Int) else 0)) from funext e9]
    rcases h3 with ⟨rfl, -⟩ | ⟨rfl, -⟩ | ⟨rfl, -⟩ <;> rfl
  have hwl : ∀ x : Nat, H.size ≤ x → x ≤ H.size + n.toNat → ∀ i, i < 150 → ρ i ≠ x := fun x h1 _ i hi z => by
    have := (hw.1 i _ (wWs_at hi)).lt
    have z : ρ i = x := z
    dsimp only at this
    omega
  have h79 : c1 ≤ 7 ∧ elK c1 ≤ 7 := by rcases h3 with ⟨rfl, -⟩ | ⟨rfl, -⟩ | ⟨rfl, -⟩ <;> decide
  have hLH : LH D cW A ρ B (cmn C (H.size - B) n.toNat c1 (elK c1) k.toNat) F.heap := fun x hx => by
    unfold cmn at hx ⊢
    by_cases g1 : x = H.size - B
    · rw [if_pos g1] at hx ⊢
      subst g1
      rw [e3]
      exact ⟨hsz _ hS.1, hwl _ (Nat.le_refl _) (by omega), ⟨h79.1, by dsimp only; omega⟩, hout⟩
    · rw [if_neg g1] at hx ⊢
      by_cases g2 : H.size - B < x ∧ x ≤ H.size - B + n.toNat
      · rw [if_pos g2] at hx ⊢
        have e4 : B + x = H.size + 1 + (x - (H.size - B) - 1) := by omega
        rw [e4]
        refine ⟨hsz _ (by have := hS.1; omega), hwl _ (by omega) (by omega), ⟨h79.2, by dsimp only; omega⟩, hrow _ (by omega)⟩
      · rw [if_neg g2] at hx ⊢
        obtain ⟨q1, q2, q3, q4⟩ := hw.2.2 x hx
        exact ⟨q1, q2, q3, lat_kept q4 (hold _ q4.lt)⟩
  have hh := kk (H.size - B) F.heap (fun j _ => hw.2.2.free (by omega)) ⟨hw.1.kept (fun k q hk => hold _ (hw.1 k q hk).lt), hw.2.1, hLH⟩
    ⟨by rw [f1]; have := hS.1; omega, fun x h1 h2 => (hold x (Nat.lt_of_lt_of_le h1 hS.1)).trans (hS.2.1 x h1 h2), hS.2.2⟩
  rw [e3] at hh
  have hh2 := W.widen (cells := kc + 1 + n.toNat) (slots := 52 * kc + n.toNat + n.toNat * k.toNat) (k := kc + (n.toNat + 1)) (n := 52 * (kc + (n.toNat + 1))) (by omega) (by omega) hh
  obtain ⟨t, a1, b1⟩ := hh2 F rfl X'
  refine ⟨t, step t ?_, b1⟩
  have e : T.heap.size = H.size := by rw [hT]
  rw [e]
  exact a1
end StepsH
