/-! new T[n][k] -/
theorem eh_out (c : ClassId) (N h0 : Nat) : ∀ i : Nat, Jvm.Free.Multi.outerC c N h0 i = arrV c N (fun j => va_rf (if j < i then some (h0 + 1 + j) else none))
  | 0 => by
    show ({ cls := c, slots := Array.replicate N .null, vm := .none } : Cell) = _
    rw [arrV_new]
    refine congrArg (arrV c N) (funext fun j => ?_)
    simp [va_rf]
  | i + 1 => by
    show (Jvm.Free.Multi.outerC c N h0 i).setSlot i (.ref (h0 + 1 + i)) = _
    rw [eh_out c N h0 i, arrV_store]
    refine congrArg (arrV c N) (funext fun j => ?_)
    by_cases e : j = i
    · subst e
      simp [updV, va_rf]
    · by_cases h : j < i
      · simp [updV, e, h, Nat.lt_succ_of_lt h]
      · simp [updV, e, h, show ¬ j < i + 1 by omega]
def gmna (g : Nat → va_E) (N : Nat) (a b : va_E) : Nat → va_E := fun q => if q < N then g q else if q = N then a else b
theorem gmna_lo {g : Nat → va_E} {N k : Nat} {a b : va_E} (h : k < N) : gmna g N a b k = g k := if_pos h
theorem gmna_eq {g : Nat → va_E} {N : Nat} {a b : va_E} : gmna g N a b N = a := (if_neg (Nat.lt_irrefl N)).trans (if_pos rfl)
theorem gmna_hi {g : Nat → va_E} {N k : Nat} {a b : va_E} (h : N < k) : gmna g N a b k = b := (if_neg (by omega)).trans (if_neg (by omega))
section EHM
variable {p : Program} {l : Launch} {e : Env} {R : Room} {s : State} {m : MethodId} {args : Array Value} {below : List Frame} {meth : Method} {c : Code} {H H0 : Heap} {locs : List Loc} {cells slots : Nat} {Q : State → Prop}
variable {cc : ByteArray} {pc : Nat} {ls : Array Slot} {rest : List Value} {D : va_G} {cA : Nat → ClassId} {B N : Nat} {g : Nat → va_E}
theorem eh_mna {own : String} {index : Nat} {ty : FieldType} {c1 c2 : ClassId} {z : vp_A} (hexec : p.tables.exec = Jvm.exec) (hb : c.code = cc) (hown : s.vm.findClass own = some m.cls) (hE : EH D B N g H) (hS : va_S (Al B) H0 H locs) (hclink : (Cond.classLink own index ("[" ++ (FieldType.array ty).toString)).before args s = true) (hover : (Cond.arrayOver (.array ty)).before args s = true) (harr : (Cond.arrayClass ty).before args s = true)
    (h1 : s.vm.findClass ("[" ++ (FieldType.array ty).toString) = some c1) (h2 : s.vm.findClass (FieldType.array ty).toString = some c2) {n k : Int32} {N' K' : Nat} (hn : ¬ n < 0) (hk : ¬ k < 0) (hN : n.toNatClampNeg = N') (hM : k.toNatClampNeg = K')
    (hb1 : N' * 4 ≤ 536870912) (hb2 : K' * componentBytes ty ≤ 536870912) (hb3 : K' ≤ 536870912) (hdf : fits ty (defaultValue ty) = true) (hdd : (defaultValue ty).isDefault = true) (hcells : cells + (1 + N') ≤ R.cells) (hslots : slots + (N' + N' * K') ≤ R.slots) (hz : ∀ c : ClassId, Jvm.Free.Multi.innerC c K' (defaultValue ty) = vp_cell c z) (hdg : decode cc pc = .ok (.multianewarray index 2, 4))
    (kk : ∀ H1 : Heap, EH D B (N + 1 + N') (gmna g N (.inl (c1, N', .inr (.inr (.inr (.inr (fun i => if i < N' then some (B + N + 1 + i) else none)))))) (.inl (c2, z))) H1 → va_S (Al B) H0 H1 locs →
      W p l e R s m args below meth c H1 locs (cells + 1 + N') (slots + N' + N' * K') Q (F0 m (pc + 4) ls (.ref (B + N) :: rest))) : W p l e R s m args below meth c H locs cells slots Q (F0 m pc ls (.int k :: .int n :: rest)) := by
  subst hN
  subst hM
  intro T hT Xs
  obtain ⟨vm₁, cO, comp, -, fA, fC, -, -, X', step⟩ := Xs.multianewarray2F hexec hown hclink hover harr (g := F0 m pc ls (.int k :: .int n :: rest)) rfl (by rw [hb]; exact hdg) rfl hn hk hb1 hb2 hb3 hdf hdd hcells hslots
  cases Option.some.inj (fA.symm.trans h1)
  cases Option.some.inj (fC.symm.trans h2)
  generalize hF : Jvm.Free.Multi.fill (T.setVm vm₁) c1 c2 n.toNatClampNeg k.toNatClampNeg (defaultValue ty) n.toNatClampNeg = F at X' step
  have hTh : (T.setVm vm₁).heap = H := hT
  obtain ⟨f1, f2, -, -⟩ := Jvm.Free.Multi.fill_facts (T.setVm vm₁) c1 c2 n.toNatClampNeg k.toNatClampNeg (defaultValue ty) n.toNatClampNeg
  rw [hF, hTh] at f1 f2
  have hold : ∀ x : Nat, x < H.size → F.heap[x]? = H[x]? := fun x hx => by
    have := Jvm.Free.Multi.fill_old (T.setVm vm₁) c1 c2 n.toNatClampNeg k.toNatClampNeg (defaultValue ty) (a := x) (by rw [hTh]; exact hx) n.toNatClampNeg
    rw [hF, hTh] at this
    exact this
  have hrow : ∀ j : Nat, j < n.toNatClampNeg → F.heap[H.size + 1 + j]? = some (vp_cell c2 z) := fun j hj => by
    have := Jvm.Free.Multi.fill_inner (T.setVm vm₁) c1 c2 n.toNatClampNeg k.toNatClampNeg (defaultValue ty) n.toNatClampNeg j hj
    rw [hF, hTh, hz] at this
    exact this
  have hout : Jvm.Free.Multi.outerC c1 n.toNatClampNeg H.size n.toNatClampNeg = vp_cell c1 (n.toNatClampNeg, .inr (.inr (.inr (.inr (fun i => if i < n.toNatClampNeg then some (H.size + 1 + i) else none))))) := by
    rw [vp_cell_q]
    exact eh_out c1 n.toNatClampNeg H.size n.toNatClampNeg
  rw [hout] at f2
  have hEq : EH D B (N + 1 + n.toNatClampNeg) (fun q => if q < N then g q else if q = N then .inl (c1, n.toNatClampNeg, .inr (.inr (.inr (.inr (fun i => if i < n.toNatClampNeg then some (B + N + 1 + i) else none))))) else .inl (c2, z)) F.heap := by
    refine ⟨by rw [f1, hE.1]; omega, fun q hq => ?_⟩
    by_cases h1 : q < N
    · simp only [if_pos h1]
      exact at_kept (hE.2 q h1) (hold _ (by rw [hE.1]; omega))
    · simp only [if_neg h1]
      by_cases h2 : q = N
      · subst h2
        simp only [if_true]
        show F.heap[B + q]? = some (vp_cell _ _)
        rw [← hE.1]
        exact f2
      · simp only [if_neg h2]
        show F.heap[B + q]? = some (vp_cell _ _)
        rw [show B + q = H.size + 1 + (q - N - 1) by rw [hE.1]; omega]
        exact hrow _ (by omega)
  have hh := kk F.heap hEq ⟨by rw [f1]; have := hS.1; omega, fun x h1 h2 => (hold x (Nat.lt_of_lt_of_le h1 hS.1)).trans (hS.2.1 x h1 h2), hS.2.2⟩
  rw [← hE.1] at hh
  obtain ⟨t, a1, b1⟩ := hh F rfl X'
  refine ⟨t, step t ?_, b1⟩
  have e : T.heap.size = H.size := by rw [hT]
  rw [e]
  exact a1
end EHM
