/-! What new T[n][k] reads of the tables. -/
def AOA (ty : FieldType) (U : State) : Prop := (Cond.arrayOver (.array ty)).before #[] U = true
theorem AOA.use {ty : FieldType} {A : Array Value} {U : State} (h : AOA ty U) : (Cond.arrayOver (.array ty)).before A U = true := h
theorem AOA.of {ty : FieldType} {A : Array Value} {U : State} (h : (Cond.arrayOver (.array ty)).before A U = true) : AOA ty U := h
theorem idx_bare (P : Kind → Bool) (vm : Vm) : vm.bare.classes.findIdx? (fun x : Class => P x.kind) = vm.classes.findIdx? (fun x : Class => P x.kind) := by
  simp only [Vm.bare, Array.findIdx?_map]
  rfl
theorem idx_alike (P : Kind → Bool) {u U : Vm} (h : u.Alike U) : U.classes.findIdx? (fun x : Class => P x.kind) = u.classes.findIdx? (fun x : Class => P x.kind) := by
  rw [← idx_bare P U, ← idx_bare P u]
  first | rw [h.bare_eq] | rw [← h.bare_eq]
theorem AOA.moved {ty : FieldType} {u U : State} (hvm : u.vm.Alike U.vm) (h : AOA ty u) : AOA ty U := by
  obtain ⟨comp, c, k, h1, h2, h3, h4, h5⟩ := arrayOverA_spec h
  obtain ⟨k', hk', he⟩ := hvm.2.2 _ _ h3
  have hi := (idx_alike (fun kd => match kd with | .array component _ => component == comp | _ => false) hvm).trans h2
  have hkind : k'.kind = .array comp (.array ty) := by rw [he]; exact h4
  have f1 : U.vm.findClass (FieldType.array ty).toString = some comp := by rw [hvm.findClass]; exact h1
  have f2 : U.vm.findClass ("[" ++ (FieldType.array ty).toString) = some c := by rw [hvm.findClass]; exact h5
  unfold AOA Cond.before Cond.holds
  simp only [Cond.value]
  rw [f1, Option.bind_some]
  have hz : ∀ o : Option Nat, o = some c → ((o.bind (fun c => (U.vm.classes[c]?).map fun (k : Class) => match k.kind with | .array _ t => decide (t = FieldType.array ty) && decide (U.vm.findClass ("[" ++ (FieldType.array ty).toString) = some c) | _ => false)) == some true) = true := fun o ho => by
    rw [ho]
    simp [hk', hkind, f2]
  exact hz _ hi
