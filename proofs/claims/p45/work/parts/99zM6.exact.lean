/-! The first world, address by address: what stands from B on, N cells, told by g. -/
def EH (D : va_G) (B N : Nat) (g : Nat → va_E) (H : Heap) : Prop := H.size = B + N ∧ ∀ k : Nat, k < N → va_at D gCl (B + k, g k) H
/-- all from B on -/
abbrev Al (B : Nat) : Nat → Prop := fun q => B ≤ q
def gup (g : Nat → va_E) (i : Nat) (e : va_E) : Nat → va_E := fun k => if k = i then e else g k
theorem gup_same {g : Nat → va_E} {i : Nat} {e : va_E} : gup g i e i = e := if_pos rfl
theorem gup_ne {g : Nat → va_E} {i k : Nat} {e : va_E} (h : k ≠ i) : gup g i e k = g k := if_neg h
theorem at_one {D : va_G} {q : Nat} {e : va_E} {H : Heap} (h : va_at D gCl (q, e) H) : va_P D gCl [(q, e)] H := fun k x hx => by
  cases k with
  | zero => cases hx; exact h
  | succ k => simp at hx
theorem at_kept {D : va_G} {q : Nat} {e : va_E} {H H1 : Heap} (h : va_at D gCl (q, e) H) (h1 : H1[q]? = H[q]?) : va_at D gCl (q, e) H1 :=
  ((at_one h).kept (fun k x hx => by
    cases k with
    | zero => cases hx; exact h1
    | succ k => simp at hx)) 0 _ rfl
theorem EH.push {D : va_G} {B N : Nat} {g : Nat → va_E} {H H1 : Heap} {e : va_E} (h : EH D B N g H) (hz : H1.size = H.size + 1) (ho : ∀ q : Nat, q < H.size → H1[q]? = H[q]?) (he : va_at D gCl (H.size, e) H1) : EH D B (N + 1) (gup g N e) H1 := by
  refine ⟨by rw [hz, h.1]; rfl, fun k hk => ?_⟩
  by_cases e2 : k = N
  · subst e2
    rw [gup_same, ← h.1]
    exact he
  · rw [gup_ne e2]
    exact at_kept (h.2 k (by omega)) (ho _ (by rw [h.1]; omega))
theorem EH.set {D : va_G} {B N : Nat} {g : Nat → va_E} {H H1 : Heap} {i : Nat} {e : va_E} (h : EH D B N g H) (hz : H1.size = H.size) (ho : ∀ q : Nat, q ≠ B + i → H1[q]? = H[q]?) (he : va_at D gCl (B + i, e) H1) : EH D B N (gup g i e) H1 := by
  refine ⟨by rw [hz, h.1], fun k hk => ?_⟩
  by_cases e2 : k = i
  · subst e2
    rw [gup_same]
    exact he
  · rw [gup_ne e2]
    exact at_kept (h.2 k hk) (ho _ (by omega))
theorem EH.at' {D : va_G} {B N : Nat} {g : Nat → va_E} {H : Heap} (h : EH D B N g H) {i : Nat} {e : va_E} (hi : i < N) (he : g i = e) : va_at D gCl (B + i, e) H := by
  have := h.2 i hi
  rw [he] at this
  exact this
theorem EH.moved {D : va_G} {B N : Nat} {g : Nat → va_E} {H H1 : Heap} (h : EH D B N g H) (e : H1 = H) : EH D B N g H1 := by rw [e]; exact h
section EHR
variable {p : Program} {l : Launch} {e : Env} {R : Room} {s : State} {m : MethodId} {args : Array Value} {below : List Frame} {meth : Method} {c : Code} {H H0 : Heap} {locs : List Loc} {cells slots : Nat} {Q : State → Prop}
variable {cc : ByteArray} {pc : Nat} {ls : Array Slot} {rest : List Value} {D : va_G} {cA : Nat → ClassId} {B N : Nat} {g : Nat → va_E}
theorem eh_new {own : String} {index b : Nat} (hexec : p.tables.exec = Jvm.exec) (hb : c.code = cc) (hts : ∀ w ∈ LW, w.before args s = true) (hown : s.vm.findClass own = some m.cls) (hK : va_K D gCl (tysL cA) s) (hE : EH D B N g H) (hS : va_S (Al B) H0 H locs) (b13 : b < 12) (hcl : Cond.classLink own index (clR b) ∈ LW) (hinst : Cond.instantiable (clR b) (gN b) ∈ LW) (hini : Cond.initialized (clR b) ∈ LW)
    {fs : List Value} (hfs : ∀ j, j < gN b → defaultValue (gTy b j) = vp_V fs j) (hcells : cells + 1 ≤ R.cells) (hslots : slots + gN b ≤ R.slots) (hdg : decode cc pc = .ok (.new index, 3))
    (kk : ∀ H1 : Heap, EH D B (N + 1) (gup g N (.inr (b, fs))) H1 → va_S (Al B) H0 H1 locs → W p l e R s m args below meth c H1 locs (cells + 1) (slots + gN b) Q (F0 m (pc + 3) ls (.ref (B + N) :: rest))) : W p l e R s m args below meth c H locs cells slots Q (F0 m pc ls rest) := by
  have hc := gCl_at b b13
  have hKn := hK.1 b _ hc
  refine W.newcK hexec hb hown (hts _ hcl) (hts _ hinst) (hts _ hini) rfl hdg hcells hslots hKn.2.1 rfl fun H1 kC hkC e1 z1 o1 => ?_
  have hh := kk H1 (hE.push z1 o1 ⟨_, hc, (u_born (gTy b) hts (uw_in b b13) hKn hkC e1 (gTy_ok b b13)).to hfs⟩) ⟨Nat.le_trans hS.1 (by omega), fun x h1 h2 => (o1 x (Nat.lt_of_lt_of_le h1 hS.1)).trans (hS.2.1 x h1 h2), hS.2.2⟩
  rw [← hE.1] at hh
  exact hh
theorem eh_newa (hexec : p.tables.exec = Jvm.exec) (hb : c.code = cc) (hts : ∀ w ∈ LW, w.before args s = true) (hK : va_K D gCl (tysL cA) s) (hE : EH D B N g H) (hS : va_S (Al B) H0 H locs) {atype : ArrayType} (harr : Cond.arrayClass (newarray.typeOf atype) ∈ LW) {t0 : Nat} {c1 : ClassId} (ht : (tysL cA)[t0]? = some (c1, newarray.typeOf atype))
    {n : Int32} {N' : Nat} {a0 : vp_A} (ha : ∀ x : ClassId, vp_cell x a0 = arrV x N' (fun _ => defaultValue (newarray.typeOf atype))) (hn : ¬ n < 0) (hN : n.toNatClampNeg = N') (hbytes : N' * componentBytes (newarray.typeOf atype) ≤ 536870912) (hcells : cells + 1 ≤ R.cells) (hslots : slots + N' ≤ R.slots) (hdg : decode cc pc = .ok (.newarray atype, 2))
    (kk : ∀ H1 : Heap, EH D B (N + 1) (gup g N (.inl (c1, a0))) H1 → va_S (Al B) H0 H1 locs → W p l e R s m args below meth c H1 locs (cells + 1) (slots + N') Q (F0 m (pc + 2) ls (.ref (B + N) :: rest))) : W p l e R s m args below meth c H locs cells slots Q (F0 m pc ls (.int n :: rest)) := by
  refine va_newaK hexec hb (hts _ harr) rfl hdg rfl hn hN hbytes hcells hslots rfl fun H1 c2 e1 z1 o1 _ hNm => ?_
  have h2 := (hK.2 t0 _ ht).2
  have hNm1 : s.vm.findClass ("[" ++ (newarray.typeOf atype).toString) = some c1 := by cases atype <;> exact h2
  have ec : c2 = c1 := Option.some.inj (hNm.symm.trans hNm1)
  subst ec
  have hh := kk H1 (hE.push z1 o1 (by show H1[H.size]? = some (vp_cell _ _); rw [ha]; exact e1)) ⟨Nat.le_trans hS.1 (by omega), fun x h1 h2 => (o1 x (Nat.lt_of_lt_of_le h1 hS.1)).trans (hS.2.1 x h1 h2), hS.2.2⟩
  rw [← hE.1] at hh
  exact hh
theorem eh_anew {own : String} {index : Nat} (hexec : p.tables.exec = Jvm.exec) (hb : c.code = cc) (hts : ∀ w ∈ LW, w.before args s = true) (hown : s.vm.findClass own = some m.cls) (hK : va_K D gCl (tysL cA) s) (hE : EH D B N g H) (hS : va_S (Al B) H0 H locs) (hcl : Cond.classLink own index RX0 ∈ LW) (hover : (Cond.arrayOver (.object RX0)).before args s = true)
    {n : Int32} {N' : Nat} (hn : ¬ n < 0) (hN : n.toNatClampNeg = N') (hbytes : N' * 4 ≤ 536870912) (hcells : cells + 1 ≤ R.cells) (hslots : slots + N' ≤ R.slots) (hdg : decode cc pc = .ok (.anewarray index, 3))
    (kk : ∀ H1 : Heap, EH D B (N + 1) (gup g N (.inl (cA 5, N', .inr (.inr (.inr (.inr (fun _ => none))))))) H1 → va_S (Al B) H0 H1 locs → W p l e R s m args below meth c H1 locs (cells + 1) (slots + N') Q (F0 m (pc + 3) ls (.ref (B + N) :: rest))) : W p l e R s m args below meth c H locs cells slots Q (F0 m pc ls (.int n :: rest)) := by
  subst hN
  refine W.anew hexec hb hown (hts _ hcl) hover rfl hdg rfl hn hbytes hcells hslots fun c2 kA comp f1 f2 f3 f4 => ?_
  generalize hH1 : H.push ({ cls := c2, slots := Array.replicate n.toNatClampNeg .null, vm := .none } : Cell) = H1
  have z1 : H1.size = H.size + 1 := by rw [← hH1, Array.size_push]
  have e1 : H1[H.size]? = some (arrV c2 n.toNatClampNeg (fun _ => .null)) := by rw [← hH1, Array.getElem?_push_size, ← arrV_new]
  have o1 : ∀ q : Nat, q < H.size → H1[q]? = H[q]? := fun q hq => by rw [← hH1, Array.getElem?_push, if_neg (Nat.ne_of_lt hq)]
  obtain ⟨-, -, -, -, -, h2⟩ := (hK.2 4 _ (show (tysL cA)[4]? = some (cA 5, .object RX0) from rfl)).2
  have ec : c2 = cA 5 := Option.some.inj (f1.symm.trans h2)
  subst ec
  have hh := kk H1 (hE.push z1 o1 (by show H1[H.size]? = some (vp_cell _ _); exact e1)) ⟨Nat.le_trans hS.1 (by omega), fun x h1 h2 => (o1 x (Nat.lt_of_lt_of_le h1 hS.1)).trans (hS.2.1 x h1 h2), hS.2.2⟩
  rw [← hE.1] at hh
  exact hh
theorem eh_put {own : String} {index b i k : Nat} (hexec : p.tables.exec = Jvm.exec) (hb : c.code = cc) (hts : ∀ w ∈ LW, w.before args s = true) (hown : s.vm.findClass own = some m.cls) (hK : va_K D gCl (tysL cA) s) (hE : EH D B N g H) (hS : va_S (Al B) H0 H locs) (b13 : b < 12) {fs : List Value} (hi0 : i < N) (he : g i = .inr (b, fs)) (hk : k < gN b) (hlink : Cond.fieldLink own index (gT b k).1 (gT b k).2.1 (gT b k).2.2.1 ∈ LW)
    {v : Value} (hfin : (gT b k).2.2.2 = false ∨ ((gT b k).2.2.2 = true ∧ meth.name = "<init>" ∧ (gT b k).1 = own)) (hn : narrow (gTy b k) v = v) (hfit : fits (gTy b k) v = true) (hl : k < fs.length) (hdg : decode cc pc = .ok (.putfield index, 3))
    (kk : ∀ (H1 : Heap) (locs1 : List Loc), EH D B N (gup g i (.inr (b, fs.set k v))) H1 → va_S (Al B) H0 H1 locs1 → W p l e R s m args below meth c H1 locs1 cells slots Q (F0 m (pc + 3) ls rest)) : W p l e R s m args below meth c H locs cells slots Q (F0 m pc ls (v :: .ref (B + i) :: rest)) := by
  have hc := gCl_at b b13
  have hin := uw_in b b13
  have hd := gTy_ok b b13 k hk
  have hap := va_apart (own := own) hts hin (gTy b) (gTy_ok b b13) (gNm_ok b b13) hK hc
  obtain ⟨r, h1, cell, q1, q2, q3, q4⟩ := hE.at' hi0 he
  have hr : r = (clR b, gT b, gN b) := Option.some.inj (h1.symm.trans hc)
  subst hr
  obtain ⟨hSl, hfc, kC, hkC, hkind⟩ := hK.1 b _ hc
  obtain ⟨cf, kf, fi, f, hi, hsl⟩ := hSl k hk
  have hlay := hts _ (hin _ (u_in_lay hk))
  unfold u_lay at hlay
  have hst := (u_facts hfc hkC (u_lays hts hin hk) hi).1
  rcases hfin with hfin | ⟨hfin, hin2, hdecl⟩
  · rw [if_neg (by rw [hfin]; decide)] at hlay
    have h6 := u_store hfc hkC hkind hlay hi hd hn hfit
    refine W.putK hexec hb (f := f) ⟨hown, hts _ hlink, ⟨_, _, _, hi⟩, hst⟩ (by rw [q2]; exact h6) q1 q3 (by rw [hsl]; exact k2_hasslot (q4 k hk)) rfl rfl hdg fun H' e1 e2 e3 => ?_
    rw [hsl] at e1 ⊢
    exact kk H' _ (hE.set e2 e3 ⟨_, hc, t_OB.to (V := updV (vp_V fs) k v) ⟨_, e1, q2, q3, t_set q4 hap hk v⟩ (fun j _ => vp_updV_set hl v j)⟩) (hS.put e2 e3 (show B ≤ B + i by omega))
  · rw [if_pos hfin] at hlay
    have hcf : m.cls = cf := by
      obtain ⟨_, _, c', _, _, _, -, -, hf', -, -, -, hown2, -⟩ := Cond.laysFinal_spec hlay
      have e1 : c' = cf := by have := hi.symm.trans hf'; simp at this; exact this.1.symm
      rw [hdecl] at hown2
      rw [← e1]; exact Option.some.inj (hown.symm.trans hown2)
    have h6 := u_fits hfc hkC hkind (Or.inr hlay) hi hd hn hfit
    refine W.putFinK hexec hb hown (hts _ hlink) hi hst hcf hin2 (by rw [q2]; exact h6) q1 q3 (by rw [hsl]; exact k2_hasslot (q4 k hk)) rfl rfl hdg fun H' e1 e2 e3 => ?_
    rw [hsl] at e1 ⊢
    exact kk H' _ (hE.set e2 e3 ⟨_, hc, t_OB.to (V := updV (vp_V fs) k v) ⟨_, e1, q2, q3, t_set q4 hap hk v⟩ (fun j _ => vp_updV_set hl v j)⟩) (hS.put e2 e3 (show B ≤ B + i by omega))
theorem eh_get {own : String} {index b i k : Nat} (hexec : p.tables.exec = Jvm.exec) (hb : c.code = cc) (hts : ∀ w ∈ LW, w.before args s = true) (hown : s.vm.findClass own = some m.cls) (hK : va_K D gCl (tysL cA) s) (hE : EH D B N g H) (b13 : b < 12) {fs : List Value} (hi0 : i < N) (he : g i = .inr (b, fs)) (hk : k < gN b) (hlink : Cond.fieldLink own index (gT b k).1 (gT b k).2.1 (gT b k).2.2.1 ∈ LW) {v : Value} (hv : fs[k]? = some v) (hdg : decode cc pc = .ok (.getfield index, 3))
    (kk : W p l e R s m args below meth c H locs cells slots Q (F0 m (pc + 3) ls (v :: rest))) : W p l e R s m args below meth c H locs cells slots Q (F0 m pc ls (.ref (B + i) :: rest)) :=
  va_get (D := D) (ci := b) (C := clR b) (T := gT b) (N := gN b) hexec hb hts (uw_in b b13) hown hK (at_one (hE.at' hi0 he)) 0 rfl (gCl_at b b13) k hk (hts _ hlink) (fun _ h9 => h9) hv hdg kk
theorem eh_iast {i : Nat} (hexec : p.tables.exec = Jvm.exec) (hb : c.code = cc) (hK : va_K D gCl (tysL cA) s) (hE : EH D B N g H) (hS : va_S (Al B) H0 H locs) {n : Nat} {f : Nat → Int32} (hi0 : i < N) (he : g i = .inl (cA 1, n, .inl f)) {j x : Int32} (hin : vp_in j n) (hdg : decode cc pc = .ok (.iastore, 1))
    (kk : ∀ (H1 : Heap) (locs1 : List Loc), EH D B N (gup g i (.inl (cA 1, n, .inl (upd f j.toNatClampNeg x)))) H1 → va_S (Al B) H0 H1 locs1 → W p l e R s m args below meth c H1 locs1 cells slots Q (F0 m (pc + 1) ls rest)) : W p l e R s m args below meth c H locs cells slots Q (F0 m pc ls (.int x :: .int j :: .ref (B + i) :: rest)) := by
  refine W.iast hexec hb (hE.at' hi0 he) ((hK.2 0 _ (show (tysL cA)[0]? = some (cA 1, .int) from rfl)).1 n (fun j => .int (f j))) (fun q => by cases q) (by show ¬ (j < 0 ∨ (arrV _ _ _).slots.size ≤ _); rw [arrV_size]; exact hin) rfl rfl hdg fun H1 e z oq => ?_
  refine kk H1 _ (hE.set z oq ?_) (hS.put z oq (show B ≤ B + i by omega))
  show H1[B + i]? = some (vp_cell _ _)
  rw [e]
  rw [vp_cell_i, vp_cell_i, arrV_store]
  congr 2
  funext q
  by_cases hq : q = j.toNatClampNeg
  · subst hq
    simp [updV, upd]
  · simp [updV, upd, hq]
theorem eh_aast {i v : Nat} (hexec : p.tables.exec = Jvm.exec) (hb : c.code = cc) (hK : va_K D gCl (tysL cA) s) (hE : EH D B N g H) (hS : va_S (Al B) H0 H locs) {n : Nat} {f : Nat → Option Nat} {fs : List Value} (hi0 : i < N) (he : g i = .inl (cA 5, n, .inr (.inr (.inr (.inr f))))) (hv0 : v < N) (hv : g v = .inr (0, fs)) {j : Int32} (hin : vp_in j n) (hdg : decode cc pc = .ok (.aastore, 1))
    (kk : ∀ (H1 : Heap) (locs1 : List Loc), EH D B N (gup g i (.inl (cA 5, n, .inr (.inr (.inr (.inr (va_up f j.toNatClampNeg (some (B + v))))))))) H1 → va_S (Al B) H0 H1 locs1 → W p l e R s m args below meth c H1 locs1 cells slots Q (F0 m (pc + 1) ls rest)) : W p l e R s m args below meth c H locs cells slots Q (F0 m pc ls (.ref (B + v) :: .int j :: .ref (B + i) :: rest)) := by
  have h0 : ¬ j < 0 := fun q => hin (Or.inl q)
  have hlt : j.toNatClampNeg < n := Nat.not_le.mp fun q => hin (Or.inr q)
  obtain ⟨r', hr', cellV, g1, g2, g3, -⟩ := hE.at' hv0 hv
  have hc := gCl_at 0 (by decide)
  have hcls := (hK.1 0 _ hc).2
  obtain ⟨kA, comp, k1, k2, k3, -⟩ := (hK.2 4 _ (show (tysL cA)[4]? = some (cA 5, .object RX0) from rfl)).2
  have hcomp : comp = D.1 0 := Option.some.inj (k3.symm.trans hcls.1)
  subst hcomp
  obtain ⟨kC, hkC, -⟩ := hcls.2
  refine W.aast hexec hb (hE.at' hi0 he) (fun q h => by cases h) (fun h => by cases h) k1 k2 rfl hkC ⟨h0, by show _ < (arrV _ _ _).slots.size; rw [arrV_size]; exact hlt⟩ g1 (fun q h => by rw [g3] at h; cases h) (by rw [g2]; exact hkC) (by rw [g2]; exact va_assign hcls) rfl rfl hdg fun H1 e z oq => ?_
  refine kk H1 _ (hE.set z oq ?_) (hS.put z oq (show B ≤ B + i by omega))
  show H1[B + i]? = some (vp_cell _ _)
  rw [e]
  rw [vp_cell_q, vp_cell_q, arrV_store]
  congr 2
  funext q
  by_cases hq : q = j.toNatClampNeg
  · subst hq
    simp [updV, va_up, va_rf]
  · simp [updV, va_up, hq]
end EHR
