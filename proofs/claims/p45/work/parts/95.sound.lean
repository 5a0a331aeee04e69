/-! Steps of the pure machine are steps of the machine. -/
def tysL (cA : Nat → ClassId) : List (ClassId × FieldType) := [(cA 1, .int), (cA 2, .long), (cA 3, .array .int), (cA 4, .array .long), (cA 5, .object RX0)]
/-- the words of the text as literals, and what the methods of texts read -/
def wStr (sg : Nat → Nat) (Aw : Nat → Prop) (U : State) : Prop :=
  (∀ j : Nat, 1 ≤ j → j ≤ 5 → va_O "java/lang/String" (sg j) Aw U U.heap ∧ va_OF "java/lang/String" "coder" "B" (.int 0) (sg j) Aw U U.heap ∧ ∃ t, va_OF "java/lang/String" "value" "[B" (.ref t) (sg j) Aw U U.heap ∧ va_T .byte t (wordL j).length (fun i => .int (Int32.ofInt ((wordL j).getD i 0))) Aw U U.heap) ∧
  va_Z "java/lang/String" "COMPACT_STRINGS" "Z" (.int 1) Aw U U.heap ∧ va_Zq "jdk/internal/util/Preconditions" "SIOOBE_FORMATTER" "Ljava/util/function/BiFunction;" Aw U U.heap
theorem wStr.warm {sg : Nat → Nat} {Aw : Nat → Prop} {s U : State} (ha : s.vm.Alike U.vm) (hq : ∀ q : Nat, q < s.heap.size → ¬ Aw q → U.heap[q]? = s.heap[q]?) (h : wStr sg Aw s) : wStr sg Aw U := by
  obtain ⟨h1, h2, h3⟩ := h
  refine ⟨fun j hj hk => ?_, (h2.moved ha).kept hq, (h3.moved ha).kept hq⟩
  obtain ⟨g1, g2, t, g3, g4⟩ := h1 j hj hk
  exact ⟨(g1.moved ha).kept hq, (g2.moved ha).kept hq, t, (g3.moved ha).kept hq, (g4.moved ha).kept hq⟩
/-- what holds of the tables and of what nobody writes -/
def wFix (sg : Nat → Nat) (cA : Nat → ClassId) (D : va_G) (Aw : Nat → Prop) (U : State) : Prop :=
  va_K D gCl (tysL cA) U ∧ va_Z "Queueward$Big" "POWERS" "[I" (.ref (sg 0)) Aw U U.heap ∧ va_T .int (sg 0) 9 (fun j => .int (Int32.ofInt (10 ^ j))) Aw U U.heap ∧
  (∀ (own : String) (k : Nat) (tx : String), Cond.stringRef own k tx ∈ lw_tbl → ∃ a, vk_R own k tx a U) ∧ ((∀ j k : Nat, 1 ≤ j → j ≤ 5 → Cond.stringRef RX10 k (wTx j) ∈ lw_tbl → vk_R RX10 k (wTx j) (sg j) U) ∧ wStr sg Aw U) ∧
  vx_Zq Bundle.tN "UNASSIGNED_STACK" Bundle.steD Aw U U.heap ∧ vx_Zq Bundle.tN "SUPPRESSED_SENTINEL" Bundle.listD Aw U U.heap ∧
  (∀ (own : String) (k : Nat) (y : MethodName) (h : String), Cond.methodLinkNest own k y h ∈ lw_tbl → va_Nw (.methodLinkNest own k y h) U) ∧ (∀ C T : String, Cond.castable C T ∈ lw_tbl → va_Nw (.castable C T) U) ∧ (∀ x : MethodName, Cond.declares x ∈ lw_tbl → va_Nw (.declares x) U)
def wPic (ρ sg : Nat → Nat) (cA : Nat → ClassId) (D : va_G) (Aw : Nat → Prop) (M : Mem) (U : State) : Prop :=
  va_P D gCl (wWs ρ cA M) U.heap ∧ va_D Aw (wWs ρ cA M) ∧ (∀ q : Nat, U.heap.size ≤ q → Aw q) ∧ wFix sg cA D Aw U
theorem wFix.warm {sg : Nat → Nat} {cA : Nat → ClassId} {D : va_G} {Aw : Nat → Prop} {s U : State} (hW : s.WarmedH U.vm) (hq : ∀ q : Nat, q < s.heap.size → ¬ Aw q → U.heap[q]? = s.heap[q]?) (h : wFix sg cA D Aw s) : wFix sg cA D Aw U := by
  obtain ⟨h1, h2, h3, h4, h5, h6, h7, h8, h9, h10⟩ := h
  have ha := hW.alike
  refine ⟨h1.moved ha, (h2.moved ha).kept hq, (h3.moved ha).kept hq, fun own k tx hm => ?_, ⟨fun j k hj hk hm => (h5.1 j k hj hk hm).warm hW, h5.2.warm ha hq⟩, (h6.moved ha).kept hq, (h7.moved ha).kept hq, fun own k y h hm => (h8 own k y h hm).warmM hW, fun C T hm => (h9 C T hm).warmC hW, fun x hm => (h10 x hm).warmD hW⟩
  obtain ⟨a, ha⟩ := h4 own k tx hm
  exact ⟨a, ha.warm hW⟩
def wP0 (ρ : Nat → Nat) (cA : Nat → ClassId) (D : va_G) (Aw : Nat → Prop) (M : Mem) (H : Heap) : Prop := va_P D gCl (wWs ρ cA M) H ∧ va_D Aw (wWs ρ cA M) ∧ (∀ q : Nat, H.size ≤ q → Aw q)
def Qcf (ρ sg : Nat → Nat) (cA : Nat → ClassId) (D : va_G) (Aw : Nat → Prop) (rk : Nat) (Q : Rs → Mem → Prop) : Array Value → State → Outcome → State → Prop := match rk with
  | 0 => va_Qv (fun M' : Mem => Q (.inl 0) M') (fun M' t => wP0 ρ cA D Aw M' t.heap) Aw
  | 2 => va_Ql (fun r (M' : Mem) => ∃ x, r = Int64.ofInt x ∧ Q (.inl x) M') (fun M' t => wP0 ρ cA D Aw M' t.heap) Aw
  | _ => va_Qi (fun r (M' : Mem) => ∃ x, r = Int32.ofInt x ∧ Q (.inl x) M') (fun M' t => wP0 ρ cA D Aw M' t.heap) Aw
def XCf (ρ sg : Nat → Nat) (cA : Nat → ClassId) (D : va_G) (Aw : Nat → Prop) (Q : Rs → Mem → Prop) : String → State → State → Prop :=
  vx_X (fun u : Nat × Mem => Q (.inr u.1) u.2) (fun E u t => E = exN u.1 ∧ wP0 ρ cA D Aw u.2 t.heap) Aw
def rmd (d km : Nat) : Room := { frames := d + 8, cells := km, slots := 6 * km, locals := 60 * d + 200 }
abbrev wsI (f : Inf) : List Cond := Cond.code f.2.1 f.2.2.1 f.2.2.2.1 f.2.2.2.2.1 :: LW
/-- what a call's answer says of the machine -/
def SoundC (l : Launch) (ρ sg : Nat → Nat) (cA : Nat → ClassId) (D : va_G) (Aw : Nat → Prop) (d y : Nat) (a : List PV) (M : Mem) (Q : Rs → Mem → Prop) : Prop :=
  ∀ f : Inf, nth infs y = some f → vx_Met l f.2.1 (wsI f) (rmd d f.2.2.2.2.2.1.2.2.1) (va_Pc (a.map (cpv ρ sg)) (fun U => wPic ρ sg cA D Aw M U)) (Qcf ρ sg cA D Aw f.2.2.2.2.2.1.2.1 Q) (XCf ρ sg cA D Aw Q) f.2.2.2.2.2.1.2.2.1 (6 * f.2.2.2.2.2.1.2.2.1) Aw
def HypM (p : Program) (l : Launch) (R : Room) (s : State) (m : MethodId) (args : Array Value) (meth : Method) (c : Code) (sg : Nat → Nat) (cA : Nat → ClassId) (D : va_G) (Aw : Nat → Prop) (own : String) (bytes : ByteArray) (maxL km : Nat) (ret : Option FieldType) (dp : Nat) : Prop :=
  p.tables.exec = Jvm.exec ∧ c.code = bytes ∧ meth.sig.returnType = ret ∧ c.maxLocals = maxL ∧ s.vm.findClass own = some m.cls ∧ meth.locks = false ∧ (∀ w ∈ LW, w.before args s = true) ∧ (∀ x ∈ c.exceptionTable.toList, False) ∧ wFix sg cA D Aw s ∧ (∀ q : Nat, s.heap.size ≤ q → Aw q) ∧ l.stackTraces = false ∧ R.cells = km ∧ R.slots = 6 * km ∧ (maxL ≤ 40 ∧ dp + 9 ≤ R.frames ∧ 60 * dp + 260 ≤ R.locals)
/-- the machine at a place of the pure one -/
def PW (p : Program) (l : Launch) (e : Env) (R : Room) (s : State) (m : MethodId) (args : Array Value) (below : List Frame) (meth : Method) (c : Code) (ρ sg : Nat → Nat) (cA : Nat → ClassId) (D : va_G) (Aw : Nat → Prop) (maxL km : Nat) (pcs : List Nat) (rk : Nat) (Q : Rs → Mem → Prop) : Kt := fun ip kc lo st M =>
  kc ≤ km → ∀ (H : Heap) (locs : List Loc) (ls : Array Slot), LR ρ sg ls maxL lo → va_P D gCl (wWs ρ cA M) H → va_D Aw (wWs ρ cA M) → va_S Aw s.heap H locs →
    W p l e R s m args below meth c H locs kc (6 * kc) (vx_MQ below (Qcf ρ sg cA D Aw rk Q) (XCf ρ sg cA D Aw Q) args s km (6 * km) Aw) (F0 m (pcN pcs ip) ls (st.map (cpv ρ sg)))
theorem gI_of {o : Option (Option PV)} {f : Int → Prop} (h : gI o f) : ∃ x, o = some (some (.inl x)) ∧ f x := by
  unfold gI at h; split at h
  · exact ⟨_, rfl, h⟩
  · exact h.elim
theorem gL_of {o : Option (Option PV)} {f : Int → Prop} (h : gL o f) : ∃ x, o = some (some (.inr (.inl x))) ∧ f x := by
  unfold gL at h; split at h
  · exact ⟨_, rfl, h⟩
  · exact h.elim
theorem gR_of {o : Option (Option PV)} {f : Sum Nat Nat → Prop} (h : gR o f) : ∃ x, o = some (some (.inr (.inr x))) ∧ f x := by
  unfold gR at h; split at h
  · exact ⟨_, rfl, h⟩
  · exact h.elim
theorem pI_of {st : PS} {f : Int → PS → Prop} (h : pI st f) : ∃ x r, st = .inl x :: r ∧ f x r := by
  unfold pI at h; split at h
  · exact ⟨_, _, rfl, h⟩
  · exact h.elim
theorem pL_of {st : PS} {f : Int → PS → Prop} (h : pL st f) : ∃ x r, st = .inr (.inl x) :: r ∧ f x r := by
  unfold pL at h; split at h
  · exact ⟨_, _, rfl, h⟩
  · exact h.elim
theorem pR_of {st : PS} {f : Sum Nat Nat → PS → Prop} (h : pR st f) : ∃ x r, st = .inr (.inr x) :: r ∧ f x r := by
  unfold pR at h; split at h
  · exact ⟨_, _, rfl, h⟩
  · exact h.elim
theorem pO_of {st : PS} {f : Nat → PS → Prop} (h : pO st f) : ∃ x r, st = .inr (.inr (.inl x)) :: r ∧ f x r := by
  unfold pO at h; split at h
  · exact ⟨_, _, rfl, h⟩
  · exact h.elim
theorem guardB_of {b : Bool} {p : Prop} (h : guardB b p) : b = true ∧ p := by
  unfold guardB at h; split at h
  · exact ⟨rfl, h⟩
  · exact h.elim
theorem isE_of {r : PS} {p : Prop} (h : isE r p) : r = [] ∧ p := by
  unfold isE at h; split at h
  · exact ⟨rfl, h⟩
  · exact h.elim
section Steps1
variable {p : Program} {l : Launch} {e : Env} {R : Room} {s : State} {m : MethodId} {args : Array Value} {below : List Frame} {meth : Method} {c : Code}
variable {ρ sg : Nat → Nat} {cA : Nat → ClassId} {D : va_G} {Aw : Nat → Prop} {own : String} {bytes : ByteArray} {maxL km : Nat} {ret : Option FieldType} {pcs : List Nat} {rk : Nat} {Q : Rs → Mem → Prop}
variable {Z : State → Prop} {H : Heap} {locs : List Loc} {ls : Array Slot} {kc sl : Nat} {rest : List Value} {pc : Nat} {H0 : Heap} {M : Mem}
/-- a jump that compares -/
theorem w_icmp {cc : ByteArray} (hx : p.tables.exec = Jvm.exec) (hb : c.code = cc) {x y : Int} (rx : R32 x) (ry : R32 y) {cn : Jvm.ClassFile.Cond} {off : Int} {tgt : Nat} (hd : decode cc pc = .ok (.if_icmp cn off, 3)) (ht : (pc : Int) + off = (tgt : Int))
    (kt : relc cn x y → W p l e R s m args below meth c H locs kc sl Z (F0 m tgt ls rest)) (kf : ¬ relc cn x y → W p l e R s m args below meth c H locs kc sl Z (F0 m (pc + 3) ls rest)) : W p l e R s m args below meth c H locs kc sl Z (F0 m pc ls (.int (Int32.ofInt y) :: .int (Int32.ofInt x) :: rest)) := by
  cases cn
  case eq => exact lv_icmp_eq hx hb hd ht (fun h => kt ((z32_eq rx ry).mp h)) (fun h => kf fun q => h ((z32_eq rx ry).mpr q))
  case ne => exact lv_icmp_ne hx hb hd ht (fun h => kt fun q => h ((z32_eq rx ry).mpr q)) (fun h => kf fun q => q ((z32_eq rx ry).mp h))
  case lt => exact lv_icmp_lt hx hb hd ht (fun h => kt ((z32_lt rx ry).mp h)) (fun h => kf fun q => h ((z32_lt rx ry).mpr q))
  case ge => exact lv_icmp_ge hx hb hd ht (fun h => kt ((z32_le ry rx).mp h)) (fun h => kf fun q => h ((z32_le ry rx).mpr q))
  case gt => exact lv_icmp_gt hx hb hd ht (fun h => kt ((z32_lt ry rx).mp h)) (fun h => kf fun q => h ((z32_lt ry rx).mpr q))
  case le => exact lv_icmp_le hx hb hd ht (fun h => kt ((z32_le rx ry).mp h)) (fun h => kf fun q => h ((z32_le rx ry).mpr q))
theorem w_if {cc : ByteArray} (hx : p.tables.exec = Jvm.exec) (hb : c.code = cc) {x : Int} (rx : R32 x) {cn : Jvm.ClassFile.Cond} {off : Int} {tgt : Nat} (hd : decode cc pc = .ok (.ifCond cn off, 3)) (ht : (pc : Int) + off = (tgt : Int))
    (kt : relc cn x 0 → W p l e R s m args below meth c H locs kc sl Z (F0 m tgt ls rest)) (kf : ¬ relc cn x 0 → W p l e R s m args below meth c H locs kc sl Z (F0 m (pc + 3) ls rest)) : W p l e R s m args below meth c H locs kc sl Z (F0 m pc ls (.int (Int32.ofInt x) :: rest)) := by
  have ry := r32_0
  cases cn
  case eq => exact lv_if_eq hx hb hd ht (fun h => kt ((z32_eq rx ry).mp h)) (fun h => kf fun q => h ((z32_eq rx ry).mpr q))
  case ne => exact lv_if_ne hx hb hd ht (fun h => kt fun q => h ((z32_eq rx ry).mpr q)) (fun h => kf fun q => q ((z32_eq rx ry).mp h))
  case lt => exact lv_if_lt hx hb hd ht (fun h => kt ((z32_lt rx ry).mp h)) (fun h => kf fun q => h ((z32_lt rx ry).mpr q))
  case ge => exact lv_if_ge hx hb hd ht (fun h => kt ((z32_le ry rx).mp h)) (fun h => kf fun q => h ((z32_le ry rx).mpr q))
  case gt => exact lv_if_gt hx hb hd ht (fun h => kt ((z32_lt ry rx).mp h)) (fun h => kf fun q => h ((z32_lt ry rx).mpr q))
  case le => exact lv_if_le hx hb hd ht (fun h => kt ((z32_le rx ry).mp h)) (fun h => kf fun q => h ((z32_le rx ry).mpr q))
/-- comparing longs and the jump behind it -/
theorem w_lcmp {cc : ByteArray} (hx : p.tables.exec = Jvm.exec) (hb : c.code = cc) {x y : Int} (rx : R64 x) (ry : R64 y) {b : Nat} {off : Int} {tgt : Nat} (hd : decode cc pc = .ok (.lcmp, 1)) (hd2 : decode cc (pc + 1) = .ok (.ifCond (cndN b) off, 3)) (ht : ((pc + 1 : Nat) : Int) + off = (tgt : Int))
    (kt : relN b x y → W p l e R s m args below meth c H locs kc sl Z (F0 m tgt ls rest)) (kf : ¬ relN b x y → W p l e R s m args below meth c H locs kc sl Z (F0 m (pc + 4) ls rest)) : W p l e R s m args below meth c H locs kc sl Z (F0 m pc ls (.long (Int64.ofInt y) :: .long (Int64.ofInt x) :: rest)) := by
  refine W.lcmp hx hb hd ?_
  rcases b with _ | _ | _ | _ | _ | b
  · exact lv_if_eq hx hb hd2 ht (fun h => kt ((z64_eq rx ry).mp ((lg_cmp_eq _ _).mp h))) (fun h => kf fun q => h ((lg_cmp_eq _ _).mpr ((z64_eq rx ry).mpr q)))
  · exact lv_if_ne hx hb hd2 ht (fun h => kt fun q => h ((lg_cmp_eq _ _).mpr ((z64_eq rx ry).mpr q))) (fun h => kf fun q => q ((z64_eq rx ry).mp ((lg_cmp_eq _ _).mp h)))
  · exact lv_if_lt hx hb hd2 ht (fun h => kt ((z64_lt rx ry).mp ((lg_cmp_lt _ _).mp h))) (fun h => kf fun q => h ((lg_cmp_lt _ _).mpr ((z64_lt rx ry).mpr q)))
  · exact lv_if_ge hx hb hd2 ht (fun h => kt ((z64_le ry rx).mp ((lg_cmp_ge _ _).mp h))) (fun h => kf fun q => h ((lg_cmp_ge _ _).mpr ((z64_le ry rx).mpr q)))
  · exact lv_if_gt hx hb hd2 ht (fun h => kt ((z64_lt ry rx).mp ((lg_cmp_gt _ _).mp h))) (fun h => kf fun q => h ((lg_cmp_gt _ _).mpr ((z64_lt ry rx).mpr q)))
  · exact lv_if_le hx hb hd2 ht (fun h => kt ((z64_le rx ry).mp ((lg_cmp_le _ _).mp h))) (fun h => kf fun q => h ((lg_cmp_le _ _).mpr ((z64_le rx ry).mpr q)))
end Steps1
