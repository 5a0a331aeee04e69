/-! The pure machine: values are whole numbers (unreduced), a memory is a row of numbers for each cell by its number; what refers to what never changes and stands in the world (wOb, wAk, wAl, wRf). -/
abbrev PV : Type := Sum Int (Sum Int (Sum Nat Nat))
abbrev Mem : Type := Nat → Nat → Int
abbrev PL : Type := List (Option PV)
abbrev PS : Type := List PV
abbrev Rs : Type := Sum Int Nat
abbrev Kt : Type := Nat → Nat → PL → PS → Mem → Prop
abbrev GI : Type := Jvm.ClassFile.Instr × (Nat × Nat × Nat × Nat) × Int × List Nat
abbrev Cal : Type := Nat → List PV → Mem → (Rs → Mem → Prop) → Prop
/-- code, kind of the return, cells that it may make, locals, class of this (0: static) -/
abbrev MI : Type := List GI × Nat × Nat × Nat × Nat
def nth {α : Type} : List α → Nat → Option α
  | [], _ => none
  | a :: _, 0 => some a
  | _ :: l, n + 1 => nth l n
def sr (f : Nat → Int) (k : Nat) (v : Int) : Nat → Int := fun j => if j = k then v else f j
def sm (M : Mem) (a : Nat) (f : Nat → Int) : Mem := fun b => if b = a then f else M b
def upd2 (M : Mem) (a k : Nat) (v : Int) : Mem := sm M a (sr (M a) k v)
def clr (o : Option PV) : Option PV := match o with
  | some (.inr (.inl _)) => none
  | x => x
def stN : Nat → PV → PL → PL
  | 0, v, l => match l with
    | _ :: r => some v :: r
    | [] => []
  | n + 1, v, l => match l with
    | a :: r => (match n with
      | 0 => clr a
      | _ => a) :: stN n v r
    | [] => []
def st2N : Nat → PV → PL → PL
  | 0, v, l => match l with
    | _ :: _ :: r => some v :: none :: r
    | _ => []
  | n + 1, v, l => match l with
    | a :: r => (match n with
      | 0 => clr a
      | _ => a) :: st2N n v r
    | [] => []
abbrev st1 (l : PL) (n : Nat) (v : PV) : PL := stN n v l
abbrev st2 (l : PL) (n : Nat) (v : PV) : PL := st2N n v l
def gI (o : Option (Option PV)) (f : Int → Prop) : Prop := match o with
  | some (some (.inl x)) => f x
  | _ => False
def gL (o : Option (Option PV)) (f : Int → Prop) : Prop := match o with
  | some (some (.inr (.inl x))) => f x
  | _ => False
def gR (o : Option (Option PV)) (f : Sum Nat Nat → Prop) : Prop := match o with
  | some (some (.inr (.inr x))) => f x
  | _ => False
def pI (st : PS) (f : Int → PS → Prop) : Prop := match st with
  | .inl x :: r => f x r
  | _ => False
def pL (st : PS) (f : Int → PS → Prop) : Prop := match st with
  | .inr (.inl x) :: r => f x r
  | _ => False
def pR (st : PS) (f : Sum Nat Nat → PS → Prop) : Prop := match st with
  | .inr (.inr x) :: r => f x r
  | _ => False
def pO (st : PS) (f : Nat → PS → Prop) : Prop := match st with
  | .inr (.inr (.inl x)) :: r => f x r
  | _ => False
abbrev R32 (x : Int) : Prop := -2147483648 ≤ x ∧ x < 2147483648
abbrev R64 (x : Int) : Prop := -9223372036854775808 ≤ x ∧ x < 9223372036854775808
def relc (c : Jvm.ClassFile.Cond) (x y : Int) : Prop := match c with
  | .eq => x = y
  | .ne => ¬ x = y
  | .lt => x < y
  | .ge => y ≤ x
  | .gt => y < x
  | .le => x ≤ y
def relN (c : Nat) (x y : Int) : Prop := match c with
  | 0 => x = y
  | 1 => ¬ x = y
  | 2 => x < y
  | 3 => y ≤ x
  | 4 => y < x
  | _ => x ≤ y
def zand (x y : Int) : Int := (((x % 4294967296).toNat &&& (y % 4294967296).toNat : Nat) : Int)
def zor (x y : Int) : Int := (((x % 4294967296).toNat ||| (y % 4294967296).toNat : Nat) : Int)
def zxor (x y : Int) : Int := (((x % 4294967296).toNat ^^^ (y % 4294967296).toNat : Nat) : Int)
def zandL (x y : Int) : Int := (((x % 18446744073709551616).toNat &&& (y % 18446744073709551616).toNat : Nat) : Int)
def zorL (x y : Int) : Int := (((x % 18446744073709551616).toNat ||| (y % 18446744073709551616).toNat : Nat) : Int)
def zush (x y : Int) : Int := (x % 4294967296) / 2 ^ y.toNat
def zushL (x y : Int) : Int := (x % 18446744073709551616) / 2 ^ y.toNat
def wsum : PS → Nat
  | [] => 0
  | .inr (.inl _) :: r => wsum r + 2
  | _ :: r => wsum r + 1
/-- nothing stands below -/
def isE (r : PS) (p : Prop) : Prop := match r with
  | [] => p
  | _ => False
def memN : Nat → List Nat → Bool
  | _, [] => false
  | a, b :: l => match Nat.beq a b with
    | true => true
    | false => memN a l
def guardB (b : Bool) (p : Prop) : Prop := match b with
  | true => p
  | false => False
abbrev Rt (r : Rs) (f : Int → Prop) (g : Nat → Prop) : Prop := match r with
  | .inl v => f v
  | .inr x => g x
def pushR (c : Nat) (v : Int) (st : PS) : PS := match c with
  | 0 => st
  | 2 => .inr (.inl v) :: st
  | _ => .inl v :: st
def swt (x : Int) (ip kc : Nat) (l : PL) (r : PS) (M : Mem) (K : Kt) : List Nat → Int → Prop
  | [], _ => K ip kc l r M
  | t :: ts, k => (x = k → K t kc l r M) ∧ (¬ x = k → swt x ip kc l r M K ts (k + 1))
/-- arraycopy: rows from a to b -/
def cpy (f g : Nat → Int) (sp dp n : Nat) : Nat → Int := fun j => if dp ≤ j ∧ j < dp + n then f (sp + (j - dp)) else g j
/-- the powers of ten that stand in a static row -/
def pw10 (i : Int) : Int := 10 ^ i.toNat
def stepG (cal : Cal) (rk km : Nat) (Q : Rs → Mem → Prop) (K : Kt) (g : GI) (ip kc : Nat) (l : PL) (st : PS) (M : Mem) : Prop :=
  match g with
  | (i, (a, b, c, d), k, ts) =>
    match i with
    | .iconst _ => K (ip + 1) kc l (.inl k :: st) M
    | .bipush _ => K (ip + 1) kc l (.inl k :: st) M
    | .sipush _ => K (ip + 1) kc l (.inl k :: st) M
    | .ldc _ => K (ip + 1) kc l (match c with | 0 => .inl k :: st | _ => .inr (.inr (.inr a)) :: st) M
    | .ldc_w _ => K (ip + 1) kc l (match c with | 0 => .inl k :: st | _ => .inr (.inr (.inr a)) :: st) M
    | .lconst _ => K (ip + 1) kc l (.inr (.inl k) :: st) M
    | .ldc2_w _ => K (ip + 1) kc l (.inr (.inl k) :: st) M
    | .iload_n _ => gI (nth l a) fun x => K (ip + 1) kc l (.inl x :: st) M
    | .iload _ => gI (nth l a) fun x => K (ip + 1) kc l (.inl x :: st) M
    | .lload_n _ => gL (nth l a) fun x => K (ip + 1) kc l (.inr (.inl x) :: st) M
    | .lload _ => gL (nth l a) fun x => K (ip + 1) kc l (.inr (.inl x) :: st) M
    | .aload_n _ => gR (nth l a) fun x => K (ip + 1) kc l (.inr (.inr x) :: st) M
    | .aload _ => gR (nth l a) fun x => K (ip + 1) kc l (.inr (.inr x) :: st) M
    | .istore_n _ => pI st fun x r => K (ip + 1) kc (st1 l a (.inl x)) r M
    | .istore _ => pI st fun x r => K (ip + 1) kc (st1 l a (.inl x)) r M
    | .lstore_n _ => pL st fun x r => K (ip + 1) kc (st2 l a (.inr (.inl x))) r M
    | .lstore _ => pL st fun x r => K (ip + 1) kc (st2 l a (.inr (.inl x))) r M
    | .astore_n _ => pR st fun x r => K (ip + 1) kc (st1 l a (.inr (.inr x))) r M
    | .astore _ => pR st fun x r => K (ip + 1) kc (st1 l a (.inr (.inr x))) r M
    | .iinc _ _ => gI (nth l a) fun x => K (ip + 1) kc (st1 l a (.inl (x + k))) st M
    | .iadd => pI st fun y r => pI r fun x r => K (ip + 1) kc l (.inl (x + y) :: r) M
    | .isub => pI st fun y r => pI r fun x r => K (ip + 1) kc l (.inl (x - y) :: r) M
    | .imul => pI st fun y r => pI r fun x r => K (ip + 1) kc l (.inl (x * y) :: r) M
    | .idiv => pI st fun y r => pI r fun x r => (0 ≤ x ∧ x < 2147483648) ∧ (0 < y ∧ y < 2147483648) ∧ K (ip + 1) kc l (.inl (x / y) :: r) M
    | .irem => pI st fun y r => pI r fun x r => (0 ≤ x ∧ x < 2147483648) ∧ (0 < y ∧ y < 2147483648) ∧ K (ip + 1) kc l (.inl (x % y) :: r) M
    | .ishl => pI st fun y r => pI r fun x r => (0 ≤ y ∧ y < 32) ∧ K (ip + 1) kc l (.inl (x * 2 ^ y.toNat) :: r) M
    | .ishr => pI st fun y r => pI r fun x r => R32 x ∧ (0 ≤ y ∧ y < 32) ∧ K (ip + 1) kc l (.inl (x / 2 ^ y.toNat) :: r) M
    | .iushr => pI st fun y r => pI r fun x r => (0 ≤ y ∧ y < 32) ∧ K (ip + 1) kc l (.inl (zush x y) :: r) M
    | .iand => pI st fun y r => pI r fun x r => K (ip + 1) kc l (.inl (zand x y) :: r) M
    | .ior => pI st fun y r => pI r fun x r => K (ip + 1) kc l (.inl (zor x y) :: r) M
    | .ixor => pI st fun y r => pI r fun x r => K (ip + 1) kc l (.inl (zxor x y) :: r) M
    | .ladd => pL st fun y r => pL r fun x r => K (ip + 1) kc l (.inr (.inl (x + y)) :: r) M
    | .lsub => pL st fun y r => pL r fun x r => K (ip + 1) kc l (.inr (.inl (x - y)) :: r) M
    | .lmul => pL st fun y r => pL r fun x r => K (ip + 1) kc l (.inr (.inl (x * y)) :: r) M
    | .ldiv => pL st fun y r => pL r fun x r => (0 ≤ x ∧ x < 9223372036854775808) ∧ (0 < y ∧ y < 9223372036854775808) ∧ K (ip + 1) kc l (.inr (.inl (x / y)) :: r) M
    | .lrem => pL st fun y r => pL r fun x r => (0 ≤ x ∧ x < 9223372036854775808) ∧ (0 < y ∧ y < 9223372036854775808) ∧ K (ip + 1) kc l (.inr (.inl (x % y)) :: r) M
    | .lneg => pL st fun x r => K (ip + 1) kc l (.inr (.inl (- x)) :: r) M
    | .lshl => pI st fun y r => pL r fun x r => (0 ≤ y ∧ y < 64) ∧ K (ip + 1) kc l (.inr (.inl (x * 2 ^ y.toNat)) :: r) M
    | .lushr => pI st fun y r => pL r fun x r => (0 ≤ y ∧ y < 64) ∧ K (ip + 1) kc l (.inr (.inl (zushL x y)) :: r) M
    | .land => pL st fun y r => pL r fun x r => K (ip + 1) kc l (.inr (.inl (zandL x y)) :: r) M
    | .lor => pL st fun y r => pL r fun x r => K (ip + 1) kc l (.inr (.inl (zorL x y)) :: r) M
    | .i2l => pI st fun x r => R32 x ∧ K (ip + 1) kc l (.inr (.inl x) :: r) M
    | .l2i => pL st fun x r => K (ip + 1) kc l (.inl x :: r) M
    | .lcmp => pL st fun y r => pL r fun x r => (R64 x ∧ R64 y) ∧ (relN b x y → K a kc l r M) ∧ (¬ relN b x y → K (ip + 2) kc l r M)
    | .if_icmp cn _ => pI st fun y r => pI r fun x r => (R32 x ∧ R32 y) ∧ (relc cn x y → K a kc l r M) ∧ (¬ relc cn x y → K (ip + 1) kc l r M)
    | .ifCond cn _ => pI st fun x r => R32 x ∧ (relc cn x 0 → K a kc l r M) ∧ (¬ relc cn x 0 → K (ip + 1) kc l r M)
    | .goto _ => K a kc l st M
    | .tableswitch _ _ _ _ => pI st fun x r => R32 x ∧ swt x a kc l r M K ts k
    | .getfield _ => pO st fun o r => wOb o = b + 1 ∧ (match c with
      | 0 => K (ip + 1) kc l (.inl (M o a) :: r) M
      | 2 => K (ip + 1) kc l (.inl (M o a) :: r) M
      | 1 => K (ip + 1) kc l (.inr (.inl (M o a)) :: r) M
      | _ => K (ip + 1) kc l (.inr (.inr (.inl (wRf b o a))) :: r) M)
    | .putfield _ => match c with
      | 0 => pI st fun x r => pO r fun o r => wOb o = b + 1 ∧ K (ip + 1) kc l r (upd2 M o a x)
      | 2 => pI st fun x r => pO r fun o r => wOb o = b + 1 ∧ (x = 0 ∨ x = 1) ∧ K (ip + 1) kc l r (upd2 M o a x)
      | 1 => pL st fun x r => pO r fun o r => wOb o = b + 1 ∧ K (ip + 1) kc l r (upd2 M o a x)
      | _ => False
    | .getstatic _ => K (ip + 1) kc l (.inr (.inr (.inr 0)) :: st) M
    | .iaload => pI st fun x r => pR r fun o r => match o with
      | .inl o => wAk o = 1 ∧ (0 ≤ x ∧ x < (wAl o : Int)) ∧ K (ip + 1) kc l (.inl (M o x.toNat) :: r) M
      | .inr 0 => (0 ≤ x ∧ x < 9) ∧ K (ip + 1) kc l (.inl (pw10 x) :: r) M
      | .inr (_ + 1) => False
    | .laload => pI st fun x r => pO r fun o r => wAk o = 2 ∧ (0 ≤ x ∧ x < (wAl o : Int)) ∧ K (ip + 1) kc l (.inr (.inl (M o x.toNat)) :: r) M
    | .aaload => pI st fun x r => pO r fun o r => 3 ≤ wAk o ∧ (0 ≤ x ∧ x < (wAl o : Int)) ∧ K (ip + 1) kc l (.inr (.inr (.inl (wRa o x.toNat))) :: r) M
    | .iastore => pI st fun v r => pI r fun x r => pO r fun o r => wAk o = 1 ∧ (0 ≤ x ∧ x < (wAl o : Int)) ∧ K (ip + 1) kc l r (upd2 M o x.toNat v)
    | .lastore => pL st fun v r => pI r fun x r => pO r fun o r => wAk o = 2 ∧ (0 ≤ x ∧ x < (wAl o : Int)) ∧ K (ip + 1) kc l r (upd2 M o x.toNat v)
    | .arraylength => pO st fun o r => 1 ≤ wAk o ∧ K (ip + 1) kc l (.inl (wAl o : Int) :: r) M
    | .dup => match st with
      | .inl x :: r => K (ip + 1) kc l (.inl x :: .inl x :: r) M
      | .inr (.inr x) :: r => K (ip + 1) kc l (.inr (.inr x) :: .inr (.inr x) :: r) M
      | _ => False
    | .dup2 => match st with
      | .inr (.inl x) :: r => K (ip + 1) kc l (.inr (.inl x) :: .inr (.inl x) :: r) M
      | .inl y :: .inr (.inr x) :: r => K (ip + 1) kc l (.inl y :: .inr (.inr x) :: .inl y :: .inr (.inr x) :: r) M
      | _ => False
    | .pop => pI st fun _ r => K (ip + 1) kc l r M
    | .pop2 => pL st fun _ r => K (ip + 1) kc l r M
    | .invokevirtual _ => guardB (Nat.ble (kc + d) km && Nat.ble (wsum (st.drop b)) 8 && Nat.ble b st.length) (cal a (st.take b).reverse M fun r M' => Rt r (fun v => K (ip + 1) (kc + d) l (pushR c v (st.drop b)) M') (fun x => Q (.inr x) M'))
    | .invokestatic _ => match c with
      | 4 => pI st fun n r => pI r fun dp r => pO r fun o2 r => pI r fun sp r => pO r fun o1 r => guardB (Nat.ble (wsum r) 8) <| wAk o1 = 1 ∧ wAk o2 = 1 ∧ ¬ o1 = o2 ∧ (0 ≤ n ∧ 0 ≤ sp ∧ 0 ≤ dp ∧ sp + n ≤ (wAl o1 : Int) ∧ dp + n ≤ (wAl o2 : Int)) ∧ K (ip + 1) kc l r (sm M o2 (cpy (M o1) (M o2) sp.toNat dp.toNat n.toNat))
      | 5 => pI st fun y r => pI r fun x r => guardB (Nat.ble (wsum r) 8) <| (R32 x ∧ R32 y) ∧ K (ip + 1) kc l (.inl (max x y) :: r) M
      | 6 => pI st fun y r => pI r fun x r => guardB (Nat.ble (wsum r) 8) <| (R32 x ∧ R32 y) ∧ K (ip + 1) kc l (.inl (min x y) :: r) M
      | 7 => pL st fun y r => pL r fun x r => guardB (Nat.ble (wsum r) 8) <| (R64 x ∧ R64 y) ∧ K (ip + 1) kc l (.inr (.inl (max x y)) :: r) M
      | _ => guardB (Nat.ble (kc + d) km && Nat.ble (wsum (st.drop b)) 8 && Nat.ble b st.length) (cal a (st.take b).reverse M fun r M' => Rt r (fun v => K (ip + 1) (kc + d) l (pushR c v (st.drop b)) M') (fun x => Q (.inr x) M'))
    | .ireturn => pI st fun x r => isE r (match rk with
      | 3 => (x = 0 ∨ x = 1) ∧ Q (.inl x) M
      | _ => Q (.inl x) M)
    | .lreturn => pL st fun x r => isE r (Q (.inl x) M)
    | .return_ => isE st (Q (.inl 0) M)
    | .new _ => guardB (Nat.ble (kc + 1) km && Nat.ble (wsum st) 8) (Q (.inr a) M)
    | _ => False
def stepT (cal : Cal) (mi : MI) (Q : Rs → Mem → Prop) (K : Kt) : Kt := fun ip kc l st M => match nth mi.1 ip with
  | none => False
  | some g => stepG cal mi.2.1 mi.2.2.1 Q K g ip kc l st M
/-- the least predicate that is closed under steps -/
def WX (cal : Cal) (mi : MI) (Q : Rs → Mem → Prop) : Kt := fun ip kc l st M => ∀ P : Kt, (∀ ip kc l st M, stepT cal mi Q P ip kc l st M → P ip kc l st M) → P ip kc l st M
def Cmono (cal : Cal) : Prop := ∀ (y : Nat) (a : List PV) (M : Mem) (Q Q' : Rs → Mem → Prop), (∀ r m, Q r m → Q' r m) → cal y a M Q → cal y a M Q'
theorem gI_mono {o : Option (Option PV)} {f g : Int → Prop} (h : ∀ x, f x → g x) : gI o f → gI o g := by
  unfold gI; split
  · exact h _
  · exact id
theorem gL_mono {o : Option (Option PV)} {f g : Int → Prop} (h : ∀ x, f x → g x) : gL o f → gL o g := by
  unfold gL; split
  · exact h _
  · exact id
theorem gR_mono {o : Option (Option PV)} {f g : Sum Nat Nat → Prop} (h : ∀ x, f x → g x) : gR o f → gR o g := by
  unfold gR; split
  · exact h _
  · exact id
theorem pI_mono {st : PS} {f g : Int → PS → Prop} (h : ∀ x r, f x r → g x r) : pI st f → pI st g := by
  unfold pI; split
  · exact h _ _
  · exact id
theorem pL_mono {st : PS} {f g : Int → PS → Prop} (h : ∀ x r, f x r → g x r) : pL st f → pL st g := by
  unfold pL; split
  · exact h _ _
  · exact id
theorem pR_mono {st : PS} {f g : Sum Nat Nat → PS → Prop} (h : ∀ x r, f x r → g x r) : pR st f → pR st g := by
  unfold pR; split
  · exact h _ _
  · exact id
theorem pO_mono {st : PS} {f g : Nat → PS → Prop} (h : ∀ x r, f x r → g x r) : pO st f → pO st g := by
  unfold pO; split
  · exact h _ _
  · exact id
theorem Rt_mono {r : Rs} {f f' : Int → Prop} {g g' : Nat → Prop} (h : ∀ x, f x → f' x) (h2 : ∀ x, g x → g' x) : Rt r f g → Rt r f' g' := by
  unfold Rt; split
  · exact h _
  · exact h2 _
theorem guardB_mono {b : Bool} {p q : Prop} (h : p → q) : guardB b p → guardB b q := by
  unfold guardB; split
  · exact h
  · exact id
theorem isE_mono {r : PS} {p q : Prop} (h : p → q) : isE r p → isE r q := by
  unfold isE; split
  · exact h
  · exact id
theorem swt_mono {x : Int} {ip kc : Nat} {l : PL} {r : PS} {M : Mem} {K K' : Kt} (h : ∀ ip kc l st M, K ip kc l st M → K' ip kc l st M) : ∀ (ts : List Nat) (k : Int), swt x ip kc l r M K ts k → swt x ip kc l r M K' ts k
  | [], _ => h _ _ _ _ _
  | t :: ts, k => fun q => ⟨fun e => h _ _ _ _ _ (q.1 e), fun e => swt_mono h ts _ (q.2 e)⟩
theorem imp_mono {c p q : Prop} (h : p → q) : (c → p) → (c → q) := fun f x => h (f x)
theorem stepG_mono {cal cal' : Cal} (hm : Cmono cal') (hc : ∀ y a M Q, cal y a M Q → cal' y a M Q) {rk km : Nat} {Q Q' : Rs → Mem → Prop} (hQ : ∀ r m, Q r m → Q' r m) {K K' : Kt} (hK : ∀ ip kc l st M, K ip kc l st M → K' ip kc l st M) (g : GI) (ip kc : Nat) (l : PL) (st : PS) (M : Mem) : stepG cal rk km Q K g ip kc l st M → stepG cal' rk km Q' K' g ip kc l st M := by
  have hinv : ∀ (a d b c : Nat) , guardB (Nat.ble (kc + d) km && Nat.ble (wsum (st.drop b)) 8 && Nat.ble b st.length) (cal a (st.take b).reverse M fun r M' => Rt r (fun v => K (ip + 1) (kc + d) l (pushR c v (st.drop b)) M') (fun x => Q (.inr x) M')) → guardB (Nat.ble (kc + d) km && Nat.ble (wsum (st.drop b)) 8 && Nat.ble b st.length) (cal' a (st.take b).reverse M fun r M' => Rt r (fun v => K' (ip + 1) (kc + d) l (pushR c v (st.drop b)) M') (fun x => Q' (.inr x) M')) := fun a d b c => guardB_mono fun h => hm _ _ _ _ _ (fun r m => Rt_mono (fun _ => hK _ _ _ _ _) (fun _ => hQ _ _)) (hc _ _ _ _ h)
  obtain ⟨i, ⟨a, b, c, d⟩, k, ts⟩ := g
  cases i
  case getfield =>
    refine pO_mono fun _ _ => And.imp id ?_
    rcases c with _ | _ | _ | c <;> exact hK _ _ _ _ _
  case putfield =>
    rcases c with _ | _ | _ | c
    · exact pI_mono fun _ _ => pO_mono fun _ _ => And.imp id (hK _ _ _ _ _)
    · exact pL_mono fun _ _ => pO_mono fun _ _ => And.imp id (hK _ _ _ _ _)
    · exact pI_mono fun _ _ => pO_mono fun _ _ => And.imp id (And.imp id (hK _ _ _ _ _))
    · exact id
  case iaload =>
    refine pI_mono fun _ _ => pR_mono fun o _ => ?_
    rcases o with o | _ | o
    · exact And.imp id (And.imp id (hK _ _ _ _ _))
    · exact And.imp id (hK _ _ _ _ _)
    · exact id
  case dup =>
    rcases st with _ | ⟨_ | _ | _, r⟩
    · exact id
    · exact hK _ _ _ _ _
    · exact id
    · exact hK _ _ _ _ _
  case dup2 =>
    rcases st with _ | ⟨_ | _ | _, _ | ⟨_ | _ | _, r⟩⟩ <;> first | exact id | exact hK _ _ _ _ _
  case ireturn =>
    refine pI_mono fun _ _ => isE_mono ?_
    rcases rk with _ | _ | _ | _ | rk <;> first | exact hQ _ _ | exact And.imp id (hQ _ _)
  case invokestatic =>
    rcases c with _ | _ | _ | _ | _ | _ | _ | _ | c
    case succ.succ.succ.succ.zero => exact pI_mono fun _ _ => pI_mono fun _ _ => pO_mono fun _ _ => pI_mono fun _ _ => pO_mono fun _ _ => guardB_mono (And.imp id (And.imp id (And.imp id (And.imp id (hK _ _ _ _ _)))))
    case succ.succ.succ.succ.succ.zero => exact pI_mono fun _ _ => pI_mono fun _ _ => guardB_mono (And.imp id (hK _ _ _ _ _))
    case succ.succ.succ.succ.succ.succ.zero => exact pI_mono fun _ _ => pI_mono fun _ _ => guardB_mono (And.imp id (hK _ _ _ _ _))
    case succ.succ.succ.succ.succ.succ.succ.zero => exact pL_mono fun _ _ => pL_mono fun _ _ => guardB_mono (And.imp id (hK _ _ _ _ _))
    all_goals exact hinv _ _ _ _
  case invokevirtual => exact hinv _ _ _ _
  case tableswitch => exact pI_mono fun _ _ => And.imp id (swt_mono hK _ _)
  case new => exact guardB_mono (hQ _ _)
  all_goals first
    | exact hK _ _ _ _ _
    | exact id
    | exact hQ _ _
    | exact gI_mono fun _ => hK _ _ _ _ _
    | exact gL_mono fun _ => hK _ _ _ _ _
    | exact gR_mono fun _ => hK _ _ _ _ _
    | exact pI_mono fun _ _ => hK _ _ _ _ _
    | exact pL_mono fun _ _ => hK _ _ _ _ _
    | exact pR_mono fun _ _ => hK _ _ _ _ _
    | exact pI_mono fun _ _ => pI_mono fun _ _ => hK _ _ _ _ _
    | exact pL_mono fun _ _ => pL_mono fun _ _ => hK _ _ _ _ _
    | exact pI_mono fun _ _ => pI_mono fun _ _ => And.imp id (hK _ _ _ _ _)
    | exact pI_mono fun _ _ => pI_mono fun _ _ => And.imp id (And.imp id (hK _ _ _ _ _))
    | exact pL_mono fun _ _ => pL_mono fun _ _ => And.imp id (And.imp id (hK _ _ _ _ _))
    | exact pI_mono fun _ _ => pL_mono fun _ _ => And.imp id (hK _ _ _ _ _)
    | exact pI_mono fun _ _ => And.imp id (hK _ _ _ _ _)
    | exact pL_mono fun _ _ => pL_mono fun _ _ => And.imp id (And.imp (imp_mono (hK _ _ _ _ _)) (imp_mono (hK _ _ _ _ _)))
    | exact pI_mono fun _ _ => pI_mono fun _ _ => And.imp id (And.imp (imp_mono (hK _ _ _ _ _)) (imp_mono (hK _ _ _ _ _)))
    | exact pI_mono fun _ _ => And.imp id (And.imp (imp_mono (hK _ _ _ _ _)) (imp_mono (hK _ _ _ _ _)))
    | exact pI_mono fun _ _ => pO_mono fun _ _ => And.imp id (And.imp id (hK _ _ _ _ _))
    | exact pI_mono fun _ _ => pI_mono fun _ _ => pO_mono fun _ _ => And.imp id (And.imp id (hK _ _ _ _ _))
    | exact pL_mono fun _ _ => pI_mono fun _ _ => pO_mono fun _ _ => And.imp id (And.imp id (hK _ _ _ _ _))
    | exact pO_mono fun _ _ => And.imp id (hK _ _ _ _ _)
    | exact pL_mono fun _ _ => isE_mono (hQ _ _)
    | exact isE_mono (hQ _ _)
theorem stepT_mono {cal cal' : Cal} (hm : Cmono cal') (hc : ∀ y a M Q, cal y a M Q → cal' y a M Q) {mi : MI} {Q Q' : Rs → Mem → Prop} (hQ : ∀ r m, Q r m → Q' r m) {K K' : Kt} (hK : ∀ ip kc l st M, K ip kc l st M → K' ip kc l st M) (ip kc : Nat) (l : PL) (st : PS) (M : Mem) : stepT cal mi Q K ip kc l st M → stepT cal' mi Q' K' ip kc l st M := by
  unfold stepT
  cases nth mi.1 ip with
  | none => exact id
  | some g => exact stepG_mono hm hc hQ hK g ip kc l st M
theorem WX_mono {cal cal' : Cal} (hm : Cmono cal') (hc : ∀ y a M Q, cal y a M Q → cal' y a M Q) {mi : MI} {Q Q' : Rs → Mem → Prop} (hQ : ∀ r m, Q r m → Q' r m) (ip kc : Nat) (l : PL) (st : PS) (M : Mem) (h : WX cal mi Q ip kc l st M) : WX cal' mi Q' ip kc l st M :=
  fun P hP => h P fun ip kc l st M hs => hP _ _ _ _ _ (stepT_mono hm hc hQ (fun _ _ _ _ _ z => z) _ _ _ _ _ hs)
theorem WX_intro {cal : Cal} (hm : Cmono cal) {mi : MI} {Q : Rs → Mem → Prop} (ip kc : Nat) (l : PL) (st : PS) (M : Mem) (h : stepT cal mi Q (WX cal mi Q) ip kc l st M) : WX cal mi Q ip kc l st M :=
  fun P hP => hP _ _ _ _ _ (stepT_mono hm (fun _ _ _ _ z => z) (fun _ _ z => z) (fun _ _ _ _ _ z => z P hP) _ _ _ _ _ h)
/-- some steps on, up to the cuts -/
def blk (cal : Cal) (mi : MI) (Q : Rs → Mem → Prop) (cuts : List Nat) (K : Kt) : Nat → Kt
  | 0 => fun _ _ _ _ _ => False
  | n + 1 => stepT cal mi Q fun ip kc l st M => match memN ip cuts with
    | true => K ip kc l st M
    | false => blk cal mi Q cuts K n ip kc l st M
theorem blk_go {cal : Cal} (hm : Cmono cal) {mi : MI} {Q : Rs → Mem → Prop} {cuts : List Nat} : ∀ (n ip kc : Nat) (l : PL) (st : PS) (M : Mem), blk cal mi Q cuts (WX cal mi Q) n ip kc l st M → WX cal mi Q ip kc l st M
  | 0, _, _, _, _, _ => fun h => h.elim
  | n + 1, ip, kc, l, st, M => fun h => WX_intro hm _ _ _ _ _ (stepT_mono hm (fun _ _ _ _ z => z) (fun _ _ z => z) (fun ip kc l st M z => by
      revert z
      cases memN ip cuts with
      | true => exact id
      | false => exact blk_go hm n ip kc l st M) _ _ _ _ _ h)
def ent (c : Nat) (args : List PV) : Prop := match c with
  | 0 => True
  | c + 1 => match args with
    | .inr (.inr (.inl o)) :: _ => wOb o = c + 1
    | _ => False
def lay : List PV → PL
  | [] => []
  | .inr (.inl x) :: r => some (.inr (.inl x)) :: none :: lay r
  | v :: r => some v :: lay r
def padL : Nat → PL → PL
  | 0, l => l
  | n + 1, [] => none :: padL n []
  | n + 1, a :: l => a :: padL n l
/-- methods that are given by what they answer -/
abbrev Ext : Type := Nat → List PV → Mem → (Rs → Mem → Prop) → Prop
def calD (MT : Nat → Option MI) (ext : Ext) : Nat → Cal
  | 0 => fun _ _ _ _ => False
  | d + 1 => fun y args M Q => match MT y with
    | none => ext y args M Q
    | some mi => guardB (Nat.ble (wsum args) mi.2.2.2.1) (ent mi.2.2.2.2 args ∧ WX (calD MT ext d) mi Q 0 0 (padL mi.2.2.2.1 (lay args)) [] M)
theorem calD_mono (MT : Nat → Option MI) (ext : Ext) (he : Cmono ext) : ∀ d, Cmono (calD MT ext d)
  | 0 => fun _ _ _ _ _ _ h => h.elim
  | d + 1 => fun y a M Q Q' hQ => by
    unfold calD
    cases MT y with
    | none => exact he _ _ _ _ _ hQ
    | some mi => exact guardB_mono (And.imp id (WX_mono (calD_mono MT ext he d) (fun _ _ _ _ z => z) hQ _ _ _ _ _))
/-- deeper is no harm -/
theorem calD_le (MT : Nat → Option MI) (ext : Ext) (he : Cmono ext) : ∀ (d : Nat) (y : Nat) (a : List PV) (M : Mem) (Q : Rs → Mem → Prop), calD MT ext d y a M Q → calD MT ext (d + 1) y a M Q
  | 0 => fun _ _ _ _ h => h.elim
  | d + 1 => fun y a M Q => by
    intro h
    unfold calD at h ⊢
    cases hy : MT y with
    | none => rw [hy] at h; exact h
    | some mi => rw [hy] at h; exact guardB_mono (fun h => ⟨h.1, WX_mono (calD_mono MT ext he (d + 1)) (calD_le MT ext he d) (fun _ _ z => z) _ _ _ _ _ h.2⟩) h
