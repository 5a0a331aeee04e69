/-! The law's machine: as the class's, and with arrays that it makes. A cell is its kind (1 ints, 2 longs, 3 booleans, 4 rows of ints, 5 rows of booleans, 6 rows of longs, 7 rows of those; 0: nothing known there), its length, what it holds (a reference: 0 none, q + 1 the cell q). -/
abbrev LCel : Type := Nat × Nat × (Nat → Int)
abbrev LMem : Type := Nat → LCel
abbrev LQ : Type := Int → Mem → LMem → Prop
abbrev LKt : Type := Nat → Nat → PL → PS → Mem → LMem → Prop
abbrev LCal : Type := Nat → List PV → Mem → LMem → LQ → Prop
def cst (C : LMem) (q : Nat) (x : LCel) : LMem := fun k => if k = q then x else C k
def cup (C : LMem) (q i : Nat) (v : Int) : LMem := cst C q ((C q).1, (C q).2.1, sr (C q).2.2 i v)
/-- n rows of m, and the row of them ahead -/
def cmn (C : LMem) (q n kd ke m : Nat) : LMem := fun k => if k = q then (kd, n, fun j => if j < n then ((q + 1 + j + 1 : Nat) : Int) else 0) else if q < k ∧ k ≤ q + n then (ke, m, fun _ => 0) else C k
/-- a reference that is one: the cell -/
def cellAt (n : Nat) (f : Nat → Prop) : Prop := match n with
  | 0 => False
  | q + 1 => f q
def pC (st : PS) (f : Nat → PS → Prop) : Prop := match st with
  | .inr (.inr (.inl n)) :: r => cellAt n fun q => f q r
  | _ => False
def gX (o : Option (Option PV)) (f : Nat → Prop) : Prop := match o with
  | some (some (.inr (.inr (.inr (k + 1))))) => f (k + 1)
  | _ => False
/-- a reference that is no text -/
def gRn (o : Option (Option PV)) (f : Sum Nat Nat → Prop) : Prop := match o with
  | some (some (.inr (.inr (.inl n)))) => f (.inl n)
  | some (some (.inr (.inr (.inr 0)))) => f (.inr 0)
  | _ => False
def pRn (st : PS) (f : Sum Nat Nat → PS → Prop) : Prop := match st with
  | .inr (.inr (.inl n)) :: r => f (.inl n) r
  | .inr (.inr (.inr 0)) :: r => f (.inr 0) r
  | _ => False
def hAr (as : List PV) (f : List PV → Prop) : Prop := match as with
  | .inr (.inr (.inr 0)) :: r => f r
  | _ => False
/-- the object alone stands there -/
def isH (st : PS) (p : Prop) : Prop := match st with
  | [.inr (.inr (.inr 0))] => p
  | _ => False
/-- no text among them -/
def noTx : List PV → Bool
  | [] => true
  | .inr (.inr (.inr (_ + 1))) :: _ => false
  | _ :: r => noTx r
/-- arguments of the class's calls: numbers alone -/
def numA : List PV → Bool
  | [] => true
  | .inl _ :: r => numA r
  | .inr (.inl _) :: r => numA r
  | _ => false
def lcost (n : Nat) : Nat := n / 52 + 1
def elK (k : Nat) : Nat := match k with
  | 4 => 1
  | 5 => 3
  | 6 => 2
  | 7 => 6
  | _ => 0
def pushL (c : Nat) (v : Int) (st : PS) : PS := match c with
  | 0 => st
  | 2 => .inr (.inl v) :: st
  | 4 => .inr (.inr (.inl v.toNat)) :: st
  | _ => .inl v :: st
/-- the reference n may stand in a row of the kind k -/
def codeOk (C : LMem) (n k : Nat) : Prop := match n with
  | 0 => True
  | v + 1 => (C v).1 = elK k
def Rl (r : Rs) (f : Int → Prop) : Prop := match r with
  | .inl v => f v
  | .inr _ => False
theorem Rl_mono {r : Rs} {f f' : Int → Prop} (h : ∀ x, f x → f' x) : Rl r f → Rl r f' := by
  unfold Rl; split
  · exact h _
  · exact id
def digT (v : Nat) : List Int := if v < 10 then [48 + v] else if v < 100 then [48 + (v / 10 : Nat), 48 + (v % 10 : Nat)] else [48 + (v / 100 : Nat), 48 + (v / 10 % 10 : Nat), 48 + (v % 10 : Nat)]
/-- the texts: the five words, and numbers with a 0 ahead or without -/
def txL (k : Nat) : List Int := if k < 6 then wordL k else if (k - 6) % 2 = 1 then 48 :: digT ((k - 6) / 2) else digT ((k - 6) / 2)
/-- the number that a text is made of: a local, or a place of a row -/
def sbArg (C : LMem) (l : PL) (a b c : Nat) (k : Int) (f : Int → Prop) : Prop := match c with
  | 0 => gI (nth l a) f
  | _ => gR (nth l a) fun o => match o with
    | .inl n => cellAt n fun q => gI (nth l b) fun i => (C q).1 = 1 ∧ (0 ≤ i + k ∧ i + k < ((C q).2.1 : Int)) ∧ f ((C q).2.2 (i + k).toNat)
    | .inr _ => False
/-- what a call of mean, of doneShare asks: that the class's answer is x by n -/
abbrev MacS : Type := Nat → Mem → Int → Int → (Mem → Prop) → Prop
/-- puts, of a text -/
def putT (cal : LCal) (K : LKt) (km kc t : Nat) (ts : List Nat) (l : PL) (st : PS) (M : Mem) (C : LMem) : Prop := match ts with
  | [_, pn, ipA, cost] => guardB (Nat.ble (wsum (st.drop 3)) 8 && Nat.ble 3 st.length && noTx (st.take 3)) (kc + cost ≤ km ∧ cal pn ((st.take 3).reverse ++ [.inr (.inr (.inr t))]) M C fun v M' C' => K ipA (kc + cost) l (.inl v :: st.drop 3) M' C')
  | _ => False
def stepL (mac : MacS) (cal : LCal) (cc : Cal) (rk km : Nat) (Q : LQ) (K : LKt) (g : GI) (ip kc : Nat) (l : PL) (st : PS) (M : Mem) (C : LMem) : Prop :=
  match g with
  | (i, (a, b, c, d), k, ts) =>
    match i with
    | .iconst _ => K (ip + 1) kc l (.inl k :: st) M C
    | .bipush _ => K (ip + 1) kc l (.inl k :: st) M C
    | .sipush _ => K (ip + 1) kc l (.inl k :: st) M C
    | .ldc _ => match c with
      | 0 => K (ip + 1) kc l (.inl k :: st) M C
      | _ => putT cal K km kc a ts l st M C
    | .ldc_w _ => match c with
      | 0 => K (ip + 1) kc l (.inl k :: st) M C
      | _ => putT cal K km kc a ts l st M C
    | .lconst _ => K (ip + 1) kc l (.inr (.inl k) :: st) M C
    | .ldc2_w _ => K (ip + 1) kc l (.inr (.inl k) :: st) M C
    | .iload_n _ => gI (nth l a) fun x => K (ip + 1) kc l (.inl x :: st) M C
    | .iload _ => gI (nth l a) fun x => K (ip + 1) kc l (.inl x :: st) M C
    | .lload_n _ => gL (nth l a) fun x => K (ip + 1) kc l (.inr (.inl x) :: st) M C
    | .lload _ => gL (nth l a) fun x => K (ip + 1) kc l (.inr (.inl x) :: st) M C
    | .aload_n _ => match c with
      | 0 => gRn (nth l a) fun x => K (ip + 1) kc l (.inr (.inr x) :: st) M C
      | 7 => gX (nth l a) fun t => guardB (Nat.ble (wsum st) 8) <| K (ip + 1) kc l (.inl ((txL t).length : Int) :: st) M C
      | _ => gX (nth l a) fun t => gI (nth l b) fun x => guardB (Nat.ble (wsum st) 8) <| (0 ≤ x ∧ x < ((txL t).length : Int)) ∧ K (ip + 1) kc l (.inl ((txL t).getD x.toNat 0) :: st) M C
    | .aload _ => gRn (nth l a) fun x => K (ip + 1) kc l (.inr (.inr x) :: st) M C
    | .istore_n _ => pI st fun x r => K (ip + 1) kc (st1 l a (.inl x)) r M C
    | .istore _ => pI st fun x r => K (ip + 1) kc (st1 l a (.inl x)) r M C
    | .lstore_n _ => pL st fun x r => K (ip + 1) kc (st2 l a (.inr (.inl x))) r M C
    | .lstore _ => pL st fun x r => K (ip + 1) kc (st2 l a (.inr (.inl x))) r M C
    | .astore_n _ => pRn st fun x r => K (ip + 1) kc (st1 l a (.inr (.inr x))) r M C
    | .astore _ => pRn st fun x r => K (ip + 1) kc (st1 l a (.inr (.inr x))) r M C
    | .iinc _ _ => gI (nth l a) fun x => K (ip + 1) kc (st1 l a (.inl (x + k))) st M C
    | .iadd => pI st fun y r => pI r fun x r => K (ip + 1) kc l (.inl (x + y) :: r) M C
    | .isub => pI st fun y r => pI r fun x r => K (ip + 1) kc l (.inl (x - y) :: r) M C
    | .imul => pI st fun y r => pI r fun x r => K (ip + 1) kc l (.inl (x * y) :: r) M C
    | .ineg => pI st fun x r => K (ip + 1) kc l (.inl (- x) :: r) M C
    | .irem => pI st fun y r => pI r fun x r => (0 ≤ x ∧ x < 2147483648) ∧ (0 < y ∧ y < 2147483648) ∧ K (ip + 1) kc l (.inl (x % y) :: r) M C
    | .ishl => pI st fun y r => pI r fun x r => (0 ≤ y ∧ y < 32) ∧ K (ip + 1) kc l (.inl (x * 2 ^ y.toNat) :: r) M C
    | .ishr => pI st fun y r => pI r fun x r => R32 x ∧ (0 ≤ y ∧ y < 32) ∧ K (ip + 1) kc l (.inl (x / 2 ^ y.toNat) :: r) M C
    | .iushr => pI st fun y r => pI r fun x r => (0 ≤ y ∧ y < 32) ∧ K (ip + 1) kc l (.inl (zush x y) :: r) M C
    | .iand => pI st fun y r => pI r fun x r => K (ip + 1) kc l (.inl (zand x y) :: r) M C
    | .ior => pI st fun y r => pI r fun x r => K (ip + 1) kc l (.inl (zor x y) :: r) M C
    | .ixor => pI st fun y r => pI r fun x r => K (ip + 1) kc l (.inl (zxor x y) :: r) M C
    | .ladd => pL st fun y r => pL r fun x r => K (ip + 1) kc l (.inr (.inl (x + y)) :: r) M C
    | .lsub => pL st fun y r => pL r fun x r => K (ip + 1) kc l (.inr (.inl (x - y)) :: r) M C
    | .lmul => pL st fun y r => pL r fun x r => K (ip + 1) kc l (.inr (.inl (x * y)) :: r) M C
    | .ldiv => pL st fun y r => pL r fun x r => (-9223372036854775808 < x ∧ x < 9223372036854775808) ∧ (R64 y ∧ ¬ y = 0) ∧ K (ip + 1) kc l (.inr (.inl (x.tdiv y)) :: r) M C
    | .lrem => pL st fun y r => pL r fun x r => (-9223372036854775808 < x ∧ x < 9223372036854775808) ∧ (R64 y ∧ ¬ y = 0) ∧ K (ip + 1) kc l (.inr (.inl (x.tmod y)) :: r) M C
    | .lneg => pL st fun x r => K (ip + 1) kc l (.inr (.inl (- x)) :: r) M C
    | .lshl => pI st fun y r => pL r fun x r => (0 ≤ y ∧ y < 64) ∧ K (ip + 1) kc l (.inr (.inl (x * 2 ^ y.toNat)) :: r) M C
    | .lor => pL st fun y r => pL r fun x r => K (ip + 1) kc l (.inr (.inl (zorL x y)) :: r) M C
    | .i2l => pI st fun x r => R32 x ∧ K (ip + 1) kc l (.inr (.inl x) :: r) M C
    | .lcmp => pL st fun y r => pL r fun x r => (R64 x ∧ R64 y) ∧ (relN b x y → K a kc l r M C) ∧ (¬ relN b x y → K (ip + 2) kc l r M C)
    | .if_icmp cn _ => pI st fun y r => pI r fun x r => (R32 x ∧ R32 y) ∧ (relc cn x y → K a kc l r M C) ∧ (¬ relc cn x y → K (ip + 1) kc l r M C)
    | .ifCond cn _ => pI st fun x r => R32 x ∧ (relc cn x 0 → K a kc l r M C) ∧ (¬ relc cn x 0 → K (ip + 1) kc l r M C)
    | .goto _ => K a kc l st M C
    | .aconst_null => K (ip + 1) kc l (.inr (.inr (.inl 0)) :: st) M C
    | .ifnull _ => pO st fun n r => (n = 0 → K a kc l r M C) ∧ (¬ n = 0 → K (ip + 1) kc l r M C)
    | .ifnonnull _ => pO st fun n r => (¬ n = 0 → K a kc l r M C) ∧ (n = 0 → K (ip + 1) kc l r M C)
    | .newarray _ => pI st fun n r => (0 ≤ n ∧ n < 10000) ∧ kc + lcost n.toNat ≤ km ∧ ∀ q, (C q).1 = 0 → K (ip + 1) (kc + lcost n.toNat) l (.inr (.inr (.inl (q + 1))) :: r) M (cst C q (c, n.toNat, fun _ => 0))
    | .anewarray _ => pI st fun n r => (0 ≤ n ∧ n < 10000) ∧ kc + lcost n.toNat ≤ km ∧ ∀ q, (C q).1 = 0 → K (ip + 1) (kc + lcost n.toNat) l (.inr (.inr (.inl (q + 1))) :: r) M (cst C q (c, n.toNat, fun _ => 0))
    | .multianewarray _ _ => pI st fun m r => pI r fun n r => ((0 ≤ n ∧ n < 50) ∧ (0 ≤ m ∧ m < 50)) ∧ kc + (n.toNat + 1) ≤ km ∧ ∀ q, (∀ j, j ≤ n.toNat → (C (q + j)).1 = 0) → K (ip + 1) (kc + (n.toNat + 1)) l (.inr (.inr (.inl (q + 1))) :: r) M (cmn C q n.toNat c (elK c) m.toNat)
    | .iaload => pI st fun x r => pC r fun q r => (C q).1 = 1 ∧ (0 ≤ x ∧ x < ((C q).2.1 : Int)) ∧ K (ip + 1) kc l (.inl ((C q).2.2 x.toNat) :: r) M C
    | .laload => pI st fun x r => pC r fun q r => (C q).1 = 2 ∧ (0 ≤ x ∧ x < ((C q).2.1 : Int)) ∧ K (ip + 1) kc l (.inr (.inl ((C q).2.2 x.toNat)) :: r) M C
    | .baload => pI st fun x r => pC r fun q r => (C q).1 = 3 ∧ (0 ≤ x ∧ x < ((C q).2.1 : Int)) ∧ K (ip + 1) kc l (.inl ((C q).2.2 x.toNat) :: r) M C
    | .aaload => pI st fun x r => pC r fun q r => (4 ≤ (C q).1 ∧ (C q).1 ≤ 7) ∧ (0 ≤ x ∧ x < ((C q).2.1 : Int)) ∧ K (ip + 1) kc l (.inr (.inr (.inl ((C q).2.2 x.toNat).toNat)) :: r) M C
    | .iastore => pI st fun v r => pI r fun x r => pC r fun q r => (C q).1 = 1 ∧ (0 ≤ x ∧ x < ((C q).2.1 : Int)) ∧ K (ip + 1) kc l r M (cup C q x.toNat v)
    | .lastore => pL st fun v r => pI r fun x r => pC r fun q r => (C q).1 = 2 ∧ (0 ≤ x ∧ x < ((C q).2.1 : Int)) ∧ K (ip + 1) kc l r M (cup C q x.toNat v)
    | .bastore => pI st fun v r => pI r fun x r => pC r fun q r => (C q).1 = 3 ∧ (0 ≤ x ∧ x < ((C q).2.1 : Int)) ∧ (v = 0 ∨ v = 1) ∧ K (ip + 1) kc l r M (cup C q x.toNat v)
    | .aastore => pO st fun v r => pI r fun x r => pC r fun q r => (4 ≤ (C q).1 ∧ (C q).1 ≤ 7) ∧ (0 ≤ x ∧ x < ((C q).2.1 : Int)) ∧ codeOk C v (C q).1 ∧ K (ip + 1) kc l r M (cup C q x.toNat (v : Int))
    | .arraylength => pC st fun q r => (1 ≤ (C q).1 ∧ (C q).1 ≤ 7) ∧ K (ip + 1) kc l (.inl ((C q).2.1 : Int) :: r) M C
    | .dup => match st with
      | .inl x :: r => K (ip + 1) kc l (.inl x :: .inl x :: r) M C
      | .inr (.inr x) :: r => K (ip + 1) kc l (.inr (.inr x) :: .inr (.inr x) :: r) M C
      | _ => False
    | .dup2 => match st with
      | .inr (.inl x) :: r => K (ip + 1) kc l (.inr (.inl x) :: .inr (.inl x) :: r) M C
      | .inl y :: .inr (.inr x) :: r => K (ip + 1) kc l (.inl y :: .inr (.inr x) :: .inl y :: .inr (.inr x) :: r) M C
      | _ => False
    | .pop => pI st fun _ r => K (ip + 1) kc l r M C
    | .invokestatic _ => match c with
      | 8 => pL st fun x r => guardB (Nat.ble (wsum r) 8) <| (-9223372036854775808 < x ∧ x < 9223372036854775808) ∧ K (ip + 1) kc l (.inr (.inl (x.natAbs : Int)) :: r) M C
      | 9 => pL st fun x r => guardB (Nat.ble (wsum r) 8) <| R64 x ∧ K (ip + 1) kc l (.inl x.sign :: r) M C
      | _ => guardB (Nat.ble (wsum (st.drop b)) 8 && Nat.ble b st.length && noTx (st.take b)) <| kc + d ≤ km ∧ cal a (st.take b).reverse M C fun v M' C' => K (ip + 1) (kc + d) l (pushL c v (st.drop b)) M' C'
    | .invokevirtual _ => match c with
      | 5 => isH st <| gI (nth l a) fun x => gR (nth l b) fun o => match o with
        | .inl n => cellAt n fun q => (C q).1 = 1 ∧ 0 < (C q).2.1 ∧ mac 5 M x ((C q).2.2 0) fun M' => K d kc l [] M' C
        | .inr _ => False
      | 6 => isH st <| gI (nth l a) fun x => gR (nth l b) fun o => match o with
        | .inl n => cellAt n fun q => (C q).1 = 1 ∧ 0 < (C q).2.1 ∧ mac 6 M x ((C q).2.2 0) fun M' => K d kc l [] M' C
        | .inr _ => False
      | _ => guardB (Nat.ble (wsum (st.drop b)) 8 && Nat.ble b st.length) <| kc + d ≤ km ∧ hAr (st.take b).reverse fun as => guardB (numA as) <| cc a (.inr (.inr (.inl kQ)) :: as) M fun r M' => Rl r fun v => K (ip + 1) (kc + d) l (pushR c v (st.drop b)) M' C
    | .new _ => guardB (Nat.ble (wsum st) 7) <| sbArg C l a b c k fun x => (0 ≤ x ∧ x < 1000) ∧ putT cal K km kc (2 * x.toNat + d + 5 + 1) ts l st M C
    | .ireturn => pI st fun x r => isE r (match rk with
      | 3 => (x = 0 ∨ x = 1) ∧ Q x M C
      | _ => Q x M C)
    | .lreturn => pL st fun x r => isE r (Q x M C)
    | .areturn => pO st fun n r => isE r (Q (n : Int) M C)
    | _ => False
def stepTL (mac : MacS) (cal : LCal) (cc : Cal) (mi : MI) (Q : LQ) (K : LKt) : LKt := fun ip kc l st M C => match nth mi.1 ip with
  | none => False
  | some g => stepL mac cal cc mi.2.1 mi.2.2.1 Q K g ip kc l st M C
def WL (mac : MacS) (cal : LCal) (cc : Cal) (mi : MI) (Q : LQ) : LKt := fun ip kc l st M C => ∀ P : LKt, (∀ ip kc l st M C, stepTL mac cal cc mi Q P ip kc l st M C → P ip kc l st M C) → P ip kc l st M C
def LCmono (cal : LCal) : Prop := ∀ (y : Nat) (a : List PV) (M : Mem) (C : LMem) (Q Q' : LQ), (∀ r m c, Q r m c → Q' r m c) → cal y a M C Q → cal y a M C Q'
def Mmono (mac : MacS) : Prop := ∀ (y : Nat) (M : Mem) (x z : Int) (F F' : Mem → Prop), (∀ m, F m → F' m) → mac y M x z F → mac y M x z F'
theorem cellAt_mono {n : Nat} {f g : Nat → Prop} (h : ∀ q, f q → g q) : cellAt n f → cellAt n g := by
  unfold cellAt; split
  · exact id
  · exact h _
theorem cellAt_of {n q : Nat} {f : Nat → Prop} (e : n = q + 1) (h : f q) : cellAt n f := by subst e; exact h
theorem cellAt_get {n : Nat} {f : Nat → Prop} (h : cellAt n f) : ∃ q, n = q + 1 ∧ f q := by
  unfold cellAt at h; split at h
  · exact h.elim
  · exact ⟨_, rfl, h⟩
theorem pC_mono {st : PS} {f g : Nat → PS → Prop} (h : ∀ x r, f x r → g x r) : pC st f → pC st g := by
  unfold pC; split
  · exact cellAt_mono fun _ => h _ _
  · exact id
theorem gX_mono {o : Option (Option PV)} {f g : Nat → Prop} (h : ∀ x, f x → g x) : gX o f → gX o g := by
  unfold gX; split
  · exact h _
  · exact id
theorem gRn_mono {o : Option (Option PV)} {f g : Sum Nat Nat → Prop} (h : ∀ x, f x → g x) : gRn o f → gRn o g := by
  unfold gRn; split
  · exact h _
  · exact h _
  · exact id
theorem pRn_mono {st : PS} {f g : Sum Nat Nat → PS → Prop} (h : ∀ x r, f x r → g x r) : pRn st f → pRn st g := by
  unfold pRn; split
  · exact h _ _
  · exact h _ _
  · exact id
theorem putT_mono {cal cal' : LCal} (hm : LCmono cal') (hc : ∀ y a M C Q, cal y a M C Q → cal' y a M C Q) {K K' : LKt} (hK : ∀ ip kc l st M C, K ip kc l st M C → K' ip kc l st M C) {km kc t : Nat} {ts : List Nat} {l : PL} {st : PS} {M : Mem} {C : LMem} : putT cal K km kc t ts l st M C → putT cal' K' km kc t ts l st M C := by
  unfold putT
  split
  · exact guardB_mono (And.imp id fun h => hm _ _ _ _ _ _ (fun _ _ _ => hK _ _ _ _ _ _) (hc _ _ _ _ _ h))
  · exact id
theorem hAr_mono {as : List PV} {f g : List PV → Prop} (h : ∀ x, f x → g x) : hAr as f → hAr as g := by
  unfold hAr; split
  · exact h _
  · exact id
theorem sbArg_mono {C : LMem} {l : PL} {a b c : Nat} {k : Int} {f g : Int → Prop} (hf : ∀ x, f x → g x) : sbArg C l a b c k f → sbArg C l a b c k g := by
  unfold sbArg
  rcases c with _ | c
  · exact gI_mono hf
  · refine gR_mono fun o => ?_
    rcases o with n | n
    · exact cellAt_mono fun q => gI_mono fun i => And.imp id (And.imp id (hf _))
    · exact id
theorem isH_mono {st : PS} {p q : Prop} (h : p → q) : isH st p → isH st q := by
  unfold isH; split
  · exact h
  · exact id
theorem all_imp {α : Type} {f g : α → Prop} (h : ∀ x, f x → g x) : (∀ x, f x) → ∀ x, g x := fun k x => h x (k x)
theorem stepL_mono {mac : MacS} (hq : Mmono mac) {cal cal' : LCal} (hm : LCmono cal') (hc : ∀ y a M C Q, cal y a M C Q → cal' y a M C Q) {cc : Cal} (hcc : Cmono cc) {rk km : Nat} {Q Q' : LQ} (hQ : ∀ r m c, Q r m c → Q' r m c) {K K' : LKt} (hK : ∀ ip kc l st M C, K ip kc l st M C → K' ip kc l st M C) (g : GI) (ip kc : Nat) (l : PL) (st : PS) (M : Mem) (C : LMem) : stepL mac cal cc rk km Q K g ip kc l st M C → stepL mac cal' cc rk km Q' K' g ip kc l st M C := by
  obtain ⟨i, ⟨a, b, c, d⟩, k, ts⟩ := g
  have hcell : ∀ (y : Nat) (o : Sum Nat Nat) (x : Int) , (match o with
      | .inl n => cellAt n fun q => (C q).1 = 1 ∧ 0 < (C q).2.1 ∧ mac y M x ((C q).2.2 0) fun M' => K d kc l [] M' C
      | .inr _ => False) → (match o with
      | .inl n => cellAt n fun q => (C q).1 = 1 ∧ 0 < (C q).2.1 ∧ mac y M x ((C q).2.2 0) fun M' => K' d kc l [] M' C
      | .inr _ => False) := fun y o x => by
    rcases o with n | n
    · exact cellAt_mono fun q => And.imp id (And.imp id (hq _ _ _ _ _ _ fun _ => hK _ _ _ _ _ _))
    · exact id
  cases i
  case dup =>
    rcases st with _ | ⟨_ | _ | _, r⟩
    · exact id
    · exact hK _ _ _ _ _ _
    · exact id
    · exact hK _ _ _ _ _ _
  case dup2 =>
    rcases st with _ | ⟨_ | _ | _, _ | ⟨_ | _ | _, r⟩⟩ <;> first | exact id | exact hK _ _ _ _ _ _
  case ireturn =>
    refine pI_mono fun _ _ => isE_mono ?_
    rcases rk with _ | _ | _ | _ | rk <;> first | exact hQ _ _ _ | exact And.imp id (hQ _ _ _)
  case invokestatic =>
    have h9 : (guardB (Nat.ble (wsum (st.drop b)) 8 && Nat.ble b st.length && noTx (st.take b)) <| kc + d ≤ km ∧ cal a (st.take b).reverse M C fun v M' C' => K (ip + 1) (kc + d) l (pushL c v (st.drop b)) M' C') → (guardB (Nat.ble (wsum (st.drop b)) 8 && Nat.ble b st.length && noTx (st.take b)) <| kc + d ≤ km ∧ cal' a (st.take b).reverse M C fun v M' C' => K' (ip + 1) (kc + d) l (pushL c v (st.drop b)) M' C') := guardB_mono (And.imp id fun h => hm _ _ _ _ _ _ (fun _ _ _ => hK _ _ _ _ _ _) (hc _ _ _ _ _ h))
    rcases c with _ | _ | _ | _ | _ | _ | _ | _ | _ | _ | c
    case succ.succ.succ.succ.succ.succ.succ.succ.zero => exact pL_mono fun _ _ => guardB_mono (And.imp id (hK _ _ _ _ _ _))
    case succ.succ.succ.succ.succ.succ.succ.succ.succ.zero => exact pL_mono fun _ _ => guardB_mono (And.imp id (hK _ _ _ _ _ _))
    all_goals exact h9
  case invokevirtual =>
    have h9 : (guardB (Nat.ble (wsum (st.drop b)) 8 && Nat.ble b st.length) <| kc + d ≤ km ∧ hAr (st.take b).reverse fun as => guardB (numA as) <| cc a (.inr (.inr (.inl kQ)) :: as) M fun r M' => Rl r fun v => K (ip + 1) (kc + d) l (pushR c v (st.drop b)) M' C) → (guardB (Nat.ble (wsum (st.drop b)) 8 && Nat.ble b st.length) <| kc + d ≤ km ∧ hAr (st.take b).reverse fun as => guardB (numA as) <| cc a (.inr (.inr (.inl kQ)) :: as) M fun r M' => Rl r fun v => K' (ip + 1) (kc + d) l (pushR c v (st.drop b)) M' C) := guardB_mono (And.imp id (hAr_mono fun _ => guardB_mono fun h => hcc _ _ _ _ _ (fun r m => Rl_mono fun _ => hK _ _ _ _ _ _) h))
    rcases c with _ | _ | _ | _ | _ | _ | _ | c
    case succ.succ.succ.succ.succ.zero => exact isH_mono (gI_mono fun _ => gR_mono fun _ => hcell _ _ _)
    case succ.succ.succ.succ.succ.succ.zero => exact isH_mono (gI_mono fun _ => gR_mono fun _ => hcell _ _ _)
    all_goals exact h9
  case new => exact guardB_mono (sbArg_mono fun x => And.imp id (putT_mono hm hc hK))
  case ldc =>
    rcases c with _ | c
    · exact hK _ _ _ _ _ _
    · exact putT_mono hm hc hK
  case ldc_w =>
    rcases c with _ | c
    · exact hK _ _ _ _ _ _
    · exact putT_mono hm hc hK
  case aload_n =>
    rcases c with _ | _ | _ | _ | _ | _ | _ | _ | c
    case zero => exact gRn_mono (o := nth l a) (f := fun x => K (ip + 1) kc l (.inr (.inr x) :: st) M C) (g := fun x => K' (ip + 1) kc l (.inr (.inr x) :: st) M C) fun _ => hK _ _ _ _ _ _
    case succ.succ.succ.succ.succ.succ.succ.zero => exact gX_mono (o := nth l a) (f := fun t => guardB (Nat.ble (wsum st) 8) <| K (ip + 1) kc l (.inl ((txL t).length : Int) :: st) M C) (g := fun t => guardB (Nat.ble (wsum st) 8) <| K' (ip + 1) kc l (.inl ((txL t).length : Int) :: st) M C) fun _ => guardB_mono (hK _ _ _ _ _ _)
    all_goals exact gX_mono (o := nth l a) (f := fun t => gI (nth l b) fun x => guardB (Nat.ble (wsum st) 8) <| (0 ≤ x ∧ x < ((txL t).length : Int)) ∧ K (ip + 1) kc l (.inl ((txL t).getD x.toNat 0) :: st) M C) (g := fun t => gI (nth l b) fun x => guardB (Nat.ble (wsum st) 8) <| (0 ≤ x ∧ x < ((txL t).length : Int)) ∧ K' (ip + 1) kc l (.inl ((txL t).getD x.toNat 0) :: st) M C) fun _ => gI_mono fun _ => guardB_mono (And.imp id (hK _ _ _ _ _ _))
  case aload => exact gRn_mono (o := nth l a) (f := fun x => K (ip + 1) kc l (.inr (.inr x) :: st) M C) (g := fun x => K' (ip + 1) kc l (.inr (.inr x) :: st) M C) fun _ => hK _ _ _ _ _ _
  case astore_n => exact pRn_mono (st := st) (f := fun x r => K (ip + 1) kc (st1 l a (.inr (.inr x))) r M C) (g := fun x r => K' (ip + 1) kc (st1 l a (.inr (.inr x))) r M C) fun _ _ => hK _ _ _ _ _ _
  case astore => exact pRn_mono (st := st) (f := fun x r => K (ip + 1) kc (st1 l a (.inr (.inr x))) r M C) (g := fun x r => K' (ip + 1) kc (st1 l a (.inr (.inr x))) r M C) fun _ _ => hK _ _ _ _ _ _
  case aastore => exact pO_mono fun _ _ => pI_mono fun _ _ => pC_mono fun _ _ => And.imp id (And.imp id (And.imp id (hK _ _ _ _ _ _)))
  case newarray => exact pI_mono fun _ _ => And.imp id (And.imp id (all_imp fun _ => imp_mono (hK _ _ _ _ _ _)))
  case anewarray => exact pI_mono fun _ _ => And.imp id (And.imp id (all_imp fun _ => imp_mono (hK _ _ _ _ _ _)))
  case multianewarray => exact pI_mono fun _ _ => pI_mono fun _ _ => And.imp id (And.imp id (all_imp fun _ => imp_mono (hK _ _ _ _ _ _)))
  case ifnull => exact pO_mono fun _ _ => And.imp (imp_mono (hK _ _ _ _ _ _)) (imp_mono (hK _ _ _ _ _ _))
  case ifnonnull => exact pO_mono fun _ _ => And.imp (imp_mono (hK _ _ _ _ _ _)) (imp_mono (hK _ _ _ _ _ _))
  all_goals first
    | exact hK _ _ _ _ _ _
    | exact id
    | exact gI_mono fun _ => hK _ _ _ _ _ _
    | exact gL_mono fun _ => hK _ _ _ _ _ _
    | exact gR_mono fun _ => hK _ _ _ _ _ _
    | exact pI_mono fun _ _ => hK _ _ _ _ _ _
    | exact pL_mono fun _ _ => hK _ _ _ _ _ _
    | exact pR_mono fun _ _ => hK _ _ _ _ _ _
    | exact pI_mono fun _ _ => pI_mono fun _ _ => hK _ _ _ _ _ _
    | exact pL_mono fun _ _ => pL_mono fun _ _ => hK _ _ _ _ _ _
    | exact pI_mono fun _ _ => pI_mono fun _ _ => And.imp id (hK _ _ _ _ _ _)
    | exact pI_mono fun _ _ => pI_mono fun _ _ => And.imp id (And.imp id (hK _ _ _ _ _ _))
    | exact pL_mono fun _ _ => pL_mono fun _ _ => And.imp id (And.imp id (hK _ _ _ _ _ _))
    | exact pI_mono fun _ _ => pL_mono fun _ _ => And.imp id (hK _ _ _ _ _ _)
    | exact pI_mono fun _ _ => And.imp id (hK _ _ _ _ _ _)
    | exact pL_mono fun _ _ => pL_mono fun _ _ => And.imp id (And.imp (imp_mono (hK _ _ _ _ _ _)) (imp_mono (hK _ _ _ _ _ _)))
    | exact pI_mono fun _ _ => pI_mono fun _ _ => And.imp id (And.imp (imp_mono (hK _ _ _ _ _ _)) (imp_mono (hK _ _ _ _ _ _)))
    | exact pI_mono fun _ _ => And.imp id (And.imp (imp_mono (hK _ _ _ _ _ _)) (imp_mono (hK _ _ _ _ _ _)))
    | exact pI_mono fun _ _ => pC_mono fun _ _ => And.imp id (And.imp id (hK _ _ _ _ _ _))
    | exact pI_mono fun _ _ => pI_mono fun _ _ => pC_mono fun _ _ => And.imp id (And.imp id (hK _ _ _ _ _ _))
    | exact pI_mono fun _ _ => pI_mono fun _ _ => pC_mono fun _ _ => And.imp id (And.imp id (And.imp id (hK _ _ _ _ _ _)))
    | exact pL_mono fun _ _ => pI_mono fun _ _ => pC_mono fun _ _ => And.imp id (And.imp id (hK _ _ _ _ _ _))
    | exact pC_mono fun _ _ => And.imp id (hK _ _ _ _ _ _)
    | exact pL_mono fun _ _ => isE_mono (hQ _ _ _)
    | exact pO_mono fun _ _ => isE_mono (hQ _ _ _)
theorem stepTL_mono {mac : MacS} (hq : Mmono mac) {cal cal' : LCal} (hm : LCmono cal') (hc : ∀ y a M C Q, cal y a M C Q → cal' y a M C Q) {cc : Cal} (hcc : Cmono cc) {mi : MI} {Q Q' : LQ} (hQ : ∀ r m c, Q r m c → Q' r m c) {K K' : LKt} (hK : ∀ ip kc l st M C, K ip kc l st M C → K' ip kc l st M C) (ip kc : Nat) (l : PL) (st : PS) (M : Mem) (C : LMem) : stepTL mac cal cc mi Q K ip kc l st M C → stepTL mac cal' cc mi Q' K' ip kc l st M C := by
  unfold stepTL
  cases nth mi.1 ip with
  | none => exact id
  | some g => exact stepL_mono hq hm hc hcc hQ hK g ip kc l st M C
theorem WL_mono {mac : MacS} (hq : Mmono mac) {cal cal' : LCal} (hm : LCmono cal') (hc : ∀ y a M C Q, cal y a M C Q → cal' y a M C Q) {cc : Cal} (hcc : Cmono cc) {mi : MI} {Q Q' : LQ} (hQ : ∀ r m c, Q r m c → Q' r m c) (ip kc : Nat) (l : PL) (st : PS) (M : Mem) (C : LMem) (h : WL mac cal cc mi Q ip kc l st M C) : WL mac cal' cc mi Q' ip kc l st M C :=
  fun P hP => h P fun ip kc l st M C hs => hP _ _ _ _ _ _ (stepTL_mono hq hm hc hcc hQ (fun _ _ _ _ _ _ z => z) _ _ _ _ _ _ hs)
theorem WL_intro {mac : MacS} (hq : Mmono mac) {cal : LCal} (hm : LCmono cal) {cc : Cal} (hcc : Cmono cc) {mi : MI} {Q : LQ} (ip kc : Nat) (l : PL) (st : PS) (M : Mem) (C : LMem) (h : stepTL mac cal cc mi Q (WL mac cal cc mi Q) ip kc l st M C) : WL mac cal cc mi Q ip kc l st M C :=
  fun P hP => hP _ _ _ _ _ _ (stepTL_mono hq hm (fun _ _ _ _ _ z => z) hcc (fun _ _ _ z => z) (fun _ _ _ _ _ _ z => z P hP) _ _ _ _ _ _ h)
def blkL (mac : MacS) (cal : LCal) (cc : Cal) (mi : MI) (Q : LQ) (cuts : List Nat) (K : LKt) : Nat → LKt
  | 0 => fun _ _ _ _ _ _ => False
  | n + 1 => stepTL mac cal cc mi Q fun ip kc l st M C => match memN ip cuts with
    | true => K ip kc l st M C
    | false => blkL mac cal cc mi Q cuts K n ip kc l st M C
theorem blkL_go {mac : MacS} (hq : Mmono mac) {cal : LCal} (hm : LCmono cal) {cc : Cal} (hcc : Cmono cc) {mi : MI} {Q : LQ} {cuts : List Nat} : ∀ (n ip kc : Nat) (l : PL) (st : PS) (M : Mem) (C : LMem), blkL mac cal cc mi Q cuts (WL mac cal cc mi Q) n ip kc l st M C → WL mac cal cc mi Q ip kc l st M C
  | 0, _, _, _, _, _, _ => fun h => h.elim
  | n + 1, ip, kc, l, st, M, C => fun h => WL_intro hq hm hcc _ _ _ _ _ _ (stepTL_mono hq hm (fun _ _ _ _ _ z => z) hcc (fun _ _ _ z => z) (fun ip kc l st M C z => by
      revert z
      cases memN ip cuts with
      | true => exact id
      | false => exact blkL_go hq hm hcc n ip kc l st M C) _ _ _ _ _ _ h)
def calL (LT : Nat → Option MI) (ext : LCal) (mac : MacS) (cc : Cal) : Nat → LCal
  | 0 => fun _ _ _ _ _ => False
  | d + 1 => fun y args M C Q => match LT y with
    | none => ext y args M C Q
    | some mi => guardB (Nat.ble (wsum args) mi.2.2.2.1) (WL mac (calL LT ext mac cc d) cc mi Q 0 0 (padL mi.2.2.2.1 (lay args)) [] M C)
theorem calL_mono (LT : Nat → Option MI) (ext : LCal) (he : LCmono ext) (mac : MacS) (hq : Mmono mac) (cc : Cal) (hcc : Cmono cc) : ∀ d, LCmono (calL LT ext mac cc d)
  | 0 => fun _ _ _ _ _ _ _ h => h.elim
  | d + 1 => fun y a M C Q Q' hQ => by
    unfold calL
    cases LT y with
    | none => exact he _ _ _ _ _ _ hQ
    | some mi => exact guardB_mono (WL_mono hq (calL_mono LT ext he mac hq cc hcc d) (fun _ _ _ _ _ z => z) hcc hQ _ _ _ _ _ _)
theorem calL_le (LT : Nat → Option MI) (ext : LCal) (he : LCmono ext) (mac : MacS) (hq : Mmono mac) (cc : Cal) (hcc : Cmono cc) : ∀ (d : Nat) (y : Nat) (a : List PV) (M : Mem) (C : LMem) (Q : LQ), calL LT ext mac cc d y a M C Q → calL LT ext mac cc (d + 1) y a M C Q
  | 0 => fun _ _ _ _ _ h => h.elim
  | d + 1 => fun y a M C Q => by
    intro h
    unfold calL at h ⊢
    cases hy : LT y with
    | none => rw [hy] at h; exact h
    | some mi => rw [hy] at h; exact guardB_mono (WL_mono hq (calL_mono LT ext he mac hq cc hcc (d + 1)) (calL_le LT ext he mac hq cc hcc d) hcc (fun _ _ _ z => z) _ _ _ _ _ _) h
