/-! isClosedNet: whether the net is closed. -/
abbrev eqB (x : Nat) : Nat → Prop := fun y => y = x
def MvI (n : Nat) (Tp A : Nat → Nat → Int) (t a : Nat) (L : Nat → Nat) : Prop := (∀ i, i < n → L i < 2 ^ n ∧ ∀ x, (L i).testBit x = true → x < n ∧ Rch (cEE n A) i x) ∧ ∀ i x, i < n → x < n → (Bk n (edP Tp) (eqB x) (eqB x) t i → (L i).testBit x = true) ∧ (i < a → Bk n (edP Tp) (eqB x) (eqB x) (t + 1) i → (L i).testBit x = true)
section CLA
variable {d : Nat} {Q : LQ} {M : Mem} {C1 : LMem} {r r4 r5 r6 qm n : Nat} {Pp : Nat → Nat} {cm sv : Nat → Int} {Tp A : Nat → Nat → Int} {kc : Nat}
theorem cl_20 (hn : 1 ≤ n ∧ n ≤ 3) {C : LMem} (hW : NTq C r4 r5 r6 n Pp cm sv Tp) (hT : ∀ i j, i < n → j < n → 0 ≤ Tp i j ∧ Tp i j ≤ 4) (hcm : ∀ i, i < n → 0 ≤ cm i ∧ cm i ≤ 8) {a : Nat} (ha : a < n) {i7 : Int} (h7 : tv (∀ i, i < a → rowS Tp i n = 4 ∧ cm i = 0) i7)
    (hN : ∀ (i7 : Int) (o9 o10 : Option PV), tv (∀ i, i < a + 1 → rowS Tp i n = 4 ∧ cm i = 0) i7 → L_W_isClosedNet_7 (d + 131) Q M C kc r r4 r5 r6 (n : Int) qm i7 ((a : Int) + 1) o9 o10 none none none none none) :
    ∀ (u b : Nat), b + u = n → L_W_isClosedNet_20 (d + 131) Q M C kc r r4 r5 r6 (n : Int) qm i7 (a : Int) (rowS Tp a b) (b : Int) none none none none none := by
  obtain ⟨⟨f4, a1, a2⟩, -, ⟨⟨f6, f1, f2⟩, m2, -⟩⟩ := hW
  obtain ⟨gr, g1, g2⟩ := m2 a ha
  have hrs : ∀ b, b ≤ n → 0 ≤ rowS Tp a b ∧ rowS Tp a b ≤ 4 * (b : Int) := fun b => by
    induction b with
    | zero => intro _; exact ⟨Int.le_refl 0, Int.le_refl 0⟩
    | succ b ih =>
      intro hb
      have h1 := ih (by omega)
      have h2 := hT a b ha (by omega)
      show 0 ≤ rowS Tp a b + Tp a b ∧ rowS Tp a b + Tp a b ≤ _
      omega
  have hb7 := h7.bit
  have no : (rowS Tp a n ≠ 4 ∨ cm a ≠ 0) → tv (∀ i, i < a + 1 → rowS Tp i n = 4 ∧ cm i = 0) 0 := fun w => Or.inr ⟨rfl, fun z => by
    have := z a (Nat.lt_succ_self a)
    rcases w with w | w
    · exact w this.1
    · exact w this.2⟩
  have yes : rowS Tp a n = 4 → cm a = 0 → tv (∀ i, i < a + 1 → rowS Tp i n = 4 ∧ cm i = 0) i7 := fun w1 w2 => h7.cg ⟨fun z i hi => by
    by_cases e : i = a
    · rw [e]; exact ⟨w1, w2⟩
    · exact z i (by omega), fun z i hi => z i (by omega)⟩
  intro u
  induction u with
  | zero =>
    intro b hb
    obtain rfl : b = n := by omega
    have h9 := hrs b (Nat.le_refl b)
    have hc := hcm a ha
    refine b_W_isClosedNet_20 ⟨⟨by omega, by omega⟩, ⟨by omega, by omega⟩, fun _ => ⟨⟨by omega, by omega⟩, fun z => ?_, fun z => ?_⟩, fun z => absurd (Int.le_refl _) z⟩
    · rw [zand0]
      exact hN 0 _ _ (no (Or.inl z))
    · simp only [a1, a2 a ha, Int.toNat_natCast]
      refine ⟨trivial, ⟨by omega, by omega⟩, ⟨by omega, by omega⟩, fun z2 => ?_, fun z2 => ?_⟩
      · rw [zand0]
        exact hN 0 _ _ (no (Or.inr z2))
      · rw [zand01 hb7]
        exact hN i7 _ _ (yes (Decidable.not_not.mp z) (Decidable.not_not.mp z2))
  | succ u ih =>
    intro b hb
    have hb9 : b < n := by omega
    have h9 := hrs b (by omega)
    refine b_W_isClosedNet_20 ⟨⟨by omega, by omega⟩, ⟨by omega, by omega⟩, fun z => absurd z (by omega), fun _ => ?_⟩
    simp only [f1, f2 a ha, Int.toNat_natCast, cellAt, g1, g2 b hb9]
    rw [show (b : Int) + 1 = ((b + 1 : Nat) : Int) by omega]
    exact ⟨⟨by decide, by decide⟩, ⟨by omega, by omega⟩, trivial, ⟨by omega, by omega⟩, ih (b + 1) (by omega)⟩
theorem cl_7 (hn : 1 ≤ n ∧ n ≤ 3) (hT : ∀ i j, i < n → j < n → 0 ≤ Tp i j ∧ Tp i j ≤ 4) (hcm : ∀ i, i < n → 0 ≤ cm i ∧ cm i ≤ 8) (hW : NTq C1 r4 r5 r6 n Pp cm sv Tp) (hq : (C1 qm).1 = 0)
    (hN : ∀ (C : LMem) (i7 : Int) (o2 o9 o10 : Option PV) (f : Nat → Int), LF [] C1 C → C qm = (1, n, f) → (∀ i, i < n → f i = ((2 ^ i : Nat) : Int)) → tv (∀ i, i < n → rowS Tp i n = 4 ∧ cm i = 0) i7 → L_W_isClosedNet_50 (d + 131) Q M C kc r o2 r5 r6 (n : Int) qm i7 0 o9 o10 none none none none none) :
    ∀ (u a : Nat) (C : LMem) (i7 : Int) (o9 o10 : Option PV) (f : Nat → Int), a + u = n → LF [] C1 C → C qm = (1, n, f) → (∀ i, i < a → f i = ((2 ^ i : Nat) : Int)) → tv (∀ i, i < a → rowS Tp i n = 4 ∧ cm i = 0) i7 → L_W_isClosedNet_7 (d + 131) Q M C kc r r4 r5 r6 (n : Int) qm i7 (a : Int) o9 o10 none none none none none := by
  intro u
  induction u with
  | zero =>
    intro a C i7 o9 o10 f ha hl hm hf h7
    obtain rfl : a = n := by omega
    exact b_W_isClosedNet_7 ⟨⟨by omega, by omega⟩, ⟨by omega, by omega⟩, fun _ => hN C i7 _ _ _ f hl hm hf h7, fun z => absurd (Int.le_refl _) z⟩
  | succ u ih =>
    intro a C i7 o9 o10 f ha hl hm hf h7
    have ha9 : a < n := by omega
    obtain ⟨e1, e2⟩ := p2i a (by omega)
    refine b_W_isClosedNet_7 ⟨⟨by omega, by omega⟩, ⟨by omega, by omega⟩, fun z => absurd z (by omega), fun _ => ?_⟩
    simp only [hm, cup_of hm, Int.toNat_natCast, e1]
    refine ⟨⟨by omega, by omega⟩, trivial, ⟨by omega, by omega⟩, ?_⟩
    have hl2 : LF [] C1 (cst C qm (1, n, sr f a ((2 ^ a : Nat) : Int))) := hl.set hq
    refine cl_20 hn (hW.off hl2) hT hcm ha9 h7 (fun i7 o9 o10 w => ?_) n 0 (by omega)
    rw [show (a : Int) + 1 = ((a + 1 : Nat) : Int) by omega]
    refine ih (a + 1) _ i7 _ _ _ (by omega) hl2 cst_self (fun i hi => ?_) w
    by_cases e : i = a
    · rw [e, sr_same]
    · rw [sr_ne e]; exact hf i (by omega)
theorem cl_60 (hn : 1 ≤ n ∧ n ≤ 3) (hT : ∀ i j, i < n → j < n → 0 ≤ Tp i j ∧ Tp i j ≤ 4) (hA : ∀ i j, i < n → j < n → A i j = 25 * Tp i j) (hW : NTq C1 r4 r5 r6 n Pp cm sv Tp) (hq : (C1 qm).1 = 0) {tt a : Nat} (ha : a < n) {i7 : Int} {o2 : Option PV}
    (hN : ∀ (C : LMem) (o10 : Option PV) (f : Nat → Int) (L : Nat → Nat), LF [] C1 C → C qm = (1, n, f) → (∀ i, i < n → f i = ((L i : Nat) : Int)) → MvI n Tp A tt (a + 1) L → L_W_isClosedNet_55 (d + 131) Q M C kc r o2 r5 r6 (n : Int) qm i7 (tt : Int) ((a : Int) + 1) o10 none none none none none) :
    ∀ (u b : Nat) (C : LMem) (f : Nat → Int) (L : Nat → Nat), b + u = n → LF [] C1 C → C qm = (1, n, f) → (∀ i, i < n → f i = ((L i : Nat) : Int)) → MvI n Tp A tt a L → (∀ c x, c < b → x < n → edP Tp a c → Bk n (edP Tp) (eqB x) (eqB x) tt c → (L a).testBit x = true) → L_W_isClosedNet_60 (d + 131) Q M C kc r o2 r5 r6 (n : Int) qm i7 (tt : Int) (a : Int) (b : Int) none none none none none := by
  have p8 := pow_8 hn.2
  intro u
  induction u with
  | zero =>
    intro b C f L hb hl hm hf hI hc
    obtain rfl : b = n := by omega
    refine b_W_isClosedNet_60 ⟨⟨by omega, by omega⟩, ⟨by omega, by omega⟩, fun _ => hN C _ f L hl hm hf ⟨hI.1, fun i x hi hx => ⟨(hI.2 i x hi hx).1, fun w w2 => ?_⟩⟩, fun z => absurd (Int.le_refl _) z⟩
    by_cases e : i = a
    · subst e
      rcases w2 with w2 | w2 | ⟨c, c1, c2, c3⟩
      · exact (hI.2 i x hi hx).1 w2
      · refine (hI.2 i x hi hx).1 ?_
        have : ∀ t, Bk b (edP Tp) (eqB x) (eqB x) t i := fun t => by
          induction t with
          | zero => exact w2
          | succ t ih => exact Or.inl ih
        exact this tt
      · exact hc c x c1 hx c2 c3
    · exact (hI.2 i x hi hx).2 (by omega) w2
  | succ u ih =>
    intro b C f L hb hl hm hf hI hc
    have hb9 : b < n := by omega
    obtain ⟨-, -, ⟨⟨f6, f1, f2⟩, m2, -⟩⟩ := hW.off hl
    obtain ⟨gr, g1, g2⟩ := m2 a ha
    have hTb := hT a b ha hb9
    have La := hI.1 a ha
    have Lb := hI.1 b hb9
    have La8 : L a < 8 := Nat.lt_of_lt_of_le La.1 p8
    have Lb8 : L b < 8 := Nat.lt_of_lt_of_le Lb.1 p8
    refine b_W_isClosedNet_60 ⟨⟨by omega, by omega⟩, ⟨by omega, by omega⟩, fun z => absurd z (by omega), fun _ => ?_⟩
    simp only [f1, f2 a ha, Int.toNat_natCast, cellAt, g1, g2 b hb9, hm, cup_of hm, hf a ha, hf b hb9]
    rw [show (b : Int) + 1 = ((b + 1 : Nat) : Int) by omega, zor_nat (show L a < 128 by omega) (show L b < 128 by omega)]
    refine ⟨⟨by decide, by decide⟩, ⟨by omega, by omega⟩, trivial, ⟨by omega, by omega⟩, ⟨by omega, by omega⟩, fun z => ih (b + 1) C f L (by omega) hl hm hf hI (fun c x h1 hx h2 h3 => ?_), fun z => ⟨trivial, ⟨by omega, by omega⟩, ⟨by omega, by omega⟩, ?_⟩⟩
    · by_cases e : c = b
      · rw [e] at h2
        unfold edP at h2
        omega
      · exact hc c x (by omega) hx h2 h3
    · have ed : cEE n A a b := ⟨by omega, ha, hb9, by rw [hA a b ha hb9]; omega⟩
      have up : ∀ {i x}, (L i).testBit x = true → ((if i = a then L a ||| L b else L i)).testBit x = true := fun {i x} w => by
        by_cases e : i = a
        · rw [if_pos e, Nat.testBit_or, ← e, w, Bool.true_or]
        · rw [if_neg e]; exact w
      refine ih (b + 1) _ _ (fun i => if i = a then L a ||| L b else L i) (by omega) (hl.set hq) cst_self (fun i hi => ?_) ⟨fun i hi => ?_, fun i x hi hx => ⟨fun w => up ((hI.2 i x hi hx).1 w), fun w w2 => up ((hI.2 i x hi hx).2 w w2)⟩⟩ (fun c x h1 hx h2 h3 => ?_)
      · show sr f a _ i = ((if i = a then L a ||| L b else L i : Nat) : Int)
        by_cases e : i = a
        · rw [if_pos e, e, sr_same]
        · rw [if_neg e, sr_ne e]; exact hf i hi
      · show (if i = a then L a ||| L b else L i) < 2 ^ n ∧ ∀ x, (if i = a then L a ||| L b else L i).testBit x = true → x < n ∧ Rch (cEE n A) i x
        by_cases e : i = a
        · rw [if_pos e]
          refine ⟨Nat.or_lt_two_pow La.1 Lb.1, fun x hx => ?_⟩
          rw [Nat.testBit_or, Bool.or_eq_true] at hx
          rw [e]
          rcases hx with hx | hx
          · exact La.2 x hx
          · exact ⟨(Lb.2 x hx).1, Rch.of1 ed (Lb.2 x hx).2⟩
        · rw [if_neg e]; exact hI.1 i hi
      · show (if a = a then L a ||| L b else L a).testBit x = true
        rw [if_pos rfl, Nat.testBit_or, Bool.or_eq_true]
        by_cases e : c = b
        · rw [e] at h3
          exact Or.inr ((hI.2 b x hb9 hx).1 h3)
        · exact Or.inl (hc c x (by omega) hx h2 h3)
theorem cl_50 (hn : 1 ≤ n ∧ n ≤ 3) (hT : ∀ i j, i < n → j < n → 0 ≤ Tp i j ∧ Tp i j ≤ 4) (hA : ∀ i j, i < n → j < n → A i j = 25 * Tp i j) (hW : NTq C1 r4 r5 r6 n Pp cm sv Tp) (hq : (C1 qm).1 = 0) {i7 : Int} {o2 : Option PV}
    (hN : ∀ (C : LMem) (o9 o10 : Option PV) (f : Nat → Int) (L : Nat → Nat), LF [] C1 C → C qm = (1, n, f) → (∀ i, i < n → f i = ((L i : Nat) : Int)) → (∀ i, i < n → L i < 2 ^ n ∧ ∀ x, x < n → ((L i).testBit x = true ↔ Rch (cEE n A) i x)) → L_W_isClosedNet_86 (d + 131) Q M C kc r o2 r5 r6 (n : Int) qm i7 0 o9 o10 none none none none none) :
    ∀ (u tt : Nat) (C : LMem) (o9 o10 : Option PV) (f : Nat → Int) (L : Nat → Nat), tt + u = n + 1 → LF [] C1 C → C qm = (1, n, f) → (∀ i, i < n → f i = ((L i : Nat) : Int)) → MvI n Tp A tt 0 L → L_W_isClosedNet_50 (d + 131) Q M C kc r o2 r5 r6 (n : Int) qm i7 (tt : Int) o9 o10 none none none none none := by
  intro u
  induction u with
  | zero =>
    intro tt C o9 o10 f L ht hl hm hf hI
    obtain rfl : tt = n + 1 := by omega
    refine b_W_isClosedNet_50 ⟨⟨by omega, by omega⟩, ⟨by omega, by omega⟩, fun _ => hN C _ _ f L hl hm hf (fun i hi => ⟨(hI.1 i hi).1, fun x hx => ⟨fun w => ((hI.1 i hi).2 x w).2, fun w => ?_⟩⟩), fun z => absurd (by omega) z⟩
    refine (hI.2 i x hi hx).1 (Bk_all (E' := cEE n A) hn.2 (fun y z v => ⟨v.2.1, v.2.2.1, ?_⟩) hi w rfl)
    have := v.2.2.2
    rw [hA y z v.2.1 v.2.2.1] at this
    show 0 < Tp y z
    omega
  | succ u ih =>
    intro tt C o9 o10 f L ht hl hm hf hI
    have l55 : ∀ (v a : Nat) (C : LMem) (o10 : Option PV) (f : Nat → Int) (L : Nat → Nat), a + v = n → LF [] C1 C → C qm = (1, n, f) → (∀ i, i < n → f i = ((L i : Nat) : Int)) → MvI n Tp A tt a L → L_W_isClosedNet_55 (d + 131) Q M C kc r o2 r5 r6 (n : Int) qm i7 (tt : Int) (a : Int) o10 none none none none none := by
      intro v
      induction v with
      | zero =>
        intro a C o10 f L hav hl hm hf hI
        obtain rfl : a = n := by omega
        refine b_W_isClosedNet_55 ⟨⟨by omega, by omega⟩, ⟨by omega, by omega⟩, fun _ => ?_, fun z => absurd (Int.le_refl _) z⟩
        rw [show (tt : Int) + 1 = ((tt + 1 : Nat) : Int) by omega]
        exact ih (tt + 1) C _ _ f L (by omega) hl hm hf ⟨hI.1, fun i x hi hx => ⟨fun w => (hI.2 i x hi hx).2 hi w, fun w => absurd w (Nat.not_lt_zero i)⟩⟩
      | succ v ihv =>
        intro a C o10 f L hav hl hm hf hI
        refine b_W_isClosedNet_55 ⟨⟨by omega, by omega⟩, ⟨by omega, by omega⟩, fun z => absurd z (by omega), fun _ => ?_⟩
        refine cl_60 hn hT hA hW hq (show a < n by omega) (fun C o10 f L y1 y2 y3 y4 => ?_) n 0 C f L (by omega) hl hm hf hI (fun c x hc => absurd hc (Nat.not_lt_zero c))
        rw [show (a : Int) + 1 = ((a + 1 : Nat) : Int) by omega]
        exact ihv (a + 1) C _ f L (by omega) y1 y2 y3 y4
    exact b_W_isClosedNet_50 ⟨⟨by omega, by omega⟩, ⟨by omega, by omega⟩, fun z => absurd z (by omega), fun _ => l55 n 0 C _ f L (by omega) hl hm hf hI⟩
theorem cl_86 (hn : 1 ≤ n ∧ n ≤ 3) (hq : (C1 qm).1 = 0) {C : LMem} {f : Nat → Int} {L : Nat → Nat} {o2 : Option PV} {P0 : Prop} (hm : C qm = (1, n, f)) (hf : ∀ i, i < n → f i = ((L i : Nat) : Int)) (hL : ∀ i, i < n → L i < 2 ^ n ∧ ∀ x, x < n → ((L i).testBit x = true ↔ Rch (cEE n A) i x))
    (hN : ∀ (i7 : Int) (o9 o10 : Option PV), tv (P0 ∧ ∀ i, i < n → ∀ x, x < n → Rch (cEE n A) i x) i7 → L_W_isClosedNet_86 (d + 131) Q M C kc r o2 r5 r6 (n : Int) qm i7 (n : Int) o9 o10 none none none none none) :
    ∀ (u a : Nat) (i7 : Int) (o9 o10 : Option PV), a + u = n → tv (P0 ∧ ∀ i, i < a → ∀ x, x < n → Rch (cEE n A) i x) i7 → L_W_isClosedNet_86 (d + 131) Q M C kc r o2 r5 r6 (n : Int) qm i7 (a : Int) o9 o10 none none none none none := by
  have p8 := pow_8 hn.2
  have hp := Nat.two_pow_pos n
  intro u
  induction u with
  | zero =>
    intro a i7 o9 o10 ha h7
    obtain rfl : a = n := by omega
    exact hN i7 _ _ h7
  | succ u ih =>
    intro a i7 o9 o10 ha h7
    have ha9 : a < n := by omega
    obtain ⟨e1, e2⟩ := p2i n (by omega)
    have La := hL a ha9
    have La8 : L a < 8 := Nat.lt_of_lt_of_le La.1 p8
    have full9 : L a = 2 ^ n - 1 ↔ ∀ x, x < n → Rch (cEE n A) a x := by
      constructor
      · intro w x hx
        refine (La.2 x hx).mp ?_
        rw [w, Nat.testBit_two_pow_sub_one]
        exact decide_eq_true hx
      · intro w
        refine bits_eq fun x => ?_
        rw [Nat.testBit_two_pow_sub_one, decide_eq_true_iff]
        constructor
        · intro y
          refine Classical.byContradiction fun hx => ?_
          have := Nat.testBit_lt_two_pow (x := L a) (i := x) (Nat.lt_of_lt_of_le La.1 (Nat.pow_le_pow_right (by decide) (by omega)))
          rw [this] at y
          cases y
        · intro y
          exact (La.2 x y).mpr (w x y)
    have hb7 := h7.bit
    refine b_W_isClosedNet_86 ⟨⟨by omega, by omega⟩, ⟨by omega, by omega⟩, fun z => absurd z (by omega), fun _ => ?_⟩
    simp only [hm, hf a ha9, Int.toNat_natCast, e1]
    rw [show (a : Int) + 1 = ((a + 1 : Nat) : Int) by omega, zand0, zand01 hb7]
    refine ⟨trivial, ⟨by omega, by omega⟩, ⟨by omega, by omega⟩, ⟨by omega, by omega⟩, ⟨by omega, by omega⟩, fun z => ih (a + 1) 0 _ _ (by omega) (Or.inr ⟨rfl, fun w => z ?_⟩), fun z => ih (a + 1) i7 _ _ (by omega) (h7.cg ⟨fun w => ⟨w.1, fun i hi => ?_⟩, fun w => ⟨w.1, fun i hi => w.2 i (by omega)⟩⟩)⟩
    · have := full9.mpr (w.2 a (Nat.lt_succ_self a))
      omega
    · by_cases e : i = a
      · rw [e]
        exact full9.mp (by omega)
      · exact w.2 i (by omega)
end CLA
