/-! isNet: who leads outside. -/
theorem bit1 {L b : Nat} (hL : L < 8) (hb : b < 3) : zand (((L : Nat) : Int) / 2 ^ b) 1 = if L.testBit b = true then 1 else 0 := bitT L hL b hb
/-- some way leads outside -/
def outP (n : Nat) (Tp : Nat → Nat → Int) (x : Nat) : Prop := rowS Tp x n < 4
def edP (Tp : Nat → Nat → Int) (x y : Nat) : Prop := 0 < Tp x y
def RXp (n : Nat) (A : Nat → Nat → Int) (i : Nat) : Prop := ∃ j, j < n ∧ Rch (cEE n A) i j ∧ rowS A j n < 100
abbrev Lvk (n : Nat) (Tp : Nat → Nat → Int) : Nat → Nat → Prop := Bk n (edP Tp) (fun _ => False) (outP n Tp)
def LvI (n : Nat) (Tp A : Nat → Nat → Int) (t a L : Nat) : Prop := L < 2 ^ n ∧ (∀ x, L.testBit x = true → x < n ∧ RXp n A x) ∧ ∀ x, x < n → (Lvk n Tp t x → L.testBit x = true) ∧ (x < a → Lvk n Tp (t + 1) x → L.testBit x = true)
theorem LvI.or {n t a L y : Nat} {Tp A : Nat → Nat → Int} (h : LvI n Tp A t a L) (hy : y < n) (hr : RXp n A y) : LvI n Tp A t a (L ||| 2 ^ y) := by
  obtain ⟨h1, h2, h3⟩ := h
  refine ⟨or_lt2 h1 hy, fun x hx => ?_, fun x hx => ⟨fun w => ?_, fun w w2 => ?_⟩⟩
  · rw [or_bit, Bool.or_eq_true, decide_eq_true_iff] at hx
    rcases hx with hx | rfl
    · exact h2 x hx
    · exact ⟨hy, hr⟩
  · rw [or_bit, Bool.or_eq_true]; exact Or.inl ((h3 x hx).1 w)
  · rw [or_bit, Bool.or_eq_true]; exact Or.inl ((h3 x hx).2 w w2)
theorem pow_8 {n : Nat} (hn : n ≤ 3) : 2 ^ n ≤ 8 := by
  have : 2 ^ n ≤ 2 ^ 3 := Nat.pow_le_pow_right (by decide) hn
  exact this
section NET2
variable {d : Nat} {Q : LQ} {M : Mem} {C : LMem} {r r4 r5 r6 n kc : Nat} {Pp : Nat → Nat} {Tp A : Nat → Nat → Int} {o3 : Option PV}
theorem nt_151 (hn : 1 ≤ n ∧ n ≤ 3) (hM : MxQ 3 0 C r6 n n Pp Tp) (hT : ∀ i j, i < n → j < n → 0 ≤ Tp i j ∧ Tp i j ≤ 4) (hA : ∀ i j, i < n → j < n → A i j = 25 * Tp i j) {tt a : Nat} (ha : a < n) {i8 : Int}
    (hN : ∀ (L : Nat) (o10 o11 : Option PV), LvI n Tp A tt (a + 1) L → L_W_isNet_144 (d + 131) Q M C kc r (n : Int) o3 r4 r5 r6 (L : Int) i8 ((a : Int) + 1) o10 o11 none none none none none none) :
    ∀ (u b L : Nat), b + u = n → LvI n Tp A tt a L → (∀ c, c < b → edP Tp a c → Lvk n Tp tt c → L.testBit a = true) → L_W_isNet_151 (d + 131) Q M C kc r (n : Int) o3 r4 r5 r6 (L : Int) i8 (a : Int) (4 - rowS Tp a b) (b : Int) none none none none none none := by
  have p8 := pow_8 hn.2
  obtain ⟨⟨f6, f1, f2⟩, m2, -⟩ := hM
  obtain ⟨gr, g1, g2⟩ := m2 a ha
  have hrs : ∀ b, b ≤ n → 0 ≤ rowS Tp a b ∧ rowS Tp a b ≤ 4 * (b : Int) := fun b => by
    induction b with
    | zero => intro _; exact ⟨Int.le_refl 0, Int.le_refl 0⟩
    | succ b ih =>
      intro hb
      have h1 := ih (by omega)
      have h2 := hT a b ha (by omega)
      show 0 ≤ rowS Tp a b + Tp a b ∧ rowS Tp a b + Tp a b ≤ _
      omega
  intro u
  induction u with
  | zero =>
    intro b L hb hL hc
    obtain rfl : b = n := by omega
    have hL8 : L < 8 := Nat.lt_of_lt_of_le hL.1 p8
    have h9 := hrs b (Nat.le_refl b)
    refine b_W_isNet_151 ⟨⟨by omega, by omega⟩, ⟨by omega, by omega⟩, fun _ => ⟨⟨by omega, by omega⟩, fun z => ?_, fun z => ⟨⟨by omega, by omega⟩, ?_⟩⟩, fun z => absurd (Int.le_refl _) z⟩
    · refine hN L _ _ ⟨hL.1, hL.2.1, fun x hx => ⟨(hL.2.2 x hx).1, fun w w2 => ?_⟩⟩
      by_cases e : x = a
      · subst e
        rcases w2 with w2 | w2 | ⟨c, c1, c2, c3⟩
        · exact (hL.2.2 x hx).1 w2
        · exact absurd w2 (by unfold outP; omega)
        · exact hc c c1 c2 c3
      · exact (hL.2.2 x hx).2 (by omega) w2
    · obtain ⟨e1, e2⟩ := p2i a (by omega)
      rw [Int.toNat_natCast, e1, zor_nat (by omega) (by omega)]
      have hx0 : RXp b A a := ⟨a, ha, Rch.refl a, by rw [row_25 b (fun j hj => hA a j ha hj)]; omega⟩
      have h2 := hL.or ha hx0
      refine hN _ _ _ ⟨h2.1, h2.2.1, fun x hx => ⟨(h2.2.2 x hx).1, fun w w2 => ?_⟩⟩
      by_cases e : x = a
      · rw [e, or_bit]; simp
      · exact (h2.2.2 x hx).2 (by omega) w2
  | succ u ih =>
    intro b L hb hL hc
    have hb9 : b < n := by omega
    have hL8 : L < 8 := Nat.lt_of_lt_of_le hL.1 p8
    have h9 := hrs b (by omega)
    have hTb := hT a b ha hb9
    have hbt := bit1 hL8 (show b < 3 by omega)
    have e4 : 4 - rowS Tp a b - Tp a b = 4 - rowS Tp a (b + 1) := by
      show _ = 4 - (rowS Tp a b + Tp a b)
      omega
    refine b_W_isNet_151 ⟨⟨by omega, by omega⟩, ⟨by omega, by omega⟩, fun z => absurd z (by omega), fun _ => ?_⟩
    simp only [f1, f2 a ha, Int.toNat_natCast, cellAt, g1, g2 b hb9, e4, hbt]
    rw [show (b : Int) + 1 = ((b + 1 : Nat) : Int) by omega]
    refine ⟨⟨by decide, by decide⟩, ⟨by omega, by omega⟩, trivial, ⟨by omega, by omega⟩, trivial, ⟨by omega, by omega⟩, ⟨by omega, by omega⟩, fun z => ih (b + 1) L (by omega) hL (fun c h1 h2 h3 => ?_), fun z => ⟨⟨by omega, by omega⟩, ⟨by omega, by omega⟩, ?_, fun z2 => ih (b + 1) L (by omega) hL (fun c h1 h2 h3 => ?_), fun z2 => ⟨⟨by omega, by omega⟩, ?_⟩⟩⟩
    · by_cases e : c = b
      · rw [e] at h2
        unfold edP at h2
        omega
      · exact hc c (by omega) h2 h3
    · split <;> exact ⟨by decide, by decide⟩
    · by_cases e : c = b
      · rw [e] at h3
        have hbit := (hL.2.2 b hb9).1 h3
        rw [if_pos hbit] at z2
        exact absurd rfl z2
      · exact hc c (by omega) h2 h3
    · obtain ⟨e1, e2⟩ := p2i a (by omega)
      rw [e1, zor_nat (by omega) (by omega)]
      have hbit : L.testBit b = true := by
        cases hq : L.testBit b
        · rw [hq] at z2
          exact absurd (by decide) z2
        · rfl
      obtain ⟨-, k, k1, k2, k3⟩ := hL.2.1 b hbit
      have ed : cEE n A a b := ⟨by omega, ha, hb9, by rw [hA a b ha hb9]; omega⟩
      refine ih (b + 1) _ (by omega) (hL.or ha ⟨k, k1, Rch.of1 ed k2, k3⟩) (fun c h1 h2 h3 => ?_)
      rw [or_bit]; simp
theorem nt_139 (hn : 1 ≤ n ∧ n ≤ 3) (hM : MxQ 3 0 C r6 n n Pp Tp) (hT : ∀ i j, i < n → j < n → 0 ≤ Tp i j ∧ Tp i j ≤ 4) (hA : ∀ i j, i < n → j < n → A i j = 25 * Tp i j)
    (hN : ∀ (o7 o10 o11 : Option PV) (i8 : Int), ((i8 = 1 ∧ ratesOk n A) ∨ (i8 = 0 ∧ ¬ ratesOk n A)) → L_W_isNet_208 (d + 131) Q M C kc r (n : Int) o3 r4 r5 r6 o7 i8 0 o10 o11 none none none none none none) :
    ∀ (u tt L : Nat) (o9 o10 o11 : Option PV), tt + u = n + 1 → LvI n Tp A tt 0 L → L_W_isNet_139 (d + 131) Q M C kc r (n : Int) o3 r4 r5 r6 (L : Int) (tt : Int) o9 o10 o11 none none none none none none := by
  have p8 := pow_8 hn.2
  intro u
  induction u with
  | zero =>
    intro tt L o9 o10 o11 ht hL
    obtain rfl : tt = n + 1 := by omega
    have hL8 : L < 8 := Nat.lt_of_lt_of_le hL.1 p8
    obtain ⟨e1, e2⟩ := p2i n (by omega)
    have hp := Nat.two_pow_pos n
    have all : ratesOk n A → ∀ x, x < n → L.testBit x = true := fun hR x hx => by
      obtain ⟨j, j1, j2, j3⟩ := hR x hx
      refine (hL.2.2 x hx).1 (Bk_all (E' := cEE n A) hn.2 (fun y z w => ⟨w.2.1, w.2.2.1, ?_⟩) hx j2 ?_)
      · have := w.2.2.2
        rw [hA y z w.2.1 w.2.2.1] at this
        show 0 < Tp y z
        omega
      · rw [row_25 n (fun k hk => hA j k j1 hk)] at j3
        show rowS Tp j n < 4
        omega
    refine b_W_isNet_139 ⟨⟨by omega, by omega⟩, ⟨by omega, by omega⟩, fun _ => ?_, fun z => absurd (by omega) z⟩
    rw [Int.toNat_natCast, e1]
    refine ⟨⟨by omega, by omega⟩, ⟨by omega, by omega⟩, ⟨by omega, by omega⟩, fun z => hN _ _ _ 0 (Or.inr ⟨rfl, fun hR => z ?_⟩), fun z => hN _ _ _ 1 (Or.inl ⟨rfl, fun x hx => ?_⟩)⟩
    · have : L = 2 ^ n - 1 := bits_eq fun x => by
        rw [Nat.testBit_two_pow_sub_one, decide_eq_true_iff]
        exact ⟨fun q => (hL.2.1 x q).1, fun q => all hR x q⟩
      omega
    · have e : L = 2 ^ n - 1 := by omega
      have hb : L.testBit x = true := by rw [e, Nat.testBit_two_pow_sub_one]; exact decide_eq_true hx
      exact (hL.2.1 x hb).2
  | succ u ih =>
    intro tt L o9 o10 o11 ht hL
    have l144 : ∀ (v a L : Nat) (o10 o11 : Option PV), a + v = n → LvI n Tp A tt a L → L_W_isNet_144 (d + 131) Q M C kc r (n : Int) o3 r4 r5 r6 (L : Int) (tt : Int) (a : Int) o10 o11 none none none none none none := by
      intro v
      induction v with
      | zero =>
        intro a L o10 o11 hav hL
        obtain rfl : a = n := by omega
        refine b_W_isNet_144 ⟨⟨by omega, by omega⟩, ⟨by omega, by omega⟩, fun _ => ?_, fun z => absurd (Int.le_refl _) z⟩
        rw [show (tt : Int) + 1 = ((tt + 1 : Nat) : Int) by omega]
        exact ih (tt + 1) L _ _ _ (by omega) ⟨hL.1, hL.2.1, fun x hx => ⟨fun w => (hL.2.2 x hx).2 hx w, fun w => absurd w (Nat.not_lt_zero x)⟩⟩
      | succ v ihv =>
        intro a L o10 o11 hav hL
        refine b_W_isNet_144 ⟨⟨by omega, by omega⟩, ⟨by omega, by omega⟩, fun z => absurd z (by omega), fun _ => ?_⟩
        refine nt_151 hn hM hT hA (show a < n by omega) (fun L o10 o11 h => ?_) n 0 L (by omega) hL (fun c hc => absurd hc (Nat.not_lt_zero c))
        rw [show (a : Int) + 1 = ((a + 1 : Nat) : Int) by omega]
        exact ihv (a + 1) L _ _ (by omega) h
    exact b_W_isNet_139 ⟨⟨by omega, by omega⟩, ⟨by omega, by omega⟩, fun z => absurd z (by omega), fun _ => l144 n 0 L _ _ (by omega) hL⟩
end NET2
section NET3
variable {d : Nat} {Q : LQ} {C : LMem} {j : StJ} {l : StL} {c : StC} {nt : StN} {e : StE} {g : StG} {h : StH} {t : StT} {r r4 r5 r6 n : Nat} {o3 : Option PV}
theorem nt_208 (hn : 1 ≤ n ∧ n ≤ 3) (hnt : nt.1 = n) {i8 : Int} (h8 : (i8 = 1 ∧ ratesOk n nt.2.2.2) ∨ (i8 = 0 ∧ ¬ ratesOk n nt.2.2.2))
    (hN : ∀ (M : Mem) (kc' : Nat) (o7 o9 o10 o11 : Option PV), kc' ≤ 200 → IQ j l c nt e g h t M → L_W_isNet_253 (d + 131) Q M C kc' r (n : Int) o3 r4 r5 r6 o7 i8 o9 o10 o11 none none none none none none) :
    ∀ (u a : Nat) (M : Mem) (kc : Nat) (o7 o10 o11 : Option PV), a + u = n → kc + 12 * u ≤ 200 → IQ j l c nt e g h t M → L_W_isNet_208 (d + 131) Q M C kc r (n : Int) o3 r4 r5 r6 o7 i8 (a : Int) o10 o11 none none none none none none := by
  have r0 : R32 0 := ⟨by decide, by decide⟩
  intro u
  induction u with
  | zero =>
    intro a M kc o7 o10 o11 ha hkc q
    obtain rfl : a = n := by omega
    exact b_W_isNet_208 ⟨⟨by omega, by omega⟩, ⟨by omega, by omega⟩, fun _ => hN M kc _ _ _ _ (by omega) q, fun z => absurd (Int.le_refl _) z⟩
  | succ u ih =>
    intro a M kc o7 o10 o11 ha hkc q
    have ha9 : 0 ≤ (a : Int) ∧ (a : Int) < ((nt.1 : Nat) : Int) := by omega
    refine b_W_isNet_208 ⟨⟨by omega, by omega⟩, ⟨by omega, by omega⟩, fun z => absurd z (by omega), fun _ => ⟨by rcases h8 with ⟨w, -⟩ | ⟨w, -⟩ <;> (rw [w]; exact ⟨by decide, by decide⟩), fun _ => hN M kc _ _ _ _ (by omega) q, fun z => ⟨by omega, ?_⟩⟩⟩
    have hno : ¬ ratesOk nt.1 nt.2.2.2 := by
      rw [hnt]
      rcases h8 with ⟨w, -⟩ | ⟨-, w⟩
      · exact absurd (by omega) z
      · exact w
    refine c_rate q (a := (a : Int)) (x := 0) (y := 0) (z := 0) ha9 r0 r0 r0 _ ?_
    rintro v1 M1 C1 ⟨rfl, q1, ⟨-, rfl⟩ | ⟨w, -⟩⟩
    · refine ⟨⟨by decide, by decide⟩, fun z => absurd rfl z, fun _ => ⟨by omega, ?_⟩⟩
      refine c_growth q1 (a := (a : Int)) (x := 0) (y := 0) (z := 0) ha9 r0 r0 r0 _ ?_
      rintro v2 M2 C2 ⟨rfl, q2, ⟨-, rfl⟩ | ⟨w, -⟩⟩
      · refine ⟨⟨by decide, by decide⟩, fun z => absurd rfl z, fun _ => ⟨by omega, ?_⟩⟩
        refine c_stable q2 (a := (a : Int)) (x := 0) (y := 0) (z := 0) ha9 r0 r0 r0 _ ?_
        rintro v3 M3 C3 ⟨rfl, q3, ⟨-, rfl⟩ | ⟨w, -⟩⟩
        · refine ⟨⟨by decide, by decide⟩, fun z => absurd rfl z, fun _ => ⟨by omega, ?_⟩⟩
          refine c_numbers q3 (a := (a : Int)) (b := 0) (y := 0) (z := 0) ha9 ⟨by decide, by decide⟩ r0 r0 _ ?_
          rintro v4 M4 C4 ⟨rfl, q4, ⟨-, rfl⟩ | ⟨w, -⟩⟩
          · refine ⟨⟨by decide, by decide⟩, fun _ => ?_, fun z => absurd rfl z⟩
            rw [show (a : Int) + 1 = ((a + 1 : Nat) : Int) by omega]
            exact ih (a + 1) M4 _ _ _ _ (by omega) (by omega) q4
          · exact absurd w.1 hno
        · exact absurd w hno
      · exact absurd w hno
    · exact absurd w hno
end NET3
