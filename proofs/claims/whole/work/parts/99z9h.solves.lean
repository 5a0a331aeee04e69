/-! Bounds of quotients; the reference's elimination. -/
def Qb (e : Int) (x : Rat) : Prop := ∃ p q : Int, 0 < q ∧ q ≤ e ∧ -e ≤ p ∧ p ≤ e ∧ x * (q : Rat) = (p : Rat)
theorem Qb.mul {e f : Int} {x y : Rat} (h : Qb e x) (h2 : Qb f y) : Qb (e * f) (x * y) := by
  obtain ⟨p, q, q0, q1, p1, p2, hx⟩ := h
  obtain ⟨p', q', q0', q1', p1', p2', hy⟩ := h2
  have m := abs_mul_le ⟨p1, p2⟩ ⟨p1', p2'⟩
  refine ⟨p * p', q * q', Int.mul_pos q0 q0', Int.mul_le_mul q1 q1' (by omega) (by omega), m.1, m.2, ?_⟩
  rw [Rat.intCast_mul, Rat.intCast_mul, ← hx, ← hy]
  grind
theorem qd_pos {x y a b : Rat} (hy : y ≠ 0) : x / y * (a * (y * b)) = x * a * b := by grind
theorem qd_neg {x y a b : Rat} (hy : y ≠ 0) : x / y * (a * -(y * b)) = -(x * a * b) := by grind
theorem int_ne {z : Int} (h : z ≠ 0) : ((z : Int) : Rat) ≠ 0 := fun e => h (Rat.intCast_inj.mp (e.trans (show (0 : Rat) = ((0 : Int) : Rat) from rfl)))
theorem Qb.div {e f : Int} {x y : Rat} (h : Qb e x) (h2 : Qb f y) (hy0 : y ≠ 0) : Qb (e * f) (x / y) := by
  obtain ⟨p, q, q0, q1, p1, p2, hx⟩ := h
  obtain ⟨p', q', q0', q1', p1', p2', hy⟩ := h2
  have hp' : p' ≠ 0 := by
    intro z
    rw [z] at hy
    rcases Rat.mul_eq_zero.mp hy with a | a
    · exact hy0 a
    · exact int_ne (show q' ≠ 0 by omega) a
  have m1 := abs_mul_le ⟨p1, p2⟩ (show -f ≤ q' ∧ q' ≤ f from ⟨by omega, q1'⟩)
  rcases Int.lt_or_gt_of_ne hp' with z | z
  · refine ⟨-(p * q'), q * (-p'), Int.mul_pos q0 (by omega), Int.mul_le_mul q1 (by omega) (by omega) (by omega), by omega, by omega, ?_⟩
    rw [Rat.intCast_mul, Rat.intCast_neg, Rat.intCast_neg, Rat.intCast_mul, ← hx, ← hy]
    exact qd_neg hy0
  · refine ⟨p * q', q * p', Int.mul_pos q0 (by omega), Int.mul_le_mul q1 (by omega) (by omega) (by omega), m1.1, m1.2, ?_⟩
    rw [Rat.intCast_mul, Rat.intCast_mul, ← hx, ← hy]
    exact qd_pos hy0
theorem Qb.mono {e f : Int} {x : Rat} (h : Qb e x) (hf : e ≤ f) : Qb f x := by
  obtain ⟨p, q, q0, q1, p1, p2, hx⟩ := h
  exact ⟨p, q, q0, by omega, by omega, by omega, hx⟩
theorem Qb.bd {e : Int} {x : Rat} {k : Nat} (h : Qb e x) (hk : e < 10000 ^ k) : Bd x k := by
  obtain ⟨p, q, q0, q1, p1, p2, hx⟩ := h
  obtain ⟨y, rfl⟩ : ∃ y : Nat, q = y := ⟨q.toNat, by omega⟩
  have hy : 0 < y := by omega
  have ex : x = mkRat p y := by
    rw [Rat.mkRat_eq_div]
    have h1 : (((y : Nat) : Int) : Rat) ≠ 0 := int_ne (by omega)
    have h2 : (((y : Nat) : Int) : Rat) = (y : Rat) := rfl
    rw [h2] at h1 hx
    rw [← hx]
    generalize (y : Rat) = u at *
    grind
  rw [ex]
  obtain ⟨e1, e2, _⟩ := mk_parts (s := p.sign) (n := p) (p := p.natAbs) hy (sign_cases p) (fun e => by rw [Int.sign_eq_zero_iff_zero.mp e]; rfl) (sign_natAbs p)
  have h1 : p.natAbs / Nat.gcd p.natAbs y ≤ p.natAbs := Nat.div_le_self _ _
  have h2 : y / Nat.gcd p.natAbs y ≤ y := Nat.div_le_self _ _
  refine ⟨?_, ?_⟩
  · rw [e1]; omega
  · rw [e2]; omega
theorem Wd_D {W : Nat} {r : Nat → Rat} {w : (Nat → Bool) → Rat} {S : Nat → Bool} {D P : Rat} : Wd W r w S * (P * D) = Wd W (fun c => r c * D) (fun S => w S * P) S := by
  unfold Wd
  rw [Rat.mul_comm, ← sumQ_mul]
  refine sumQ_congr W fun c _ => ?_
  by_cases e : S c = true
  · rw [if_pos e, if_pos e]; grind
  · rw [if_neg e, if_neg e]; grind
theorem wed_D {W : Nat} {T : Nat → Nat → Rat} {D : Rat} : ∀ k S, wed W T k S * D ^ k = wed W (fun a c => T a c * D) k S := by
  intro k
  induction k with
  | zero => intro S; show (1 : Rat) * D ^ 0 = 1; rw [Rat.pow_zero]; grind
  | succ k ih =>
    intro S
    show Wd W (T k) (wed W T k) S * D ^ (k + 1) = Wd W (fun c => T k c * D) (wed W (fun a c => T a c * D) k) S
    rw [Rat.pow_succ, Wd_D]
    exact Wd_congr (fun S' => ih S') S
theorem pw_base {a b : Int} (h0 : 0 ≤ a) (h : a ≤ b) : ∀ k : Nat, a ^ k ≤ b ^ k := by
  intro k
  induction k with
  | zero => rw [Int.pow_zero, Int.pow_zero]; exact Int.le_refl 1
  | succ k ih =>
    rw [Int.pow_succ, Int.pow_succ]
    exact Int.mul_le_mul ih h h0 (Int.pow_nonneg (by omega))
def Eb : Int := 8000000 ^ 8
theorem cast_pow (D : Int) : ∀ k : Nat, (((D ^ k : Int)) : Rat) = (D : Rat) ^ k := by
  intro k
  induction k with
  | zero => rw [Int.pow_zero, Rat.pow_zero]; rfl
  | succ k ih => rw [Int.pow_succ, Rat.pow_succ, Rat.intCast_mul, ih]
theorem wed_Qb {W k : Nat} {T : Nat → Nat → Rat} {D : Int} (hW : W ≤ 8) (hk : k ≤ 8) (hD : 1 ≤ D ∧ D ≤ 8000000) (hT : ∀ a c, a < k → c < W → Wh (T a c * (D : Rat)) 1000000) (S : Nat → Bool) : Qb Eb (wed W T k S) := by
  obtain ⟨z, z1, z2, z3⟩ := wed_whole (R := fun a c => T a c * (D : Rat)) (a := 1000000) (by decide) k hT S
  rw [← wed_D, ← cast_pow] at z1
  have b1 : ((W : Int) * 1000000) ^ k ≤ 8000000 ^ k := pw_base (by omega) (by omega) k
  have b2 : (8000000 : Int) ^ k ≤ 8000000 ^ 8 := pw_mono (by decide) hk
  have b3 : D ^ k ≤ 8000000 ^ k := pw_base (by omega) hD.2 k
  have b4 : 0 < D ^ k := Int.pow_pos (by omega)
  exact ⟨z, D ^ k, b4, by unfold Eb; omega, by unfold Eb; omega, by unfold Eb; omega, z1⟩
theorem Wd_Qb {W k i : Nat} {T : Nat → Nat → Rat} {D : Int} (hW : W ≤ 8) (hk : k + 1 ≤ 8) (hD : 1 ≤ D ∧ D ≤ 8000000) (hT : ∀ a c, a < k ∨ a = i → c < W → Wh (T a c * (D : Rat)) 1000000) (S : Nat → Bool) : Qb Eb (Wd W (T i) (wed W T k) S) := by
  have h := wed_Qb (T := upR T k (T i)) (k := k + 1) hW hk hD (fun a c ha hc => by
    by_cases e : a = k
    · rw [e, show upR T k (T i) k = T i from if_pos rfl]
      exact hT i c (Or.inr rfl) hc
    · rw [show upR T k (T i) a = T a from if_neg e]
      exact hT a c (Or.inl (by omega)) hc) S
  have e : wed W (upR T k (T i)) (k + 1) = Wd W (T i) (wed W T k) := by
    show Wd W (upR T k (T i) k) (wed W (upR T k (T i)) k) = _
    rw [show upR T k (T i) k = T i from if_pos rfl, wed_off k (Nat.le_refl k)]
  rw [e] at h
  exact h
theorem Eb_r : (1 : Int) ≤ Eb ∧ Eb * Eb ≤ Eb * Eb * (Eb * Eb) ∧ Eb * Eb * (Eb * Eb) < 10000 ^ 56 ∧ Eb * Eb * (Eb * Eb) * (Eb * Eb * (Eb * Eb)) < 10000 ^ 112 ∧ Eb * Eb * (Eb * Eb) * (Eb * Eb * (Eb * Eb)) * (Eb * Eb * (Eb * Eb)) < 10000 ^ 168 := by decide +kernel
theorem El.qb {R X : Nat → Nat → Rat} {m k i j : Nat} {D : Int} (h : El R X m k) (hk : k ≤ m) (hm : m ≤ 7) (hi : i < m) (hj : j ≤ m) (hD : 1 ≤ D ∧ D ≤ 8000000) (hT : ∀ a c, a < m → c ≤ m → Wh (R a c * (D : Rat)) 1000000) (hne : ∀ r, r ≤ k → Dd R r ≠ 0) : Qb (Eb * Eb * (Eb * Eb)) (X i j) := by
  have qD : ∀ r, r ≤ m → Qb Eb (Dd R r) := fun r hr => wed_Qb (by omega) (by omega) hD (fun a c ha hc => hT a c (by omega) (by omega)) _
  have dk := hne k (Nat.le_refl k)
  by_cases e : k ≤ i
  · have hl := h.low (j := j) e hi
    have q1 : Qb Eb (Wd (k + 1) (colR R (fc k j) i) (wed (k + 1) (colR R (fc k j)) k) (full (k + 1))) := Wd_Qb (by omega) (by omega) hD (fun a c ha hc => by
      show Wh (R a (if c = k then j else c) * (D : Rat)) 1000000
      refine hT a _ (by omega) ?_
      split <;> omega) _
    rw [← hl] at q1
    have q2 := q1.div (qD k hk) dk
    have e2 : X i j * Dd R k / Dd R k = X i j := by generalize X i j = u at *; generalize Dd R k = v at *; grind
    rw [e2] at q2
    exact q2.mono Eb_r.2.1
  · have hl := h.high (j := j) hk (show i < k by omega)
    have q1 : Qb Eb (wed k (colR R (fc i j)) k (full k)) := wed_Qb (by omega) (by omega) hD (fun a c ha hc => by
      show Wh (R a (if c = i then j else c) * (D : Rat)) 1000000
      refine hT a _ (by omega) ?_
      split <;> omega) _
    have hx := (h.2.2 i (by omega)).2
    have q2 := (qD (i + 1) (by omega)).div (qD i (by omega)) (hne i (by omega))
    have q3 := (q1.div (qD k hk) dk).mul q2
    have di := hne i (by omega)
    have e2 : wed k (colR R (fc i j)) k (full k) / Dd R k * (Dd R (i + 1) / Dd R i) = X i j := by
      rw [← hx]
      generalize wed k (colR R (fc i j)) k (full k) = w at *
      generalize X i j = u at *
      generalize X i i = t at *
      generalize Dd R k = v at *
      generalize Dd R i = s at *
      grind
    rw [e2] at q3
    exact q3
/-- the fractions that elimination writes -/
abbrev solF : List Nat := List.range 67
theorem FR.sol {M M' : Mem} {i : Nat} (h : FR [i] M M') (hi : i < 67) : FR solF M M' := h.mono fun a ha => by
  simp at ha ⊢
  omega
theorem s_place {d : Nat} {M : Mem} {i j : Nat} : Post (d + 1) cM_place [oM, .inl (i : Int), .inl (j : Int)] M (fun v M' => M' = M ∧ v = ((8 * i + j : Nat) : Int)) := by
  intro Q hQ
  refine e_M_place (b_M_place_0 (hQ _ _ ⟨rfl, ?_⟩))
  omega
theorem s_swapsRows {d : Nat} {M : Mem} {k n : Nat} (hk : k ≤ 7) (hn : n ≤ 7) : Post (d + 1) cM_swapsRows [oM, .inl (k : Int), .inl (k : Int), .inl (n : Int)] M (fun _ M' => M' = M) := by
  intro Q hQ
  exact e_M_swapsRows (b_M_swapsRows_0 (b_M_swapsRows_2 ⟨⟨by decide, by decide⟩, ⟨by omega, by omega⟩, fun z => absurd z (by omega), fun _ => ⟨⟨by omega, by omega⟩, ⟨by omega, by omega⟩, fun _ => hQ _ _ rfl, fun z => absurd rfl z⟩⟩))
def TQ (M : Mem) (n : Nat) (X : Nat → Nat → Rat) : Prop := ∀ a c, a < n → c ≤ n → FQ M (8 * a + c) (X a c)
theorem FQ.sgr {M : Mem} {f : Nat} {q : Rat} (h : FQ M f q) : R32 (M 165 f) := by
  have := h.sg
  exact ⟨by omega, by omega⟩
theorem FQ.zero {M : Mem} {f : Nat} {q : Rat} (h : FQ M f q) : M 165 f = 0 ↔ q = 0 := by
  rw [h.2.2, Int.sign_eq_zero_iff_zero, Rat.num_eq_zero]
theorem s_solves {d : Nat} {M : Mem} {n : Nat} {T : Nat → Nat → Rat} {D : Int} (hn : n ≤ 7) (hD : 1 ≤ D ∧ D ≤ 8000000) (hT : ∀ a c, a < n → c ≤ n → Wh (T a c * (D : Rat)) 1000000) (hne : ∀ j, j ≤ n → Dd T j ≠ 0) (hq : TQ M n T) : Post (d + 6) cM_solves [oM, .inl (n : Int)] M (fun _ M' => FR solF M M' ∧ ∀ i, i < n → FQ M' (56 + i) (ansQ T n i)) := by
  intro Q hQ
  obtain ⟨_, _, r56, r112, r168⟩ := Eb_r
  have last : ∀ (f k : Nat), k + f = n → ∀ M1 X o3 o4 o5, FR solF M M1 → El T X n n → TQ M1 n X → (∀ i, i < k → FQ M1 (56 + i) (ansQ T n i)) → L_M_solves_83 (d + 5) Q M1 (n : Int) (k : Int) o3 o4 o5 := by
    intro f
    induction f with
    | zero =>
      intro k hk M1 X o3 o4 o5 f1 hE hX hall
      have hk : k = n := by omega
      subst hk
      exact b_M_solves_83 ⟨⟨by omega, by omega⟩, ⟨by omega, by omega⟩, fun _ => hQ _ _ ⟨f1, hall⟩, fun z => absurd (Int.le_refl _) z⟩
    | succ f ih =>
      intro k hk M1 X o3 o4 o5 f1 hE hX hall
      refine b_M_solves_83 ⟨⟨by omega, by omega⟩, ⟨by omega, by omega⟩, fun z => absurd z (by omega), fun _ => ?_⟩
      refine (s_place (d := d + 4) (i := k) (j := n)).cal fun v1 M2 hM2 => ?_
      obtain ⟨rfl, rfl⟩ := hM2
      refine (s_place (d := d + 4) (i := k) (j := k)).cal fun v1 M2 hM2 => ?_
      obtain ⟨rfl, rfl⟩ := hM2
      rw [show 56 + (k : Int) = ((56 + k : Nat) : Int) by omega]
      refine (s_divides (d := d) (a := 8 * k + n) (b := 8 * k + k) (c := 56 + k) (ka := 56) (kb := 56) (by omega) (by omega) (by omega) (hX k n (by omega) (by omega)) (hX k k (by omega) (by omega)) (hE.2.2 k (by omega)).1 ((hE.qb (Nat.le_refl n) hn (by omega) (by omega) hD hT hne).bd r56) ((hE.qb (Nat.le_refl n) hn (by omega) (by omega) hD hT hne).bd r56) (by decide)).cal fun v3 M3 hM3 => ?_
      obtain ⟨f3, g3⟩ := hM3
      rw [show (k : Int) + 1 = ((k + 1 : Nat) : Int) by omega]
      refine ih (k + 1) (by omega) M3 X _ _ _ (f1.tr (f3.sol (by omega))) hE (fun a c ha hc => (hX a c ha hc).kept f3 (by omega) (by simp; omega)) fun i hi => ?_
      by_cases e : i = k
      · rw [e]
        have := hE.answer (j := n) (show k < n by omega) (hne n (Nat.le_refl n))
        rw [this] at g3
        exact g3
      · exact (hall i (by omega)).kept f3 (by omega) (by simp; omega)
  have outer : ∀ (f k : Nat), k + f = n → ∀ M1 X o3 o4 o5, FR solF M M1 → El T X n k → TQ M1 n X → L_M_solves_2 (d + 5) Q M1 (n : Int) (k : Int) o3 o4 o5 := by
    intro f
    induction f with
    | zero =>
      intro k hk M1 X o3 o4 o5 f1 hE hX
      have hk : k = n := by omega
      subst hk
      exact b_M_solves_2 ⟨⟨by omega, by omega⟩, ⟨by omega, by omega⟩, fun _ => last k 0 (by omega) M1 X _ _ _ f1 hE hX fun i h => absurd h (Nat.not_lt_zero i), fun z => absurd (Int.le_refl _) z⟩
    | succ f ih =>
      intro k hk M1 X o3 o4 o5 f1 hE hX
      obtain ⟨hpn, hE2⟩ := hE.step (show k < n by omega) (hne (k + 1) (by omega))
      have B : ∀ i j, i < n → j ≤ n → Qb (Eb * Eb * (Eb * Eb)) (X i j) := fun i j hi hj => hE.qb (by omega) hn hi hj hD hT fun r hr => hne r (by omega)
      refine b_M_solves_2 ⟨⟨by omega, by omega⟩, ⟨by omega, by omega⟩, fun z => absurd z (by omega), fun _ => ?_⟩
      refine b_M_solves_7 ?_
      refine (s_place (d := d + 4) (i := k) (j := k)).cal fun v1 M2 hM2 => ?_
      obtain ⟨rfl, rfl⟩ := hM2
      rw [Int.toNat_natCast]
      have hkk := hX k k (by omega) (by omega)
      refine ⟨⟨by omega, by omega⟩, hkk.sgr, fun _ => ?_, fun z => absurd (fun z2 => hpn (hkk.zero.mp z2)) z⟩
      refine (s_swapsRows (d := d + 4) (k := k) (n := n) (by omega) hn).cal fun v3 M3 hM3 => ?_
      subst hM3
      have rows : ∀ (g a : Nat), a + g = n → ∀ M4 o3 o5, FR solF M M4 → (∀ r q, r < n → q ≤ n → FQ M4 (8 * r + q) (if r < a then stq X k n r q else X r q)) → L_M_solves_24 (d + 5) Q M4 (n : Int) (k : Int) o3 (a : Int) o5 := by
        intro g
        induction g with
        | zero =>
          intro a ha M4 o3 o5 f4 hall
          have ha : a = n := by omega
          subst ha
          refine b_M_solves_24 ⟨⟨by omega, by omega⟩, ⟨by omega, by omega⟩, fun _ => ?_, fun z => absurd (Int.le_refl _) z⟩
          rw [show (k : Int) + 1 = ((k + 1 : Nat) : Int) by omega]
          refine ih (k + 1) (by omega) M4 _ _ _ _ f4 hE2 fun r q hr hq => ?_
          have := hall r q hr hq
          rw [if_pos hr] at this
          exact this
        | succ g ihg =>
          intro a ha M4 o3 o5 f4 hall
          have nx : (∀ q, q ≤ n → stq X k n a q = X a q) → ∀ o3 o5, L_M_solves_24 (d + 5) Q M4 (n : Int) (k : Int) o3 ((a : Int) + 1) o5 := fun hs o3 o5 => by
            rw [show (a : Int) + 1 = ((a + 1 : Nat) : Int) by omega]
            refine ihg (a + 1) (by omega) M4 _ _ f4 fun r q hr hq => ?_
            have := hall r q hr hq
            by_cases e : r = a
            · subst e
              rw [if_neg (Nat.lt_irrefl r)] at this
              rw [if_pos (Nat.lt_succ_self r), hs q hq]
              exact this
            · by_cases e2 : r < a
              · rw [if_pos e2] at this
                rw [if_pos (show r < a + 1 by omega)]
                exact this
              · rw [if_neg e2] at this
                rw [if_neg (show ¬ r < a + 1 by omega)]
                exact this
          refine b_M_solves_24 ⟨⟨by omega, by omega⟩, ⟨by omega, by omega⟩, fun z => absurd z (by omega), fun _ => ⟨⟨by omega, by omega⟩, fun z => ?_, fun z => ?_⟩⟩
          · have e : a = k := by omega
            exact nx (fun q _ => by rw [e, stq_k]) _ _
          · have hak : a ≠ k := by omega
            have hax : FQ M4 (8 * a + k) (X a k) := by
              have := hall a k (by omega) (by omega)
              rw [if_neg (Nat.lt_irrefl a)] at this
              exact this
            have hkr : ∀ M5, (∀ r q, r < n → q ≤ n → FQ M5 (8 * r + q) (if r < a then stq X k n r q else X r q)) → ∀ q, q ≤ n → FQ M5 (8 * k + q) (X k q) := fun M5 h q hq => by
              have := h k q (by omega) hq
              rw [stq_k] at this
              by_cases e : k < a
              · rw [if_pos e] at this; exact this
              · rw [if_neg e] at this; exact this
            refine (s_place (d := d + 4) (i := a) (j := k)).cal fun v1 M2 hM2 => ?_
            obtain ⟨rfl, rfl⟩ := hM2
            rw [Int.toNat_natCast]
            refine ⟨⟨by omega, by omega⟩, hax.sgr, fun z2 => ?_, fun z2 => ?_⟩
            · refine (s_place (d := d + 4) (i := a) (j := k)).cal fun v1 M2 hM2 => ?_
              obtain ⟨rfl, rfl⟩ := hM2
              refine (s_place (d := d + 4) (i := k) (j := k)).cal fun v1 M2 hM2 => ?_
              obtain ⟨rfl, rfl⟩ := hM2
              refine (s_divides (d := d) (a := 8 * a + k) (b := 8 * k + k) (c := 65) (ka := 56) (kb := 56) (by omega) (by omega) (by decide) hax (hkr _ hall k (by omega)) hpn ((B a k (by omega) (by omega)).bd r56) ((B k k (by omega) (by omega)).bd r56) (by decide)).cal fun v5 M5 hM5 => ?_
              obtain ⟨f5, g5⟩ := hM5
              have inner : ∀ (e c : Nat), c + e = n + 1 → k ≤ c → ∀ M6, FR solF M M6 → FQ M6 65 (X a k / X k k) → (∀ r q, r < n → q ≤ n → FQ M6 (8 * r + q) (if r < a ∨ (r = a ∧ q < c) then stq X k n r q else X r q)) → L_M_solves_52 (d + 5) Q M6 (n : Int) (k : Int) o3 (a : Int) (c : Int) := by
                intro e
                induction e with
                | zero =>
                  intro c hc hkc M6 f6 g6 hall6
                  refine b_M_solves_52 ⟨⟨by omega, by omega⟩, ⟨by omega, by omega⟩, fun _ => ?_, fun z => absurd (by omega) z⟩
                  rw [show (a : Int) + 1 = ((a + 1 : Nat) : Int) by omega]
                  refine ihg (a + 1) (by omega) M6 _ _ f6 fun r q hr hq => ?_
                  have := hall6 r q hr hq
                  by_cases e : r < a + 1
                  · rw [if_pos (by omega)] at this
                    rw [if_pos e]; exact this
                  · rw [if_neg (by omega)] at this
                    rw [if_neg e]; exact this
                | succ e ihe =>
                  intro c hc hkc M6 f6 g6 hall6
                  refine b_M_solves_52 ⟨⟨by omega, by omega⟩, ⟨by omega, by omega⟩, fun z => absurd z (by omega), fun _ => ?_⟩
                  have hkc6 : FQ M6 (8 * k + c) (X k c) := by
                    have := hall6 k c (by omega) (by omega)
                    rw [stq_k] at this
                    by_cases e : k < a ∨ (k = a ∧ c < c)
                    · rw [if_pos e] at this; exact this
                    · rw [if_neg e] at this; exact this
                  have hac6 : FQ M6 (8 * a + c) (X a c) := by
                    have := hall6 a c (by omega) (by omega)
                    rw [if_neg (by omega)] at this
                    exact this
                  have By := (B a k (by omega) (by omega)).div (B k k (by omega) (by omega)) hpn
                  have Bz := By.mul (B k c (by omega) (by omega))
                  refine (s_place (d := d + 4) (i := k) (j := c)).cal fun v1 M2 hM2 => ?_
                  obtain ⟨rfl, rfl⟩ := hM2
                  refine (s_multiplies (d := d) (a := 65) (b := 8 * k + c) (c := 66) (ka := 112) (kb := 56) (by decide) (by omega) (by decide) g6 hkc6 (By.bd r112) ((B k c (by omega) (by omega)).bd r56) (by decide)).cal fun v7 M7 hM7 => ?_
                  obtain ⟨f7, g7⟩ := hM7
                  refine (s_place (d := d + 4) (i := a) (j := c)).cal fun v1 M2 hM2 => ?_
                  obtain ⟨rfl, rfl⟩ := hM2
                  refine (s_place (d := d + 4) (i := a) (j := c)).cal fun v1 M2 hM2 => ?_
                  obtain ⟨rfl, rfl⟩ := hM2
                  refine (s_subs (d := d) (a := 8 * a + c) (b := 66) (c := 8 * a + c) (ka := 56) (kb := 168) (by omega) (by decide) (by omega) (hac6.kept f7 (by omega) (by simp; omega)) g7 ((B a c (by omega) (by omega)).bd r56) (Bz.bd r168) (by decide)).cal fun v8 M8 hM8 => ?_
                  obtain ⟨f8, g8⟩ := hM8
                  rw [show (c : Int) + 1 = ((c + 1 : Nat) : Int) by omega]
                  refine ihe (c + 1) (by omega) (by omega) M8 ((f6.tr (f7.sol (by decide))).tr (f8.sol (by omega))) ((g6.kept f7 (by decide) (by decide)).kept f8 (by decide) (by simp; omega)) fun r q hr hq => ?_
                  have := hall6 r q hr hq
                  by_cases e : r = a ∧ q = c
                  · rw [if_pos (by omega), e.1, e.2, stq_lo (by omega) hak]
                    exact g8
                  · have this := (this.kept f7 (by omega) (by simp; omega)).kept f8 (by omega) (by simp; omega)
                    by_cases e2 : r < a ∨ (r = a ∧ q < c)
                    · rw [if_pos e2] at this
                      rw [if_pos (by omega)]; exact this
                    · rw [if_neg e2] at this
                      rw [if_neg (by omega)]; exact this
              refine inner (n + 1 - k) k (by omega) (Nat.le_refl k) M5 (f4.tr (f5.sol (by decide))) g5 fun r q hr hq => ?_
              have := (hall r q hr hq).kept f5 (by omega) (by simp; omega)
              by_cases e : r < a
              · rw [if_pos e] at this
                rw [if_pos (Or.inl e)]; exact this
              · rw [if_neg e] at this
                by_cases e2 : r = a ∧ q < k
                · rw [if_pos (Or.inr e2), stq_lo hr (by omega)]
                  show FQ M5 (8 * r + q) (X r q - X r k / X k k * X k q)
                  rw [hE.2.1 k q (by omega) e2.2 (by omega), show X r q - X r k / X k k * 0 = X r q by grind]
                  exact this
                · rw [if_neg (by omega)]; exact this
            · have h0 : X a k = 0 := hax.zero.mp (Classical.not_not.mp z2)
              refine nx (fun q _ => ?_) _ _
              rw [stq_lo (show a < n by omega) hak]
              show X a q - X a k / X k k * X k q = X a q
              rw [h0]
              grind
      exact rows n 0 (by omega) M3 _ _ f1 fun r q hr hq => by
        rw [if_neg (Nat.not_lt_zero r)]
        exact hX r q hr hq
  exact e_M_solves (b_M_solves_0 (outer n 0 (by omega) M T _ _ _ FR.rfl' .start hq))
