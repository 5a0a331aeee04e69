/-! isReached: the chances behind some steps. -/
section RC5
variable {d : Nat} {Q : LQ} {C0 : LMem} {j : StJ} {l : StL} {nt : StN} {e : StE} {gm : StG} {h : StH} {tp : StT} {r r4 n g : Nat} {bn : Nat} {A : Nat → Nat → Int} {P : Nat → Nat} {T : Nat → Nat → Int} {M : Mem} {o1 o3 o7 o8 o15 o16 o17 : Option PV} {f s : Nat}
def CPq (C0 : LMem) (r r4 n : Nat) (P : Nat → Nat) (T : Nat → Nat → Int) (r11 : Nat) (F : Nat → Int) (C : LMem) : Prop := CBq C0 r C ∧ MxQ 3 0 C r4 n n P T ∧ (C0 r11).1 = 0 ∧ ∃ fr, C r11 = (2, n, fr) ∧ ∀ k, k < n → fr k = F k
theorem rc_296 (hn : 1 ≤ n ∧ n ≤ 4) (hTA : ∀ y x, y < n → x < n → A y x = T y x) (hA : ∀ y x, y < n → x < n → 0 ≤ A y x ∧ A y x ≤ 4) {r11 q1 : Nat} {F : Nat → Nat} {kc t : Nat} {j12 : Int} {i : Nat} (hi : i < n) (hne : r11 ≠ q1) (hz : (C0 q1).1 = 0) {fr : Nat → Int} (hfr : ∀ k, k < n → fr k = ((F k : Nat) : Int))
    (hN : ∀ (C : LMem) (o17 : Option PV), CPq C0 r r4 n P T q1 (fun y => ((dotN F A y (i + 1) : Nat) : Int)) C → C r11 = (2, n, fr) → L_W_isReached_291 (d + 130) Q M C kc o1 r4 o3 (n : Int) (bn : Int) (g : Int) o7 o8 (f : Int) (s : Int) r11 j12 (t : Int) q1 ((i : Int) + 1) o17) :
    ∀ (u k : Nat) (C : LMem), k + u = n → CPq C0 r r4 n P T q1 (fun y => ((dotN F A y (if y < k then i + 1 else i) : Nat) : Int)) C → C r11 = (2, n, fr) → L_W_isReached_296 (d + 130) Q M C kc o1 r4 o3 (n : Int) (bn : Int) (g : Int) o7 o8 (f : Int) (s : Int) r11 j12 (t : Int) q1 (i : Int) (k : Int) := by
  intro u
  induction u with
  | zero =>
    intro k C hk hC hr
    obtain rfl : k = n := by omega
    refine b_W_isReached_296 ⟨⟨by omega, by omega⟩, ⟨by omega, by omega⟩, fun _ => hN C _ ?_ hr, fun z => absurd (Int.le_refl _) z⟩
    obtain ⟨h1, h2, h3, fq, h4, h5⟩ := hC
    exact ⟨h1, h2, h3, fq, h4, fun y hy => by
      have h6 : fq y = ((dotN F A y (if y < k then i + 1 else i) : Nat) : Int) := h5 y hy
      rw [if_pos hy] at h6
      exact h6⟩
  | succ u ih =>
    intro k C hk hC hr
    have hk9 : k < n := by omega
    obtain ⟨h1, h2, h3, fq, h4, h5⟩ := hC
    obtain ⟨⟨f4, q1', q2⟩, q3, q4⟩ := id h2
    obtain ⟨ge, m1, m2⟩ := q3 i hi
    have hAk := hA i k hi hk9
    refine b_W_isReached_296 ⟨⟨by omega, by omega⟩, ⟨by omega, by omega⟩, fun z => absurd z (by omega), fun _ => ?_⟩
    simp only [h4, hr, q1', q2 i hi, Int.toNat_natCast, cellAt, m1, m2 k hk9, cup_of h4, hfr i hi]
    refine ⟨trivial, ⟨by omega, by omega⟩, trivial, ⟨by omega, by omega⟩, ⟨by decide, by decide⟩, ⟨by omega, by omega⟩, trivial, ⟨by omega, by omega⟩, ?_, ?_⟩
    · rw [← hTA i k hi hk9]; exact ⟨by omega, by omega⟩
    · refine ih (k + 1) _ (by omega) ⟨h1.set hz, h2.okd (k' := 1) h4 (by decide) (by decide), hz, _, cst_self, fun y hy => ?_⟩ (by rw [cst_ne hne]; exact hr)
      by_cases z : y = k
      · rw [z, sr_same, h5 k hk9]
        show ((dotN F A k (if k < k then i + 1 else i) : Nat) : Int) + ((F i : Nat) : Int) * T i k = ((dotN F A k (if k < k + 1 then i + 1 else i) : Nat) : Int)
        rw [if_neg (Nat.lt_irrefl k), if_pos (Nat.lt_succ_self k), ← hTA i k hi hk9]
        show _ = ((dotN F A k i + F i * (A i k).toNat : Nat) : Int)
        rw [Int.natCast_add, Int.natCast_mul, Int.toNat_of_nonneg hAk.1]
      · rw [sr_ne z, h5 y hy]
        show ((dotN F A y (if y < k then i + 1 else i) : Nat) : Int) = ((dotN F A y (if y < k + 1 then i + 1 else i) : Nat) : Int)
        by_cases w : y < k
        · rw [if_pos w, if_pos (by omega)]
        · rw [if_neg w, if_neg (by omega)]
theorem rc_291 (hn : 1 ≤ n ∧ n ≤ 4) (hbn : 1 ≤ bn ∧ bn ≤ 4) (hTA : ∀ y x, y < n → x < n → A y x = T y x) (hA : ∀ y x, y < n → x < n → 0 ≤ A y x ∧ A y x ≤ 4) {r11 q1 : Nat} {F : Nat → Nat} {kc t : Nat} {j12 : Int} (hne : r11 ≠ q1) (hz : (C0 q1).1 = 0) {fr : Nat → Int} (hfr : ∀ k, k < n → fr k = ((F k : Nat) : Int))
    (hN : ∀ (C : LMem) (o15 o16 o17 : Option PV), CPq C0 r r4 n P T q1 (fun y => ((dotN F A y n : Nat) : Int)) C → L_W_isReached_283 (d + 130) Q M C kc o1 r4 o3 (n : Int) (bn : Int) (g : Int) o7 o8 (f : Int) (s : Int) q1 (j12 * (bn : Int)) ((t : Int) + 1) o15 o16 o17) :
    ∀ (u i : Nat) (C : LMem) (o17 : Option PV), i + u = n → CPq C0 r r4 n P T q1 (fun y => ((dotN F A y i : Nat) : Int)) C → C r11 = (2, n, fr) → L_W_isReached_291 (d + 130) Q M C kc o1 r4 o3 (n : Int) (bn : Int) (g : Int) o7 o8 (f : Int) (s : Int) r11 j12 (t : Int) q1 (i : Int) o17 := by
  intro u
  induction u with
  | zero =>
    intro i C o17 hi hC hr
    obtain rfl : i = n := by omega
    exact b_W_isReached_291 ⟨⟨by omega, by omega⟩, ⟨by omega, by omega⟩, fun _ => ⟨⟨by omega, by omega⟩, hN C _ _ _ hC⟩, fun z => absurd (Int.le_refl _) z⟩
  | succ u ih =>
    intro i C o17 hi hC hr
    refine b_W_isReached_291 ⟨⟨by omega, by omega⟩, ⟨by omega, by omega⟩, fun z => absurd z (by omega), fun _ => ?_⟩
    refine rc_296 hn hTA hA (by omega) hne hz hfr (fun C o17 h1 h2 => ih (i + 1) C o17 (by omega) h1 h2) n 0 C (by omega) ?_ hr
    obtain ⟨h1, h2, h3, fq, h4, h5⟩ := hC
    refine ⟨h1, h2, h3, fq, h4, fun y hy => ?_⟩
    show fq y = ((dotN F A y (if y < 0 then i + 1 else i) : Nat) : Int)
    rw [if_neg (Nat.not_lt_zero y)]
    exact h5 y hy
theorem rc_283 (hn : 1 ≤ n ∧ n ≤ 4) (hbn : 1 ≤ bn ∧ bn ≤ 4) (hla : lawful n (bn : Int) A) (hTA : ∀ y x, y < n → x < n → A y x = T y x) (hg : g < n) (hf : f < n) (hs6 : s ≤ 6) (q : IQ j l (n, (bn : Int), A) nt e gm h tp M)
    (hQ : ∀ (M : Mem) (C : LMem), IQ j l (n, (bn : Int), A) nt e gm h tp M → CBq C0 r C → Q 1 M C) :
    ∀ (u t : Nat) (C : LMem) (kc r11 : Nat) (o15 o16 o17 : Option PV), t + u = s → kc + 2 * u ≤ 1500 → CPq C0 r r4 n P T r11 (fun k => ((bhN A n f t k : Nat) : Int)) C → L_W_isReached_283 (d + 130) Q M C kc o1 r4 o3 (n : Int) (bn : Int) (g : Int) o7 o8 (f : Int) (s : Int) r11 (((bn ^ t : Nat) : Nat) : Int) (t : Int) o15 o16 o17 := by
  have hO : cOk n (bn : Int) A := q.ch.1
  have h7 := hO.1
  intro u
  induction u with
  | zero =>
    intro t C kc r11 o15 o16 o17 ht hkc hC
    obtain rfl : t = s := by omega
    obtain ⟨h1, h2, h3, fq, h4, h5⟩ := hC
    have hin : inSt n (f : Int) (g : Int) := ⟨⟨by omega, by omega⟩, by omega, by omega⟩
    have hpw : bn ^ t ≤ 4096 := Nat.le_trans (Nat.pow_le_pow_left hbn.2 t) (Nat.le_trans (Nat.pow_le_pow_right (by decide) hs6) (by decide))
    have hpp : 0 < bn ^ t := Nat.pow_pos (by omega)
    have hle := bh_le hO hla hf hg t
    refine b_W_isReached_283 ⟨⟨by omega, by omega⟩, ⟨by omega, by omega⟩, fun _ => ⟨by omega, ?_⟩, fun z => absurd (Int.le_refl _) z⟩
    refine c_behind q (a := (f : Int)) (b := (g : Int)) (x := (t : Int)) (z := 0) hin ⟨by omega, by omega⟩ hla ⟨by decide, by decide⟩ _ ?_
    rintro v1 M1 C1 ⟨rfl, q1, hcf, rfl⟩
    rw [Int.toNat_natCast, Int.toNat_natCast, Int.toNat_natCast] at hcf
    simp only [h4, Int.toNat_natCast]
    refine ⟨trivial, ⟨by omega, by omega⟩, by omega, ?_⟩
    have e5 : fq g = ((bhN A n f t g : Nat) : Int) := h5 g hg
    rw [e5]
    refine s_of (d := d + 2) (by unfold A63; omega) (by unfold A63; omega) (by omega) _ ?_
    rintro v2 M2 C2 ⟨rfl, q2, rfl, n2, f2, l2⟩
    have hcf : CF M2 (bhQ A n f bn t g) := hcf
    have eq : ((((bhN A n f t g : Nat) : Int)) : Rat) / (((bn ^ t : Nat) : Int) : Rat) = bhQ A n f bn t g := by
      unfold bhQ
      rw [Rat.mkRat_eq_div, Rat.intCast_natCast (bn ^ t)]
    rw [eq] at l2
    have ok : ok63 (bhQ A n f bn t g) := by
      rw [← eq]
      exact (Bq_div (by omega)).ok (by omega) (by omega)
    refine ⟨by omega, ?_⟩
    rw [Int.toNat_natCast]
    refine s_isCame (d := d) hcf ok l2 _ ?_
    rintro v3 M3 C3 ⟨rfl, rfl, f3⟩
    refine ⟨⟨by decide, by decide⟩, fun z => absurd z (by decide), fun _ => ⟨by omega, ?_⟩⟩
    refine c_behindNo q1 (a := (f : Int)) (b := (g : Int)) (x := 61) (z := 0) hin (by omega) ⟨by decide, by decide⟩ ⟨by decide, by decide⟩ _ ?_
    rintro v4 M4 C4 ⟨rfl, rfl, rfl⟩
    refine ⟨⟨by decide, by decide⟩, fun z => absurd rfl z, fun _ => ⟨by omega, ?_⟩⟩
    refine c_reachNo q1 (a := (n : Int)) (b := 0) (y := 0) (z := 0) (fun z => by have := z.1.2; have z2 : (n : Int) < (n : Int) := this; omega) ⟨by omega, by omega⟩ ⟨by decide, by decide⟩ ⟨by decide, by decide⟩ ⟨by decide, by decide⟩ _ ?_
    rintro v5 M5 C5 ⟨rfl, rfl, rfl⟩
    exact ⟨⟨by decide, by decide⟩, fun z => absurd rfl z, fun _ => hQ _ _ q1 ((h1.off f2).off f3)⟩
  | succ u ih =>
    intro t C kc r11 o15 o16 o17 ht hkc hC
    obtain ⟨h1, h2, h3, fq, h4, h5⟩ := hC
    refine b_W_isReached_283 ⟨⟨by omega, by omega⟩, ⟨by omega, by omega⟩, fun z => absurd z (by omega), fun _ => ⟨⟨by omega, by omega⟩, by rw [Int.toNat_natCast]; unfold lcost; omega, fun q1 hq1 => ?_⟩⟩
    rw [Int.toNat_natCast]
    have hz := h1.2.1.free hq1
    have hne : r11 ≠ q1 := Ne.symm (ne_new h4 hq1)
    refine rc_291 hn hbn hTA (fun y x hy hx => by have := hO.2.2.1 y x (by omega) (by omega); omega) (F := bhN A n f t) hne hz h5 (fun C o15 o16 o17 hC => ?_) n 0 (cst C q1 (2, n, fun _ => 0)) o17 (by omega) ⟨h1.set hz, h2.new hq1, hz, fun _ => 0, cst_self, fun y hy => rfl⟩ (by rw [cst_ne hne]; exact h4)
    have e9 : (((bn ^ t : Nat) : Nat) : Int) * (bn : Int) = (((bn ^ (t + 1) : Nat) : Nat) : Int) := by rw [Nat.pow_succ, Int.natCast_mul]
    rw [e9]
    exact ih (t + 1) C _ q1 _ _ _ (by omega) (by unfold lcost; omega) hC
end RC5
