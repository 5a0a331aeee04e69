/-! isReached: the chances behind some steps. -/
section RC5
variable {d : Nat} {Q : LQ} {C0 : LMem} {j : StJ} {l : StL} {nt : StN} {e : StE} {gm : StG} {h : StH} {tp : StT} {r r4 n g : Nat} {bn : Nat} {A : Nat → Nat → Int} {P : Nat → Nat} {T : Nat → Nat → Int} {M : Mem} {o1 o3 o7 o8 o15 o16 o17 : Option PV} {f s : Nat}
def CPq (C0 : LMem) (r r4 n : Nat) (P : Nat → Nat) (T : Nat → Nat → Int) (r11 : Nat) (F : Nat → Int) (C : LMem) : Prop := CBq C0 r C ∧ MxQ 3 0 C r4 n n P T ∧ (C0 r11).1 = 0 ∧ ∃ fr, C r11 = (2, n, fr) ∧ ∀ k, k < n → fr k = F k
theorem rc_296 (hn : 1 ≤ n ∧ n ≤ 4) (hTA : ∀ y x, y < n → x < n → A y x = T y x) (hA : ∀ y x, y < n → x < n → 0 ≤ A y x ∧ A y x ≤ 4) {r11 q1 : Nat} {F : Nat → Nat} {kc t : Nat} {j12 : Int} {i : Nat} (hi : i < n) (hne : r11 ≠ q1) (hz : (C0 q1).1 = 0) {fr : Nat → Int} (hfr : ∀ k, k < n → fr k = ((F k : Nat) : Int))
    (hN : ∀ (C : LMem) (o17 : Option PV), CPq C0 r r4 n P T q1 (fun y => ((dotN F A y (i + 1) : Nat) : Int)) C → C r11 = (2, n, fr) → L_W_isReached_291 (d + 130) Q M C kc o1 r4 o3 (n : Int) (bn : Int) (g : Int) o7 o8 (f : Int) (s : Int) r11 j12 (t : Int) q1 ((i : Int) + 1) o17) :
    ∀ (u k : Nat) (C : LMem), k + u = n → CPq C0 r r4 n P T q1 (fun y => ((dotN F A y (if y < k then i + 1 else i) : Nat) : Int)) C → C r11 = (2, n, fr) → L_W_isReached_296 (d + 130) Q M C kc o1 r4 o3 (n : Int) (bn : Int) (g : Int) o7 o8 (f : Int) (s : Int) r11 j12 (t : Int) q1 (i : Int) (k : Int) := by
  intro u
  induction u with
  | zero =>
    intro k C hk hC hr
    obtain rfl : k = n := by omega
    refine b_W_isReached_296 ⟨⟨by omega, by omega⟩, ⟨by omega, by omega⟩, fun _ => hN C _ ?_ hr, fun z => absurd (Int.le_refl _) z⟩
    obtain ⟨h1, h2, h3, fq, h4, h5⟩ := hC
    exact ⟨h1, h2, h3, fq, h4, fun y hy => by
      have h6 : fq y = ((dotN F A y (if y < k then i + 1 else i) : Nat) : Int) := h5 y hy
      rw [if_pos hy] at h6
      exact h6⟩
  | succ u ih =>
    intro k C hk hC hr
    have hk9 : k < n := by omega
    obtain ⟨h1, h2, h3, fq, h4, h5⟩ := hC
    obtain ⟨⟨f4, q1', q2⟩, q3, q4⟩ := id h2
    obtain ⟨ge, m1, m2⟩ := q3 i hi
    have hAk := hA i k hi hk9
    refine b_W_isReached_296 ⟨⟨by omega, by omega⟩, ⟨by omega, by omega⟩, fun z => absurd z (by omega), fun _ => ?_⟩
    simp only [h4, hr, q1', q2 i hi, Int.toNat_natCast, cellAt, m1, m2 k hk9, cup_of h4, hfr i hi]
    refine ⟨trivial, ⟨by omega, by omega⟩, trivial, ⟨by omega, by omega⟩, ⟨by decide, by decide⟩, ⟨by omega, by omega⟩, trivial, ⟨by omega, by omega⟩, ?_, ?_⟩
    · rw [← hTA i k hi hk9]; exact ⟨by omega, by omega⟩
    · refine ih (k + 1) _ (by omega) ⟨h1.set hz, h2.okd (k' := 1) h4 (by decide) (by decide), hz, _, cst_self, fun y hy => ?_⟩ (by rw [cst_ne hne]; exact hr)
      by_cases z : y = k
      · rw [z, sr_same, h5 k hk9]
        show ((dotN F A k (if k < k then i + 1 else i) : Nat) : Int) + ((F i : Nat) : Int) * T i k = ((dotN F A k (if k < k + 1 then i + 1 else i) : Nat) : Int)
        rw [if_neg (Nat.lt_irrefl k), if_pos (Nat.lt_succ_self k), ← hTA i k hi hk9]
        show _ = ((dotN F A k i + F i * (A i k).toNat : Nat) : Int)
        rw [Int.natCast_add, Int.natCast_mul, Int.toNat_of_nonneg hAk.1]
      · rw [sr_ne z, h5 y hy]
        show ((dotN F A y (if y < k then i + 1 else i) : Nat) : Int) = ((dotN F A y (if y < k + 1 then i + 1 else i) : Nat) : Int)
        by_cases w : y < k
        · rw [if_pos w, if_pos (by omega)]
        · rw [if_neg w, if_neg (by omega)]
end RC5
