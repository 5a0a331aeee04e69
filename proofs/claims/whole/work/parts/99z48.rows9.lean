/-! The reference's fractions: shortening. -/
theorem red65 {d : Nat} {Q : Rs → Mem → Prop} {M : Mem} {i : Nat} {x y g : Int} (hi : i < 97) (hx : Row M (2 * i) x) (hy : Row M (2 * i + 1) y) (hg : Row M 197 g) (hg0 : 0 < g)
    (hQ : ∀ M', RF [195, 196, 2 * i, 2 * i + 1] M M' → Row M' (2 * i) (x / g) → Row M' (2 * i + 1) (y / g) → Q (.inl 0) M') : L_M_reduces_65 (d + 3) Q M (i : Int) := by
  refine b_M_reduces_65 ?_
  rw [show 2 * (i : Int) = ((2 * i : Nat) : Int) by omega, show ((2 * i : Nat) : Int) + 1 = ((2 * i + 1 : Nat) : Int) by omega]
  refine (s_divideRows (d := d) (a := 2 * i) (b := 197) (by omega) (by decide) (by decide) (by decide) (by omega) hx hg hg0).cal fun x1 M1 hM1 => ?_
  obtain ⟨f1, a1, a2⟩ := hM1
  refine (s_copyRow (d := d + 2) (a := 195) (b := 2 * i) (by decide) (by omega) (by omega) a1).cal fun x2 M2 hM2 => ?_
  obtain ⟨f2, b1⟩ := hM2
  have y2 : Row M2 (2 * i + 1) y := (hy.kept f1 (by simp; omega)).kept f2 (by simp)
  have g2 : Row M2 197 g := (hg.kept f1 (by decide)).kept f2 (by simp; omega)
  refine (s_divideRows (d := d) (a := 2 * i + 1) (b := 197) (by omega) (by decide) (by decide) (by decide) (by omega) y2 g2 hg0).cal fun x3 M3 hM3 => ?_
  obtain ⟨f3, c1, c2⟩ := hM3
  refine (s_copyRow (d := d + 2) (a := 195) (b := 2 * i + 1) (by decide) (by omega) (by omega) c1).cal fun x4 M4 hM4 => ?_
  obtain ⟨f4, e1⟩ := hM4
  exact hQ M4 ((((f1.mono (by simp)).tr (f2.mono (by simp))).tr (f3.mono (by simp))).tr (f4.mono (by simp))) ((b1.kept f3 (by simp; omega)).kept f4 (by simp)) e1
theorem red_loop {d : Nat} {Q : Rs → Mem → Prop} {M0 : Mem} {i g : Nat} {x y : Int} (hi : i < 97) (hx : Row M0 (2 * i) x) (hy : Row M0 (2 * i + 1) y) (hg0 : 0 < g)
    (hQ : ∀ M', RF [195, 196, 197, 198, 2 * i, 2 * i + 1] M0 M' → Row M' (2 * i) (x / g) → Row M' (2 * i + 1) (y / g) → Q (.inl 0) M') :
    ∀ (f : Nat) (M : Mem) (p q : Nat), q < f → RF [195, 196, 197, 198] M0 M → Row M 197 (p : Int) → Row M 198 (q : Int) → Nat.gcd p q = g → L_M_reduces_35 (d + 3) Q M (i : Int) := by
  intro f
  induction f with
  | zero => intro M p q hq; omega
  | succ f ih =>
    intro M p q hq hf hp hqr hg
    have sp := hp.size
    have sq := hqr.size
    refine b_M_reduces_35 ⟨⟨by omega, by omega⟩, fun h => ?_, fun h => ?_⟩
    · have e := hqr.zero_iff.mp (by omega)
      have eq : q = 0 := by omega
      rw [eq, Nat.gcd_zero_right] at hg
      subst hg
      have hx1 : Row M (2 * i) x := hx.kept hf (by simp; omega)
      have hy1 : Row M (2 * i + 1) y := hy.kept hf (by simp; omega)
      have L65 : L_M_reduces_65 (d + 3) Q M (i : Int) := red65 hi hx1 hy1 hp (by omega) fun M' k1 k2 k3 => hQ M' ((hf.mono (by simp)).tr (k1.mono (by simp))) k2 k3
      refine ⟨⟨by omega, by omega⟩, fun _ => L65, fun h2 => ?_⟩
      refine (s_at' (d := d + 2) (r := 197) (i := 0) (by decide) sp (by decide)).cal fun v1 M1 hM1 => ?_
      obtain ⟨rfl, rfl⟩ := hM1
      have z0 := hp.1 0
      refine ⟨⟨by omega, by omega⟩, fun h3 => ?_, fun _ => L65⟩
      have ep : (p : Int) = rd M1 197 0 := by
        have := hp.at_ (m := 1) (by omega)
        simpa [bs] using this
      have e1 : p = 1 := by omega
      subst e1
      refine hQ M1 (hf.mono (by simp)) ?_ ?_
      · simpa using hx1
      · simpa using hy1
    · have hq0 : 0 < q := by
        rcases Nat.eq_zero_or_pos q with e | e
        · have := hqr.zero_iff.mpr (by omega)
          omega
        · exact e
      have hm := Nat.mod_lt p hq0
      refine (s_divideRows (d := d) (a := 197) (b := 198) (by decide) (by decide) (by decide) (by decide) (by decide) hp hqr (by omega)).cal fun x1 M1 hM1 => ?_
      obtain ⟨f1, a1, a2⟩ := hM1
      rw [show (p : Int) % (q : Int) = ((p % q : Nat) : Int) from rfl] at a2
      refine (s_copyRow (d := d + 2) (a := 198) (b := 197) (by decide) (by decide) (by decide) (hqr.kept f1 (by decide))).cal fun x2 M2 hM2 => ?_
      obtain ⟨f2, b1⟩ := hM2
      refine (s_copyRow (d := d + 2) (a := 196) (b := 198) (by decide) (by decide) (by decide) (a2.kept f2 (by decide))).cal fun x3 M3 hM3 => ?_
      obtain ⟨f3, c1⟩ := hM3
      refine ih M3 q (p % q) (by omega) (((hf.tr (f1.mono (by simp))).tr (f2.mono (by simp))).tr (f3.mono (by simp))) (b1.kept f3 (by decide)) c1 ?_
      rw [← hg, Nat.gcd_comm p q, Nat.gcd_rec q p, Nat.gcd_comm]
