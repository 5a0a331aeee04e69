/-! The reference's fractions: a sign and two rows. -/
/-- nothing but these rows and these signs has changed -/
def RS (l ls : List Nat) (M M' : Mem) : Prop := (∀ a, a ≠ 163 → a ≠ 164 → a ≠ 165 → M' a = M a) ∧ (∀ q, q ∉ l → M' 164 q = M 164 q) ∧ (∀ q i, q ∉ l → i < 300 → M' 163 (300 * q + i) = M 163 (300 * q + i)) ∧ ∀ j, j ∉ ls → M' 165 j = M 165 j
theorem RF.rs {l ls : List Nat} {M M' : Mem} (h : RF l M M') : RS l ls M M' := ⟨fun a h1 h2 _ => h.1 a h1 h2, h.2.1, h.2.2, fun j _ => by rw [h.1 165 (by decide) (by decide)]⟩
theorem RS.tr {l ls : List Nat} {M M' M'' : Mem} (h : RS l ls M M') (h2 : RS l ls M' M'') : RS l ls M M'' := ⟨fun a q1 q2 q3 => (h2.1 a q1 q2 q3).trans (h.1 a q1 q2 q3), fun q hq => (h2.2.1 q hq).trans (h.2.1 q hq), fun q i hq hi => (h2.2.2.1 q i hq hi).trans (h.2.2.1 q i hq hi), fun j hj => (h2.2.2.2 j hj).trans (h.2.2.2 j hj)⟩
theorem RS.mono {l l' ls ls' : List Nat} {M M' : Mem} (h : RS l ls M M') (hl : ∀ a, a ∈ l → a ∈ l') (hs : ∀ a, a ∈ ls → a ∈ ls') : RS l' ls' M M' := ⟨h.1, fun q hq => h.2.1 q fun z => hq (hl q z), fun q i hq hi => h.2.2.1 q i (fun z => hq (hl q z)) hi, fun j hj => h.2.2.2 j fun z => hj (hs j z)⟩
theorem RS.sign {l ls : List Nat} {M : Mem} {i : Nat} {v : Int} (hi : i ∈ ls) : RS l ls M (upd2 M 165 i v) := ⟨fun a _ _ h3 => u2_off h3, fun q _ => by rw [u2_off (by decide)], fun q j _ _ => by rw [u2_off (by decide)], fun j hj => u2_ne fun e => hj (by rw [e]; exact hi)⟩
theorem Row.keptS {M M' : Mem} {r : Nat} {v : Int} {l ls : List Nat} (h : Row M r v) (hf : RS l ls M M') (hr : r ∉ l) : Row M' r v := by
  have hs := h.size
  have e : rd M' r = rd M r := funext fun i => by
    unfold rd
    rw [hf.2.1 r hr]
    by_cases q : (i : Int) < M 164 r
    · rw [if_pos q, if_pos q, hf.2.2.1 r i hr (by omega)]
    · rw [if_neg q, if_neg q]
  obtain ⟨h1, n, h2, h3, h4, h5⟩ := h
  unfold Row
  rw [e, hf.2.1 r hr]
  exact ⟨h1, n, h2, h3, h4, h5⟩
/-- reduces -/
theorem s_reduces {d : Nat} {M : Mem} {i p q : Nat} (hi : i < 97) (hx : Row M (2 * i) (p : Int)) (hy : Row M (2 * i + 1) (q : Int)) (hq : 0 < q) :
    Post (d + 4) cM_reduces [oM, .inl (i : Int)] M (fun _ M' => RS [195, 196, 197, 198, 2 * i, 2 * i + 1] [i] M M' ∧ Row M' (2 * i) ((p / Nat.gcd p q : Nat) : Int) ∧ Row M' (2 * i + 1) ((q / Nat.gcd p q : Nat) : Int) ∧ M' 165 i = if p = 0 then 0 else M 165 i) := by
  intro Q hQ
  have sx := hx.size
  refine e_M_reduces (b_M_reduces_0 ?_)
  rw [show 2 * (i : Int) = ((2 * i : Nat) : Int) by omega, show ((2 * i : Nat) : Int) + 1 = ((2 * i + 1 : Nat) : Int) by omega, Int.toNat_natCast]
  refine ⟨⟨by omega, by omega⟩, ⟨by omega, by omega⟩, fun h => ?_, fun h => ⟨⟨by omega, by omega⟩, ?_⟩⟩
  · have hp0 : p ≠ 0 := fun e => h (hx.zero_iff.mpr (by omega))
    refine (s_copyRow (d := d + 2) (a := 2 * i) (b := 197) (by omega) (by decide) (by omega) hx).cal fun x1 M1 hM1 => ?_
    obtain ⟨f1, a1⟩ := hM1
    refine (s_copyRow (d := d + 2) (a := 2 * i + 1) (b := 198) (by omega) (by decide) (by omega) (hy.kept f1 (by simp; omega))).cal fun x2 M2 hM2 => ?_
    obtain ⟨f2, a2⟩ := hM2
    refine red_loop (M0 := M) hi hx hy (Nat.gcd_pos_of_pos_right p hq) (fun M' k1 k2 k3 => hQ 0 M' ⟨k1.rs, k2, k3, ?_⟩) (q + 1) M2 p q (by omega) ((f1.mono (by simp)).tr (f2.mono (by simp))) (a1.kept f2 (by decide)) a2 rfl
    rw [if_neg hp0, k1.1 165 (by decide) (by decide)]
  · have h0 : M 164 (2 * i) = 0 := Classical.not_not.mp h
    have e := hx.zero_iff.mp h0
    have hp0 : p = 0 := by omega
    subst hp0
    rw [Int.toNat_natCast]
    have g0 : RS [195, 196, 197, 198, 2 * i, 2 * i + 1] [i] M (upd2 M 165 i 0) := RS.sign (by simp)
    have gx : RS [] [i] M (upd2 M 165 i 0) := RS.sign (by simp)
    refine (s_setRow (d := d + 2) (r := 2 * i + 1) (j := 1) (by omega) (by decide) (by decide)).cal fun x1 M1 hM1 => ?_
    obtain ⟨f1, a1⟩ := hM1
    refine hQ 0 M1 ⟨g0.tr (RF.rs (f1.mono (by simp))), ?_, ?_, ?_⟩
    · have := (hx.keptS gx (by simp)).kept f1 (by simp)
      simpa using this
    · rw [Nat.gcd_zero_left, Nat.div_self hq]
      exact a1
    · rw [if_pos rfl, f1.1 165 (by decide) (by decide), u2_same]
