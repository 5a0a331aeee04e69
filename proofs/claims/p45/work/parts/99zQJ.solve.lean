/-! What is behind the answers of the equations. -/
theorem sol_all {n s w : Nat} {b q : Int} {A : Nat → Nat → Int} (hO : cOk n b A) (hla : lawful n b A) (hn : n ≤ 4) (hb4 : b ≤ 4) (hw : s.testBit w = false) (hwn : w < n) (hl : ∀ i, i < n → s.testBit i = true → Rch (cE n A (-1)) i w) (hq : q = -1 ∨ (0 ≤ q ∧ q < n)) :
    ∃ (N : Nat → Int) (D : Int), (0 < D ∧ D ≤ 1728) ∧ (∀ i, i < n → s.testBit i = true → 0 ≤ N i ∧ N i ≤ 1728 ∧ solQ b A s n q i = ((N i : Int) : Rat) / ((D : Int) : Rat)) ∧ (∀ i, s.testBit i = false → N i = 0) ∧ ∀ i, i < n → s.testBit i = true → b * N i = (if q = -1 then b else A i q.toNat) * D + sumT (fun k => A i k * N k) n := by
  have hb := hO.2.1
  have h7 := hO.1
  have hr : ∀ i, i < n → rowS A i n ≤ b := fun i hi => Int.le_of_eq (hla i hi)
  obtain ⟨x, hx, hM⟩ := eNQ_Mx (q := q) hO hr hw hl
  have hc3 := cnt_miss hw n hwn
  have hDp := (hM.go hx (cnt s n) (Nat.le_refl _)).2
  have hD0 : ∀ j, j ≤ cnt s n → Dd (eNQ b A s n q) j ≠ 0 := fun j hj z => by
    have := hDp j hj
    rw [z] at this
    exact absurd this (by decide)
  have hrow : ∀ {a}, a < cnt s n → sumQ (fun c => eNQ b A s n q a c * ansQ (eNQ b A s n q) (cnt s n) c) (cnt s n) = eNQ b A s n q a (cnt s n) := fun {a} ha => ans_row hD0 ha
  have hrhs := eNQ_rhs (n := n) (s := s) (b := b) (q := q) (A := A) hO (hq.imp id fun z => ⟨z.1, by omega⟩)
  have hwh : ∀ {a c}, a < cnt s n → c ≤ cnt s n → Wh (eNQ b A s n q a c) 4 := fun {a c} ha hc => by
    obtain ⟨c1, -, -⟩ := sel_in ha
    refine ⟨_, rfl, ?_⟩
    unfold eN
    by_cases e : c = cnt s n
    · rw [if_pos e]
      by_cases e2 : q = -1
      · rw [if_pos e2]; omega
      · rw [if_neg e2]
        have := hO.2.2.1 (sel s n a) q.toNat (by omega) (by omega)
        omega
    · rw [if_neg e]
      obtain ⟨d1, -, -⟩ := sel_in (show c < cnt s n by omega)
      have := hO.2.2.1 (sel s n a) (sel s n c) (by omega) (by omega)
      by_cases e2 : a = c
      · rw [if_pos e2]; omega
      · rw [if_neg e2]; omega
  have p4 : (((cnt s n : Nat) : Int) * 4) ^ cnt s n ≤ 1728 := by
    rcases (show cnt s n = 0 ∨ cnt s n = 1 ∨ cnt s n = 2 ∨ cnt s n = 3 by omega) with z | z | z | z <;> rw [z] <;> decide
  have hDw : Wh (Dd (eNQ b A s n q) (cnt s n)) ((((cnt s n : Nat) : Int) * 4) ^ cnt s n) := by
    unfold Dd
    exact wed_whole (by decide) _ (fun a c ha hc => hwh ha (by omega)) _
  obtain ⟨D1, D2, D3⟩ := hDw.num
  have hNw : ∀ c, c < cnt s n → Wh (wed (cnt s n) (colR (eNQ b A s n q) (fc c (cnt s n))) (cnt s n) (full (cnt s n))) ((((cnt s n : Nat) : Int) * 4) ^ cnt s n) := fun c hc => wed_whole (by decide) _ (fun a y ha hy => by
    show Wh (eNQ b A s n q a (fc c (cnt s n) y)) 4
    refine hwh ha ?_
    unfold fc
    by_cases z : y = c
    · rw [if_pos z]; exact Nat.le_refl _
    · rw [if_neg z]; omega) _
  have hD9 : 0 < (Dd (eNQ b A s n q) (cnt s n)).num := by
    have := hDp _ (Nat.le_refl (cnt s n))
    rw [D1] at this
    exact Rat.intCast_lt_intCast.mp this
  generalize hD : (Dd (eNQ b A s n q) (cnt s n)).num = D at *
  -- the numbers
  have hex : ∃ N : Nat → Int, (∀ i, i < n → s.testBit i = true → 0 ≤ N i ∧ N i ≤ 1728 ∧ solQ b A s n q i = ((N i : Int) : Rat) / ((D : Int) : Rat)) ∧ ∀ i, s.testBit i = false → N i = 0 := by
    refine ⟨fun i => if s.testBit i = true then (wed (cnt s n) (colR (eNQ b A s n q) (fc (cnt s i) (cnt s n))) (cnt s n) (full (cnt s n))).num else 0, fun i hi hbit => ?_, fun i hbit => by
      show (if s.testBit i = true then _ else (0 : Int)) = 0
      rw [hbit, if_neg (by decide)]⟩
    have hci := cnt_k_lt hi hbit
    obtain ⟨w1, w2, w3⟩ := (hNw _ hci).num
    have hnn := hM.nn hx hci hrhs
    rw [w1] at hnn
    have hnn := Rat.intCast_nonneg.mp hnn
    show 0 ≤ (if s.testBit i = true then _ else (0 : Int)) ∧ (if s.testBit i = true then _ else (0 : Int)) ≤ 1728 ∧ solQ b A s n q i = (((if s.testBit i = true then _ else (0 : Int)) : Int) : Rat) / _
    rw [if_pos hbit]
    refine ⟨hnn, by omega, ?_⟩
    unfold solQ ansQ
    rw [← w1, ← D1]
  obtain ⟨N, N1, N2⟩ := hex
  refine ⟨N, D, ⟨hD9, by omega⟩, N1, N2, fun i hi hbit => ?_⟩
  have hci := cnt_k_lt hi hbit
  have he := hrow hci
  have hDz : ((D : Int) : Rat) ≠ 0 := fun z => by have := Rat.intCast_eq_zero_iff.mp z; omega
  have h4 : ∀ c, c < cnt s n → (((((if sel s n c = i then b else 0) - A i (sel s n c)) * N (sel s n c)) : Int) : Rat) = ((D : Int) : Rat) * (eNQ b A s n q (cnt s i) c * ansQ (eNQ b A s n q) (cnt s n) c) := fun c hc => by
    obtain ⟨c1, c2, c3⟩ := sel_in hc
    have e5 : eNQ b A s n q (cnt s i) c = (((if sel s n c = i then b else 0) - A i (sel s n c) : Int) : Rat) := by
      unfold eNQ eN
      rw [if_neg (by omega), sel_cnt hbit n hi]
      have e6 : (cnt s i = c) ↔ (sel s n c = i) := by
        refine ⟨fun z => by rw [← z]; exact sel_cnt hbit n hi, fun z => ?_⟩
        rw [z] at c3
        exact c3
      by_cases z : cnt s i = c
      · rw [if_pos z, if_pos (e6.mp z)]
      · rw [if_neg z, if_neg (fun w => z (e6.mpr w))]
    have e7 : ansQ (eNQ b A s n q) (cnt s n) c = ((N (sel s n c) : Int) : Rat) / ((D : Int) : Rat) := by
      have := (N1 _ c1 c2).2.2
      unfold solQ at this
      rw [c3] at this
      exact this
    rw [e5, e7, Rat.intCast_mul]
    generalize ((D : Int) : Rat) = S at *
    generalize ((N (sel s n c) : Int) : Rat) = x
    generalize (((if sel s n c = i then b else 0) - A i (sel s n c) : Int) : Rat) = y
    grind
  have h5 : sumQ (fun c => (((((if sel s n c = i then b else 0) - A i (sel s n c)) * N (sel s n c)) : Int) : Rat)) (cnt s n) = ((D : Int) : Rat) * (((if q = -1 then b else A i q.toNat) : Int) : Rat) := by
    rw [sumQ_congr _ h4, sumQ_mul, he]
    unfold eNQ eN
    rw [if_pos rfl, sel_cnt hbit n hi]
  rw [sumQ_cast (f := fun c => ((if sel s n c = i then b else 0) - A i (sel s n c)) * N (sel s n c)), ← Rat.intCast_mul] at h5
  have h6 : sumT (fun c => ((if sel s n c = i then b else 0) - A i (sel s n c)) * N (sel s n c)) (cnt s n) = D * (if q = -1 then b else A i q.toNat) := Rat.intCast_inj.mp h5
  have h7' := selT (s := s) (n := n) (f := fun j => ((if j = i then b else 0) - A i j) * N j) (fun j hj hb => by rw [N2 j hb, Int.mul_zero])
  have h8 : sumT (fun j => ((if j = i then b else 0) - A i j) * N j) n = sumT (fun j => (if j = i then b * N i else 0) - A i j * N j) n := sumT_congr n fun j hj => by
    by_cases z : j = i
    · rw [if_pos z, if_pos z, z, Int.sub_mul]
    · rw [if_neg z, if_neg z, Int.sub_mul, Int.zero_mul]
  have h9 := h7'.symm.trans h6
  rw [h8, sumT_one, if_pos hi] at h9
  rw [Int.mul_comm (if q = -1 then b else A i q.toNat) D]
  omega
