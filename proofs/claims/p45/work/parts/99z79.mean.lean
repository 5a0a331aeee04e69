/-! meanTime: both sides. -/
def mtOk (J : Nat → Int) (kind : Int) (k : Nat) : Prop := kind = -1 ∨ J (4 * k + 2) = kind
def mtW (J : Nat → Int) (kind : Int) (k : Nat) : Int := if kind = -1 ∨ J (4 * k + 2) = kind then J (4 * k + 3) else 0
def mtT (n : Nat) (J : Nat → Int) (many by_ space wait : Int) (T : Nat) (kind : Int) (k : Nat) : Int := if kind = -1 ∨ J (4 * k + 2) = kind then pTime n J many by_ space wait T k * J (4 * k + 3) else 0
/-- the mean time -/
def mtQ (n : Nat) (J : Nat → Int) (many by_ space wait : Int) (T : Nat) (kind : Int) : Rat := mkRat (sumN (mtT n J many by_ space wait T kind) n) (if sumN (mtW J kind) n = 0 then 1 else (sumN (mtW J kind) n).toNat)
theorem mt_b {n : Nat} {J : Nat → Int} {many by_ space wait kind : Int} {T : Nat} (hV : VJ n J) (hm : 1 ≤ many) (h : PT n J many by_ space wait T) : ∀ m, m ≤ n → (0 ≤ sumN (mtW J kind) m ∧ sumN (mtW J kind) m ≤ 9 * m) ∧ 0 ≤ sumN (mtT n J many by_ space wait T kind) m ∧ sumN (mtT n J many by_ space wait T kind) m ≤ 20000 * m
  | 0, _ => ⟨⟨Int.le_refl 0, Int.le_refl 0⟩, Int.le_refl 0, Int.le_refl 0⟩
  | m + 1, hmn => by
    obtain ⟨⟨a1, a2⟩, a3, a4⟩ := mt_b (kind := kind) hV hm h m (by omega)
    obtain ⟨j1, j2, j3, j4⟩ := hV.2.1 m (by omega)
    obtain ⟨_, _, h3, h4⟩ := h.job hV hm (show m < n by omega)
    have t0 := time_nn hV hm h.2 m (by omega)
    have et : pTime n J many by_ space wait T m = (sAt n J many by_ space wait T).2.2.2 3 m - J (4 * m) := rfl
    have hw : 0 ≤ mtW J kind m ∧ mtW J kind m ≤ 9 := by
      unfold mtW
      by_cases q : kind = -1 ∨ J (4 * m + 2) = kind
      · rw [if_pos q]; omega
      · rw [if_neg q]; omega
    have ht : 0 ≤ mtT n J many by_ space wait T kind m ∧ mtT n J many by_ space wait T kind m ≤ 20000 := by
      unfold mtT
      by_cases q : kind = -1 ∨ J (4 * m + 2) = kind
      · rw [if_pos q]
        have p0 : 0 ≤ pTime n J many by_ space wait T m * J (4 * m + 3) := Int.mul_nonneg (by omega) (by omega)
        have p1 : pTime n J many by_ space wait T m * J (4 * m + 3) ≤ 2000 * J (4 * m + 3) := Int.mul_le_mul_of_nonneg_right (by omega) (by omega)
        omega
      · rw [if_neg q]; omega
    show (0 ≤ sumN (mtW J kind) m + mtW J kind m ∧ sumN (mtW J kind) m + mtW J kind m ≤ 9 * ((m + 1 : Nat) : Int)) ∧ 0 ≤ sumN (mtT n J many by_ space wait T kind) m + mtT n J many by_ space wait T kind m ∧ sumN (mtT n J many by_ space wait T kind) m + mtT n J many by_ space wait T kind m ≤ 20000 * ((m + 1 : Nat) : Int)
    omega
theorem mtC_loop {d : Nat} {Q : Rs → Mem → Prop} {M : Mem} {n : Nat} {J : Nat → Int} {many by_ space wait kind : Int} {T : Nat} (hV : VJ n J) (hn : M 117 0 = n) (hJ : M 94 = J) (hm : 1 ≤ many) (hT : RunC M 54 n J many by_ space wait T) (hk3 : -1 ≤ kind ∧ kind < 3) (z0 : RZ M 0) (z2 : RZ M 2)
    (hQ : ∀ M', Fr [0, 1, 2, 3] M M' → CF M' (mtQ n J many by_ space wait T kind) → Q (.inl (mtQ n J many by_ space wait T kind).num.sign) M') :
    ∀ (m k : Nat) (o7 : Option PV), k + m = n → L_Q_meanTime_15 (d + 3) Q M kind (sumN (mtT n J many by_ space wait T kind) k) (sumN (mtW J kind) k) (k : Int) o7
  | m, k, o7, hk => by
    have h24 := hV.1
    have hb := mt_b (kind := kind) hV hm hT.pt k (by omega)
    refine b_Q_meanTime_15 ?_
    rw [hn]
    refine ⟨⟨by omega, by omega⟩, ⟨by omega, by omega⟩, fun z => ⟨⟨by omega, by omega⟩, ?_⟩, fun z => ⟨⟨by omega, by omega⟩, ?_⟩⟩
    · have e : k = n := by omega
      subst e
      obtain ⟨x, hx⟩ : ∃ x : Nat, sumN (mtT k J many by_ space wait T kind) k = x := ⟨(sumN (mtT k J many by_ space wait T kind) k).toNat, by omega⟩
      obtain ⟨y, hy⟩ : ∃ y : Nat, sumN (mtW J kind) k = y := ⟨(sumN (mtW J kind) k).toNat, by omega⟩
      have hq : mtQ k J many by_ space wait T kind = mkRat (x : Int) (if y = 0 then 1 else y) := by
        unfold mtQ
        rw [hx, hy]
        by_cases e0 : y = 0
        · rw [if_pos (by omega), if_pos e0]
        · rw [if_neg (by omega), if_neg e0, Int.toNat_natCast]
      have hmax : max (sumN (mtW J kind) k) 1 = ((if y = 0 then 1 else y : Nat) : Int) := by
        rw [hy]
        by_cases e0 : y = 0
        · rw [if_pos e0]; omega
        · rw [if_neg e0]; omega
      rw [hmax, hx]
      refine (s_setLongsQ (d := d) (by omega) (by by_cases e0 : y = 0 <;> simp [e0] <;> omega) (by by_cases e0 : y = 0 <;> simp [e0] <;> omega) z0 z2).cal fun v1 M1 hM1 => ?_
      obtain ⟨f1, g1, rfl⟩ := hM1
      rw [← hq] at g1 ⊢
      exact hQ M1 f1 g1
    · have hs1 : sumN (mtT n J many by_ space wait T kind) (k + 1) = sumN (mtT n J many by_ space wait T kind) k + mtT n J many by_ space wait T kind k := rfl
      have hs2 : sumN (mtW J kind) (k + 1) = sumN (mtW J kind) k + mtW J kind k := rfl
      obtain ⟨j1, j2, j3, j4⟩ := hV.2.1 k (by omega)
      obtain ⟨_, _, t3, t4⟩ := hT.pt.job hV hm (show k < n by omega)
      have et : pTime n J many by_ space wait T k = (sAt n J many by_ space wait T).2.2.2 3 k - J (4 * k) := rfl
      cases m with
      | zero => omega
      | succ m =>
        have ih := fun o7 => mtC_loop (d := d) (kind := kind) hV hn hJ hm hT hk3 z0 z2 hQ m (k + 1) o7 (by omega)
        rw [hs1, hs2] at ih
        have take : mtOk J kind k → L_Q_meanTime_30 (d + 3) Q M kind (sumN (mtT n J many by_ space wait T kind) k) (sumN (mtW J kind) k) (k : Int) o7 := fun h => by
          refine b_Q_meanTime_30 ?_
          refine (s_Jpart (d := d + 2) (k := k) (p := 3) (by omega) (by decide)).cal fun v1 M1 hM1 => ?_
          obtain ⟨rfl, rfl⟩ := hM1
          refine (s_timeOf (d := d + 1) iP1 (by omega)).cal fun v1 M1 hM1 => ?_
          obtain ⟨rfl, rfl⟩ := hM1
          rw [(hT.2.2.2.2 k (by omega)).2.2, hJ]
          refine ⟨⟨by omega, by omega⟩, ⟨by omega, by omega⟩, ?_⟩
          have := ih (some (.inl (J (4 * k + 3))))
          have e1 : mtT n J many by_ space wait T kind k = pTime n J many by_ space wait T k * J (4 * k + 3) := if_pos h
          have e2 : mtW J kind k = J (4 * k + 3) := if_pos h
          rw [e1, e2] at this
          exact this
        refine ⟨fun e => take (Or.inl e), fun e => ?_⟩
        refine (s_Jpart (d := d + 2) (k := k) (p := 2) (by omega) (by decide)).cal fun v1 M1 hM1 => ?_
        obtain ⟨rfl, rfl⟩ := hM1
        rw [hJ]
        refine ⟨⟨by omega, by omega⟩, fun e2 => ?_, fun e2 => take (Or.inr (Classical.not_not.mp e2))⟩
        have := ih o7
        have hno : ¬ (kind = -1 ∨ J (4 * k + 2) = kind) := fun y => by rcases y with y | y <;> contradiction
        have e1 : mtT n J many by_ space wait T kind k = 0 := if_neg hno
        have e2 : mtW J kind k = 0 := if_neg hno
        rw [e1, e2, Int.add_zero, Int.add_zero] at this
        exact this
theorem s_QmeanTime {d : Nat} {M : Mem} {n : Nat} {J : Nat → Int} {many by_ space wait kind : Int} {q0 : Rat} (hV : VJ n J) (hn : M 117 0 = n) (hJ : M 94 = J) (h : lineC M n J many by_ space wait) (hq0 : CF M q0) (hk : R32 kind) :
    PostE (d + 6) cQ_meanTime [oQ, .inl kind] M (fun r M' => (¬ (-1 ≤ kind ∧ kind ≤ 2) ∧ r = .inr 2 ∧ M' = M) ∨ ((-1 ≤ kind ∧ kind ≤ 2) ∧ Fr (0 :: 1 :: 2 :: 3 :: 149 :: pcs 54) M M' ∧ (∀ s, s ≠ 7 → M' 149 s = M 149 s) ∧ lineC M' n J many by_ space wait ∧ ∃ T, PT n J many by_ space wait T ∧ CF M' (mtQ n J many by_ space wait T kind) ∧ r = .inl (mtQ n J many by_ space wait T kind).num.sign)) := by
  intro Q hQ
  refine e_Q_meanTime (b_Q_meanTime_0 ⟨hk, fun z => hQ _ _ (Or.inl ⟨by omega, rfl, rfl⟩), fun z => ⟨fun z2 => ?_, fun z2 => hQ _ _ (Or.inl ⟨by omega, rfl, rfl⟩)⟩⟩)
  refine (s_playLine' (d := d) hV hn hJ h).cal fun v1 M1 hM1 => ?_
  obtain ⟨hl, T, hT⟩ := hM1
  have hq1 : CF M1 q0 := hq0.kept hl.1 (by decide) (by decide) (by decide) (by decide)
  refine mtC_loop (d := d + 2) (kind := kind) hV (by rw [hl.1 117 (by decide)]; exact hn) (by rw [hl.1 94 (by decide)]; exact hJ) h.2.2.2.2.1.1.1 hT ⟨by omega, by omega⟩ hq1.rz0 hq1.rz2 (fun M' f1 g1 => hQ _ _ (Or.inr ⟨by omega, ?_, fun s hs => ?_, ?_, T, hT.pt, g1, rfl⟩)) n 0 _ (by omega)
  · exact (hl.1.mono (fun a ha => List.mem_cons_of_mem _ (List.mem_cons_of_mem _ (List.mem_cons_of_mem _ (List.mem_cons_of_mem _ ha))))).tr (f1.mono (by simp))
  · rw [f1 149 (by decide)]; exact hl.2.1 s hs
  · have hlc := hl.2.2
    unfold lineC RunC at hlc ⊢
    rw [f1 54 (by decide), f1 149 (by decide), f1 (54 + 1) (by decide), f1 (54 + 2) (by decide), f1 (54 + 3) (by decide), f1 (54 + 4) (by decide)]
    exact hlc