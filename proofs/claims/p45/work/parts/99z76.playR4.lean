/-! The reference plays: the whole play. -/
/-- the sum of the times -/
def pSum (n : Nat) (J : Nat → Int) (many by_ space wait : Int) (T : Nat) : Int := sumN (fun k => (sAt n J many by_ space wait T).2.2.2 3 k - J (4 * k)) n
/-- the play lies in the reference's memory, from its beginning to its end -/
def RunR (M : Mem) (n : Nat) (J : Nat → Int) (many by_ space wait : Int) (T : Nat) : Prop := (∀ s, s < T → sOn n (sAt n J many by_ space wait s)) ∧ ¬ sOn n (sAt n J many by_ space wait T) ∧ M 175 42 = T ∧ (∀ s, s < T → M 172 s = sNum (sMid n J many by_ space wait (s : Int) (sAt n J many by_ space wait s))) ∧
  ∀ k, k < n → M 167 k = (sAt n J many by_ space wait T).2.2.2 0 k ∧ M 169 k = (sAt n J many by_ space wait T).2.2.2 2 k ∧ M 170 k = (sAt n J many by_ space wait T).2.2.2 3 k
theorem off_all {n : Nat} {J : Nat → Int} {many t : Int} {x : SG} (hp : PVi n many t x) (h : ¬ sOn n x) : x.2.2.1 = n ∧ x.1 = [] ∧ x.2.1 = [] ∧ ∀ k, k < n → x.2.2.2 0 k ≠ 3 ∧ 0 ≤ x.2.2.2 0 k ∧ x.2.2.2 0 k ≤ 2 := by
  have hx := hp.1
  have h1 : ¬ x.2.2.1 < n := fun z => h (Or.inl z)
  have h2 : ¬ 0 < x.1.length + x.2.1.length := fun z => h (Or.inr z)
  have e1 : x.1 = [] := List.length_eq_zero_iff.mp (by omega)
  have e2 : x.2.1 = [] := List.length_eq_zero_iff.mp (by omega)
  refine ⟨by omega, e1, e2, fun k hk => ?_⟩
  obtain ⟨a1, a2, a3, _⟩ := hp.2.2.2.2.1 k (by omega)
  have : x.2.2.2 0 k ≠ 3 := fun z => by
    have := a1.mp z
    rw [e1, e2] at this
    simp at this
  exact ⟨this, a2, by omega⟩
theorem sum_loop {d : Nat} {Q : Rs → Mem → Prop} {M : Mem} {n : Nat} {f : Nat → Int} (hn : M 175 6 = n) (h24 : n ≤ 24) (hf : ∀ k, k < n → f k = M 170 k - M 151 (4 * k)) (hQ : Q (.inl (sumN f n)) M) : ∀ (m k : Nat) (o1 o2 o3 o4 o5 o6 : Option PV), k + m = n → L_M_plays_111 d Q M o1 o2 o3 o4 o5 o6 (sumN f k) (k : Int)
  | m, k, o1, o2, o3, o4, o5, o6, hk => by
    refine b_M_plays_111 ?_
    rw [hn, Int.toNat_natCast, show (4 * (k : Int)).toNat = 4 * k by omega]
    refine ⟨⟨by omega, by omega⟩, ⟨by omega, by omega⟩, fun z => ?_, fun z => ⟨⟨by omega, by omega⟩, ⟨by omega, by omega⟩, ?_⟩⟩
    · have e : k = n := by omega
      subst e
      exact hQ
    · rw [← hf k (by omega)]
      cases m with
      | zero => omega
      | succ m => exact sum_loop hn h24 hf hQ m (k + 1) _ _ _ _ _ _ (by omega)
theorem init_loop {d : Nat} {Q : Rs → Mem → Prop} {M0 : Mem} {n : Nat} {J : Nat → Int} {i1 i2 i3 i4 : Int} {o6 o7 o8 : Option PV} (hV : VJ n J) (hn : M0 175 6 = n) (hJ : M0 151 = J)
    (hQ : ∀ M' o7 o8, FC rcs [] M0 M' → (∀ k, k < n → M' 167 k = 3 ∧ M' 168 k = J (4 * k + 1) ∧ M' 169 k = -1) → L_M_plays_53 d Q M' i1 i2 i3 i4 0 (if n = 0 then -1 else J (4 * (n - 1))) o7 o8) :
    ∀ (m i : Nat) (M : Mem) (o6 o7 o8 : Option PV), i + m = n → FC rcs [] M0 M → (∀ k, k < i → M 167 k = 3 ∧ M 168 k = J (4 * k + 1) ∧ M 169 k = -1) → L_M_plays_8 d Q M i1 i2 i3 i4 (i : Int) o6 o7 o8
  | m, i, M, o6, o7, o8, hi, hf, hM => by
    have h24 := hV.1
    have en : M 175 6 = n := by rw [hf.2 6 (by simp)]; exact hn
    have eJ : M 151 = J := by rw [hf.1 151 (by decide) (by decide)]; exact hJ
    refine b_M_plays_8 ?_
    rw [en, Int.toNat_natCast, eJ, show (4 * (i : Int) + 1).toNat = 4 * i + 1 by omega]
    refine ⟨⟨by omega, by omega⟩, ⟨by omega, by omega⟩, fun z => ⟨fun z2 => ⟨⟨by omega, by omega⟩, ?_⟩, fun z2 => ?_⟩, fun z => ⟨⟨by omega, by omega⟩, ⟨by omega, by omega⟩, ?_⟩⟩
    · have e : i = n := by omega
      subst e
      have := hQ M o7 o8 hf hM
      rw [if_neg (by omega)] at this
      rw [show (4 * (i : Int) - 4).toNat = 4 * (i - 1) by omega]
      exact this
    · have e : i = n := by omega
      subst e
      have := hQ M o7 o8 hf hM
      rw [if_pos (by omega)] at this
      exact this
    · cases m with
      | zero => omega
      | succ m =>
        refine init_loop (o6 := none) (o7 := none) (o8 := none) hV hn hJ hQ m (i + 1) _ _ _ _ (by omega) (((hf.u2 (by simp) (by decide)).u2 (by simp) (by decide)).u2 (by simp) (by decide)) fun k hk => ?_
        rw [u2_off (show (167 : Nat) ≠ 169 by decide), u2_off (show (167 : Nat) ≠ 168 by decide), u2_row, u2_off (show (168 : Nat) ≠ 169 by decide), u2_row, u2_off (show (168 : Nat) ≠ 167 by decide), u2_row, u2_off (show (169 : Nat) ≠ 168 by decide), u2_off (show (169 : Nat) ≠ 167 by decide)]
        by_cases e : k = i
        · subst e; rw [sr_same, sr_same, sr_same]; exact ⟨rfl, rfl, rfl⟩
        · rw [sr_ne e, sr_ne e, sr_ne e]; exact hM k (by omega)