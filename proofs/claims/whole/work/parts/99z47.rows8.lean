/-! The reference's rows: divideRows, whole. -/
theorem atI_kept {l : List Nat} {M M' : Mem} {r : Nat} {i : Int} (hf : RF l M M') (hr : r ∉ l) (h : M 164 r ≤ 300) : atI M' r i = atI M r i := by
  unfold atI
  rw [rd_kept hf hr h]
theorem dz_loop {d : Nat} {Q : Rs → Mem → Prop} {b sh : Nat} {M1 : Mem} {o1 : Option PV} (hsh : sh < 300)
    (hex : ∀ M' o5 o6 o7 o8 o9 o10, RF [195] M1 M' → (∀ p, p < sh + 1 → raw M' 195 p = 0) → L_M_divideRows_21 d Q M' o1 (b : Int) (sh : Int) ((sh + 1 : Nat) : Int) o5 o6 o7 o8 o9 o10) : ∀ (k i : Nat) (M : Mem) (o5 o6 o7 o8 o9 o10 : Option PV), i + k = sh + 1 → RF [195] M1 M → (∀ p, p < i → raw M 195 p = 0) → L_M_divideRows_21 d Q M o1 (b : Int) (sh : Int) (i : Int) o5 o6 o7 o8 o9 o10 := by
  intro k
  induction k with
  | zero =>
    intro i M o5 o6 o7 o8 o9 o10 hi hf hz
    have : i = sh + 1 := by omega
    subst this
    exact hex M _ _ _ _ _ _ hf hz
  | succ k ih =>
    intro i M o5 o6 o7 o8 o9 o10 hi hf hz
    refine b_M_divideRows_21 ?_
    rw [show (58500 + (i : Int)).toNat = 300 * 195 + i by omega]
    refine ⟨⟨by omega, by omega⟩, ⟨by omega, by omega⟩, fun h => absurd h (by omega), fun _ => ⟨⟨by omega, by omega⟩, ?_⟩⟩
    refine ih (i + 1) _ _ _ _ _ _ _ (by omega) (hf.digit (by simp) (by omega)) fun p hp => ?_
    rw [raw_up]
    by_cases q : p = i
    · rw [q, sr_same]
    · rw [sr_ne q]; exact hz p (by omega)
/-- divideRows: the quotient in row 195, the rest in row 196 -/
theorem s_divideRows {d : Nat} {M : Mem} {a b : Nat} {v w : Int} (ha : a < 200) (hb : b < 200) (hb5 : b ≠ 195) (hb6 : b ≠ 196) (ha6 : a ≠ 196) (hv : Row M a v) (hw : Row M b w) (hw0 : 0 < w) :
    Post (d + 3) cM_divideRows [oM, .inl (a : Int), .inl (b : Int)] M (fun _ M' => RF [195, 196] M M' ∧ Row M' 195 (v / w) ∧ Row M' 196 (v % w)) := by
  intro Q hQ
  have sa := hv.size
  have sb := hw.size
  have hv0 := hv.nonneg
  obtain ⟨m, hm⟩ : ∃ m : Nat, M 164 a = m := ⟨(M 164 a).toNat, by omega⟩
  obtain ⟨n, hn⟩ : ∃ n : Nat, M 164 b = n := ⟨(M 164 b).toNat, by omega⟩
  obtain ⟨p1, p2, p3⟩ := hv.range hm
  obtain ⟨q1, q2, q3⟩ := hw.range hn
  have h195 : (195 : Nat) < 200 := by decide
  have hn1 : 0 < n := by
    rcases Nat.eq_zero_or_pos n with e | e
    · exfalso
      have := hw.zero_iff.mp (by omega)
      omega
    · exact e
  refine e_M_divideRows (b_M_divideRows_0 ?_)
  refine (s_copyRow (d := d + 1) (b := 196) (by omega) (by decide) (by omega) hv).cal fun x1 M1 hM1 => ?_
  obtain ⟨f1, g1⟩ := hM1
  have ma : M1 164 a = m := by rw [f1.2.1 a (by simp; omega)]; exact hm
  have mb : M1 164 b = n := by rw [f1.2.1 b (by simp; omega)]; exact hn
  rw [Int.toNat_natCast, Int.toNat_natCast, ma, mb]
  refine ⟨⟨by omega, by omega⟩, ⟨by omega, by omega⟩, ?_⟩
  have F : RF [195, 196] M (upd2 M1 164 195 0) := (f1.mono (by simp)).size (by simp)
  have F1 : RF [195] M1 (upd2 M1 164 195 0) := RF.rfl'.size (by simp)
  have last : ∀ (M' : Mem) (i3 i4 : Int) o1 o5 o6 o7 o8 o9 o10, RF [195] M1 M' → R32 i4 → R32 i3 → i3 < i4 → (∀ o1 o8 o9 o10, L_M_divideRows_60 (d + 2) Q M' o1 (b : Int) i3 (n : Int) (atI M b ((n : Int) - 1) * 10000 + atI M b ((n : Int) - 2) + 1) i3 o8 o9 o10) → L_M_divideRows_21 (d + 2) Q M' o1 (b : Int) i3 i4 o5 o6 o7 o8 o9 o10 := by
    intro M' i3 i4 o1 o5 o6 o7 o8 o9 o10 hf r4 r3 hlt hL
    have G : RF [195, 196] M M' := (f1.mono (by simp)).tr (hf.mono (by simp))
    have eb : M' 164 b = n := by rw [G.2.1 b (by simp; omega)]; exact hn
    have ek : ∀ i, atI M' b i = atI M b i := fun i => atI_kept G (by simp; omega) sb.2
    have bl1 := atI_bd (i := (n : Int) - 1) hw.1
    have bl2 := atI_bd (i := (n : Int) - 2) hw.1
    refine b_M_divideRows_21 ⟨r4, r3, fun _ => ⟨⟨by omega, by omega⟩, ?_⟩, fun h => absurd hlt h⟩
    rw [Int.toNat_natCast, eb]
    refine (s_atI (d := d + 1) hb (by omega) ⟨by omega, by omega⟩).cal fun x2 M2 hM2 => ?_
    obtain ⟨rfl, rfl⟩ := hM2
    rw [ek]
    refine ⟨⟨by omega, by omega⟩, ?_⟩
    refine (s_atI (d := d + 1) hb (by omega) ⟨by omega, by omega⟩).cal fun x3 M3 hM3 => ?_
    obtain ⟨rfl, rfl⟩ := hM3
    rw [ek]
    exact ⟨⟨by omega, by omega⟩, hL _ _ _ _⟩
  rcases Nat.lt_or_ge m n with hmn | hmn
  · have hlt : v < w := by
      have h3 := q2 hn1
      have h4 : (10000 : Int) ^ m ≤ 10000 ^ (n - 1) := pw_mono (by decide) (by omega)
      omega
    refine last _ _ _ _ _ _ _ _ _ _ F1 ⟨by omega, by omega⟩ ⟨by omega, by omega⟩ (by omega) fun o1 o8 o9 o10 => ?_
    refine b_M_divideRows_60 ⟨⟨by omega, by omega⟩, fun _ => ⟨⟨by omega, by omega⟩, fun h => absurd h (by omega), fun _ => ?_⟩, fun h => absurd (by omega) h⟩
    refine (s_trims (d := d + 1) (r := 195) (n := 0) h195 (by omega) (fun p hp => absurd hp (by omega))).cal fun x M' hM' => ?_
    obtain ⟨f2, g2⟩ := hM'
    refine hQ 0 M' ⟨F.tr (f2.mono (by simp)), ?_, ?_⟩
    · rw [Int.ediv_eq_zero_of_lt hv0 hlt]
      exact g2
    · rw [Int.emod_eq_of_lt hv0 hlt]
      exact (g1.kept F1 (by decide)).kept f2 (by decide)
  · obtain ⟨sh, rfl⟩ := Nat.exists_eq_add_of_le hmn
    rw [show (((n + sh : Nat) : Int) - (n : Int)) = (sh : Int) by omega]
    refine dz_loop (M1 := M1) (by omega) (fun M' o5 o6 o7 o8 o9 o10 hf hz => ?_) (sh + 1) 0 _ _ _ _ _ _ _ (by omega) F1 fun p hp => absurd hp (by omega)
    refine last M' _ _ _ _ _ _ _ _ _ hf ⟨by omega, by omega⟩ ⟨by omega, by omega⟩ (by omega) fun o1 o8 o9 o10 => ?_
    have G : RF [195, 196] M M' := (f1.mono (by simp)).tr (hf.mono (by simp))
    have := dR_loop (d := d + 2) (Q := Q) (M0 := M) (v := v) (by omega) hb hb5 hb6 hw0 hn hn1 (by omega) hw (fun M'' a1 a2 a3 => hQ 0 M'' ⟨a1, a2, a3⟩) (sh + 1) M' v o1 o8 o9 o10 (Nat.le_refl _) ⟨G, g1.kept hf (by decide), hw.kept G (by simp; omega), by rw [bs_zero hz]; simp, fun p hp => by rw [hz p (by omega)]; omega⟩ hz ?_
    · rwa [show ((sh + 1 : Nat) : Int) - 1 = (sh : Int) by omega] at this
    · have h3 := q2 hn1
      have hps := pw_pos DD0 (sh + 1)
      have h5 : (10000 : Int) ^ (n - 1) * 10000 ^ (sh + 1) ≤ w * 10000 ^ (sh + 1) := Int.mul_le_mul_of_nonneg_right h3 (Int.le_of_lt hps)
      rw [← Int.pow_add, show n - 1 + (sh + 1) = n + sh by omega] at h5
      omega
