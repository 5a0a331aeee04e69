/-! Long shares: the class. -/
theorem sumT_congr {f g : Nat → Int} : ∀ k, (∀ j, j < k → f j = g j) → sumT f k = sumT g k := by
  intro k
  induction k with
  | zero => intro _; rfl
  | succ k ih =>
    intro h
    show sumT f k + f k = sumT g k + g k
    rw [ih fun j hj => h j (by omega), h k (by omega)]
theorem sumT_r {f : Nat → Int} {B : Int} : ∀ k : Nat, (∀ j, j < k → 0 ≤ f j ∧ f j ≤ B) → 0 ≤ sumT f k ∧ sumT f k ≤ (k : Int) * B := by
  intro k
  induction k with
  | zero => intro _; show (0 : Int) ≤ 0 ∧ (0 : Int) ≤ ((0 : Nat) : Int) * B; omega
  | succ k ih =>
    intro h
    have h1 := ih fun j hj => h j (by omega)
    have h2 := h k (by omega)
    have e : ((k + 1 : Nat) : Int) * B = (k : Int) * B + B := by rw [Int.natCast_add, Int.add_mul, show ((1 : Nat) : Int) = 1 from rfl, Int.one_mul]
    show 0 ≤ sumT f k + f k ∧ sumT f k + f k ≤ ((k + 1 : Nat) : Int) * B
    rw [e]
    omega
abbrev treC : List Nat := [127, 74, 75, 76, 77, 78, 79, 80]
theorem CC.tre {M M' : Mem} {n : Nat} {b : Int} {A : Nat → Nat → Int} (h : CC M n b A) (hf : Fr treC M M') : CC M' n b A := h.kept hf (by decide) fun i hi => by simp; omega
/-- what stands for a state -/
def treV (n s : Nat) (b : Int) (A : Nat → Nat → Int) (i : Nat) (v : Int) : Prop := (s.testBit i = true ∧ ((v : Int) : Rat) = Dd (eNQ b A (s ^^^ 2 ^ i) n (-1)) (cnt (s ^^^ 2 ^ i) n)) ∨ (s.testBit i = false ∧ v = 0)
theorem s_growTrees {d : Nat} {M : Mem} {n s : Nat} {b : Int} {A : Nat → Nat → Int} (hC : CC M n b A) (hO : cOk n b A) (hs : s < 128) : Post (d + 4) cC_growTrees [oC, .inl (s : Int)] M (fun v M' => Fr treC M M' ∧ v = sumT (M' 127) n ∧ ∀ i, i < n → treV n s b A i (M' 127 i)) := by
  intro Q hQ
  have h7 := hO.1
  have loop : ∀ (h k : Nat), k + h = n → ∀ M1, Fr treC M M1 → (∀ i, i < k → treV n s b A i (M1 127 i)) → L_C_growTrees_4 (d + 3) Q M1 (s : Int) (sumT (M1 127) k) (k : Int) := by
    intro h
    induction h with
    | zero =>
      intro k hk M1 f1 hall
      have hk : k = n := by omega
      subst hk
      have C1 := hC.tre f1
      refine b_C_growTrees_4 ?_
      rw [C1.1]
      exact ⟨⟨by omega, by omega⟩, ⟨by omega, by omega⟩, fun _ => hQ _ _ ⟨f1, rfl, hall⟩, fun z => absurd (Int.le_refl _) z⟩
    | succ h ih =>
      intro k hk M1 f1 hall
      have C1 := hC.tre f1
      have nx : ∀ M2 v, Fr treC M1 M2 → M2 127 = M1 127 → treV n s b A k v → L_C_growTrees_4 (d + 3) Q (upd2 M2 127 k v) (s : Int) (sumT (M1 127) k + (upd2 M2 127 k v) 127 k) ((k : Int) + 1) := fun M2 v f2 e2 hv => by
        have e : sumT (M1 127) k + (upd2 M2 127 k v) 127 k = sumT ((upd2 M2 127 k v) 127) (k + 1) := by
          show _ = sumT ((upd2 M2 127 k v) 127) k + (upd2 M2 127 k v) 127 k
          rw [sumT_congr (f := M1 127) (g := (upd2 M2 127 k v) 127) k fun j hj => by rw [u2_ne (by omega), e2]]
        rw [e, show (k : Int) + 1 = ((k + 1 : Nat) : Int) by omega]
        refine ih (k + 1) (by omega) _ ((f1.tr f2).u2 (by simp)) fun i hi => ?_
        by_cases e3 : i = k
        · rw [e3, u2_same]; exact hv
        · rw [u2_ne e3, e2]; exact hall i (by omega)
      refine b_C_growTrees_4 ?_
      rw [C1.1]
      refine ⟨⟨by omega, by omega⟩, ⟨by omega, by omega⟩, fun z => absurd z (by omega), fun _ => ?_⟩
      refine (s_isIn (d := d + 2) hs (show k < 32 by omega)).cal fun v1 M2 hM2 => ?_
      obtain ⟨rfl, ⟨rfl, hb⟩ | ⟨rfl, hb⟩⟩ := hM2
      · refine ⟨⟨by decide, by decide⟩, fun z => absurd z (by decide), fun _ => ⟨⟨by omega, by omega⟩, ?_⟩⟩
        obtain ⟨b1, b2⟩ := bit_one (j := k) (by omega)
        have hx : s ^^^ 2 ^ k < 128 := Nat.xor_lt_two_pow (n := 7) hs b2
        rw [b1, zxor_nat hs b2]
        have hc := cnt_er hb (bt_xor hb) n
        rw [if_pos (show k < n by omega)] at hc
        have hcn := cnt_le (s := s) n
        refine (s_detOver (d := d) (s := s ^^^ 2 ^ k) (p := -1) (q := -1) C1 hO hx (by omega) ⟨by decide, by decide⟩ (Or.inl rfl)).cal fun v2 M3 hM3 => ?_
        obtain ⟨f3, R, g3, k3⟩ := hM3
        rw [Int.toNat_natCast]
        refine ⟨⟨by omega, by omega⟩, nx M3 v2 (f3.mono (by simp)) (f3 127 (by decide)) (Or.inl ⟨hb, ?_⟩)⟩
        rw [k3]
        refine congrFun (wed_cells _ fun a c ha hc => ?_) _
        obtain ⟨a1, a2, a3⟩ := sel_in ha
        obtain ⟨e1, e2, e3⟩ := sel_in hc
        have := g3 _ _ a1 e1 a2 e2
        rw [a3, e3, dv_eN0 (q := -1) ha hc] at this
        exact this
      · rw [Int.toNat_natCast]
        exact ⟨⟨by decide, by decide⟩, fun _ => ⟨⟨by omega, by omega⟩, nx _ 0 Fr.rfl' rfl (Or.inr ⟨hb, rfl⟩)⟩, fun z => absurd rfl z⟩
  exact e_C_growTrees (b_C_growTrees_0 (loop n 0 (by omega) M Fr.rfl' fun i h => absurd h (Nat.not_lt_zero i)))
theorem Dd_whole {n s m : Nat} {b : Int} {A : Nat → Nat → Int} {v : Int} (hO : cOk n b A) (hm : m ≤ 6) (hmc : m ≤ cnt s n) (hv : ((v : Int) : Rat) = Dd (eNQ b A s n (-1)) m) : v ≤ 600 ^ 6 := by
  obtain ⟨z, z1, z2, z3⟩ := wed_whole (W := m) (R := eNQ b A s n (-1)) (a := 100) (by decide) m (fun a c ha hc => ⟨_, rfl, eN_r hO (Or.inl rfl) (show a < cnt s n by omega) (show c ≤ cnt s n by omega)⟩) (full m)
  have e : ((v : Int) : Rat) = ((z : Int) : Rat) := hv.trans z1
  have e := Rat.intCast_inj.mp e
  have b1 : ((m : Int) * 100) ^ m ≤ 600 ^ m := pw_base (by omega) (by omega) m
  have b2 : (600 : Int) ^ m ≤ 600 ^ 6 := pw_mono (by decide) hm
  omega
/-- what growTrees told, of a group -/
theorem tree_val {n s : Nat} {b : Int} {A : Nat → Nat → Int} {t : Nat → Int} (hO : cOk n b A) (hla : lawful n b A) (hG : isGrp n (cE n A (-1)) s) (ht : ∀ i, i < n → treV n s b A i (t i)) : ∃ W, cnt s n = W + 1 ∧ GN (eNQ b A s n (-1)) W ∧ (∀ i, i < n → s.testBit i = true → ((t i : Int) : Rat) = tcof (eNQ b A s n (-1)) W (cnt s i)) ∧ (∀ i, i < n → 0 ≤ t i ∧ t i ≤ 600 ^ 6) ∧ ((sumT t n : Int) : Rat) = sumQ (tcof (eNQ b A s n (-1)) W) (W + 1) ∧ 0 < sumT t n ∧ sumT t n ≤ 7 * 600 ^ 6 := by
  have h7 := hO.1
  obtain ⟨W, hW, hN, hc⟩ := grp_GN hO (fun a ha => Int.le_of_eq (hla a ha)) (fun a ha _ => hla a ha) hG
  have hcn := cnt_le (s := s) n
  have hv : ∀ i, i < n → s.testBit i = true → ((t i : Int) : Rat) = tcof (eNQ b A s n (-1)) W (cnt s i) := fun i hi hb => by
    rcases ht i hi with ⟨_, h⟩ | ⟨h, _⟩
    · rw [h, (hc i hb).2, (hc i hb).1]
    · rw [hb] at h; cases h
  have hp : ∀ i, i < n → s.testBit i = true → 0 < t i := fun i hi hb => by
    have h1 := hN.2.2.2 (cnt s i) (by have := cnt_k_lt hi hb; omega)
    rw [← hv i hi hb] at h1
    exact Rat.intCast_lt_intCast.mp h1
  have hr : ∀ i, i < n → 0 ≤ t i ∧ t i ≤ 600 ^ 6 := fun i hi => by
    rcases ht i hi with ⟨hb, h⟩ | ⟨_, h⟩
    · rw [(hc i hb).1] at h
      exact ⟨Int.le_of_lt (hp i hi hb), Dd_whole (s := s ^^^ 2 ^ i) hO (by omega) (by rw [(hc i hb).1]; exact Nat.le_refl _) h⟩
    · rw [h]; exact ⟨by decide, by decide +kernel⟩
  have hs := sumT_r (f := t) (B := 600 ^ 6) n hr
  have e1 := sum_sel (s := s) (f := fun j => ((t j : Int) : Rat)) n
  have e2 : sumQ (fun j => if s.testBit j = true then ((t j : Int) : Rat) else 0) n = sumQ (fun j => ((t j : Int) : Rat)) n := sumQ_congr n fun j hj => by
    rcases ht j hj with ⟨hb, _⟩ | ⟨hb, h⟩
    · rw [if_pos hb]
    · rw [hb, if_neg (by decide), h]; rfl
  have e3 : sumQ (fun c => ((t (sel s n c) : Int) : Rat)) (cnt s n) = sumQ (tcof (eNQ b A s n (-1)) W) (W + 1) := by
    rw [hW]
    refine sumQ_congr _ fun c hc => ?_
    obtain ⟨c1, c2, c3⟩ := sel_in (show c < cnt s n by omega)
    show ((t (sel s n c) : Int) : Rat) = _
    rw [hv _ c1 c2, c3]
  rw [e2, e3, sumQ_cast (f := t)] at e1
  have tp : 0 < sumQ (tcof (eNQ b A s n (-1)) W) (W + 1) := sumQ_pos (r := 0) (W + 1) (fun j hj => Rat.le_of_lt (hN.2.2.2 j hj)) (by omega) (hN.2.2.2 0 (by omega))
  rw [e1] at tp
  refine ⟨W, hW, hN, hv, hr, e1.symm, Rat.intCast_lt_intCast.mp tp, Int.le_trans hs.2 ?_⟩
  have : (0 : Int) < 600 ^ 6 := by decide +kernel
  exact Int.mul_le_mul_of_nonneg_right (by omega) (by omega)
/-- the long share -/
def shrV (n : Nat) (b : Int) (A : Nat → Nat → Int) (i : Nat) (q : Rat) : Prop := (¬ inGrp n (cE n A (-1)) i ∧ q = 0) ∨ (inGrp n (cE n A (-1)) i ∧ ∃ s, isSet n (cE n A (-1)) i s ∧ q = shQ b.toNat A s n (cnt s i))
theorem shrV.uniq {n : Nat} {b : Int} {A : Nat → Nat → Int} {i : Nat} {v w : Rat} (h : shrV n b A i v) (h2 : shrV n b A i w) : v = w := by
  rcases h with ⟨a, rfl⟩ | ⟨a, s, hs, rfl⟩ <;> rcases h2 with ⟨a', rfl⟩ | ⟨a', t, ht, rfl⟩
  · rfl
  · exact absurd a' a
  · exact absurd a a'
  · rw [hs.uniq ht]
abbrev shaC : List Nat := 127 :: solC
theorem p7600 : (7 : Int) * 600 ^ 6 < 9223372036854775808 ∧ (600 : Int) ^ 6 < 9223372036854775808 := by decide +kernel
theorem s_shareOf {d : Nat} {M : Mem} {n i : Nat} {b : Int} {A : Nat → Nat → Int} (hC : CC M n b A) (hO : cOk n b A) (hla : lawful n b A) (hL : CL M n (cE n A (-1))) (hz : AZ M) (hi : i < n) : Post (d + 5) cC_shareOf [oC, .inl (i : Int), oB 90] M (fun v M' => Fr shaC M M' ∧ AZ M' ∧ ∃ q, shrV n b A i q ∧ CF M' q ∧ v = q.num.sign) := by
  intro Q hQ
  have h7 := hO.1
  have hb := hO.2.1
  refine e_C_shareOf (b_C_shareOf_0 ?_)
  refine (s_isInGroup (d := d + 1) hL hC.1 h7.2 hi).cal fun v1 M1 hM1 => ?_
  obtain ⟨rfl, ⟨rfl, g⟩ | ⟨rfl, g⟩⟩ := hM1
  · obtain ⟨s, s1, s2⟩ := hL i hi
    have hG := isGrp.of s2 g hi
    rw [Int.toNat_natCast, s1]
    refine ⟨⟨by decide, by decide⟩, fun _ => ⟨⟨by omega, by omega⟩, ?_⟩, fun z => absurd (by decide) z⟩
    refine (s_growTrees (d := d) hC hO s2.1).cal fun v2 M2 hM2 => ?_
    obtain ⟨f2, rfl, g2⟩ := hM2
    obtain ⟨W, hW, hN, t1, t2, t3, t4, t5⟩ := tree_val hO hla hG g2
    have hp := p7600
    have hsi := (s2.2 i).mpr ⟨hi, .refl i⟩
    have ti := t2 i hi
    obtain ⟨X, hX⟩ : ∃ X : Nat, M2 127 i = X := ⟨(M2 127 i).toNat, by omega⟩
    obtain ⟨Y, hY⟩ : ∃ Y : Nat, sumT (M2 127) n = Y := ⟨(sumT (M2 127) n).toNat, by omega⟩
    have z2 : AZ M2 := hz.fr f2 fun r hr hm => by
      obtain ⟨r1, r2⟩ := hr
      simp at hm
      omega
    obtain ⟨B, rfl⟩ : ∃ B : Nat, b = B := ⟨b.toNat, by omega⟩
    have hsh := grp_shares hO (fun a ha => Int.le_of_eq (hla a ha)) (fun a ha _ => hla a ha) hG
    obtain ⟨W', hW', _, _, _, _, _, hval⟩ := hsh
    have eW : W' = W := by omega
    subst eW
    have esol : mkRat (X : Int) Y = shQ B A s n (cnt s i) := by
      rw [mkRat_ratio, hval (cnt s i) (cnt_k_lt hi hsi), hW, ← t3, ← t1 i hi hsi, hX, hY]
    rw [hX, hY, show max (Y : Int) 1 = (Y : Int) by omega]
    refine ⟨⟨by omega, by omega⟩, ?_⟩
    refine (s_setLongsQ (d := d + 1) (x := X) (y := Y) (by omega) (by omega) (by omega) (z2 0 (bIr (by decide) rfl)) (z2 2 (bIr (by decide) rfl))).cal fun v3 M3 hM3 => ?_
    obtain ⟨f3, g3, e3⟩ := hM3
    rw [esol] at g3 e3
    refine hQ _ _ ⟨(f2.mono (by simp)).tr (f3.mono (by simp)), z2.sol (f3.mono (by simp)) g3, _, Or.inr ⟨g, s, s2, ?_⟩, g3, e3⟩
    rw [Int.toNat_natCast]
  · refine ⟨⟨by decide, by decide⟩, fun z => absurd rfl z, fun _ => ?_⟩
    refine (s_setLongsQ (d := d + 1) (x := 0) (y := 1) (by decide) (by decide) (by decide) (hz 0 (bIr (by decide) rfl)) (hz 2 (bIr (by decide) rfl))).cal fun v2 M2 hM2 => ?_
    obtain ⟨f2, g2, e2⟩ := hM2
    rw [mk01] at g2 e2
    exact hQ _ _ ⟨f2.mono (by simp), hz.sol (f2.mono (by simp)) g2, 0, Or.inl ⟨g, rfl⟩, g2, e2⟩
abbrev lngC : List Nat := 126 :: shaC
theorem s_QlongShare {d : Nat} {M : Mem} {n : Nat} {b i : Int} {A : Nat → Nat → Int} (hC : CC M n b A) (hO : cOk n b A) (hz : AZ M) (hi : R32 i) : PostE (d + 6) cQ_longShare [oQ, .inl i] M (fun r M' => (¬ inSt n i i ∧ r = .inr 4 ∧ M' = M) ∨ (inSt n i i ∧ ¬ lawful n b A ∧ r = .inr 5 ∧ M' = M) ∨ (inSt n i i ∧ lawful n b A ∧ Fr lngC M M' ∧ AZ M' ∧ ∃ q, shrV n b A i.toNat q ∧ CF M' q ∧ r = .inl q.num.sign)) := by
  intro Q hQ
  have h7 := hO.1
  refine e_Q_longShare (b_Q_longShare_0 ?_)
  refine (s_needStates (d := d + 4) hC.1 h7.2 hi hi).cal fun r1 M1 hM1 => ?_
  rcases hM1 with ⟨h1, rfl, rfl⟩ | ⟨h1, rfl, rfl⟩
  · exact hQ _ _ (Or.inl ⟨h1, rfl, rfl⟩)
  refine (s_needLawful (d := d + 2) hC hO).cal fun r1 M1 hM1 => ?_
  rcases hM1 with ⟨h2, rfl, rfl⟩ | ⟨h2, rfl, rfl⟩
  · exact hQ _ _ (Or.inr (Or.inl ⟨h1, h2, rfl, rfl⟩))
  have hq := h1
  unfold inSt at hq
  obtain ⟨I, rfl⟩ : ∃ I : Nat, i = I := ⟨i.toNat, by omega⟩
  refine (s_findLeads (d := d + 2) hC hO).cal fun v2 M2 hM2 => ?_
  obtain ⟨f2, g2⟩ := hM2
  refine (s_shareOf (d := d) (hC.lead f2) hO h2 g2 (hz.lead f2) (show I < n by omega)).cal fun v3 M3 hM3 => ?_
  obtain ⟨f3, z3, q, q1, q2, q3⟩ := hM3
  refine hQ _ _ (Or.inr (Or.inr ⟨h1, h2, (f2.mono (by simp)).tr (f3.mono fun a h => List.mem_cons_of_mem _ h), z3, q, ?_, q2, by rw [q3]⟩))
  rw [Int.toNat_natCast]
  exact q1
