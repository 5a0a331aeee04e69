/-! The reference solves over a set of states. -/
theorem FQ.fr173 {M M' : Mem} {f : Nat} {q : Rat} (h : FQ M f q) (hf : Fr [173] M M') : FQ M' f q := h.off (hf 163 (by decide)) (hf 164 (by decide)) (hf 165 (by decide))
theorem Fr.fm173 {M M' : Mem} (h : Fr [173] M M') : FM [173] [] [] M M' := ⟨fun a _ _ _ _ h5 => h a h5, fun s _ => by rw [h 175 (by decide)], fun f _ _ q hq => hq.fr173 h⟩
theorem RC.fm' {M M' : Mem} {n : Nat} {b : Int} {A : Nat → Nat → Int} {cs ss l : List Nat} (h : RC M n b A) (hf : FM cs ss l M M') (h1 : 154 ∉ cs) (h2 : 16 ∉ ss) (h3 : 17 ∉ ss) : RC M' n b A := by
  obtain ⟨c1, c2, c3⟩ := h
  exact ⟨by rw [hf.2.1 16 h2]; exact c1, by rw [hf.2.1 17 h3]; exact c2, fun i j hi hj => by rw [hf.1 154 (by decide) (by decide) (by decide) (by decide) h1]; exact c3 i j hi hj⟩
theorem s_laysUnknowns {d : Nat} {M : Mem} {n s : Nat} (hn : M 175 16 = n) (h7 : n ≤ 7) (hs : s < 128) : Post (d + 1) cM_laysUnknowns [oM, .inl (s : Int)] M (fun v M' => Fr [173] M M' ∧ v = ((cnt s n : Nat) : Int) ∧ ∀ a, a < cnt s n → M' 173 a = ((sel s n a : Nat) : Int)) := by
  intro Q hQ
  refine e_M_laysUnknowns (b_M_laysUnknowns_0 ?_)
  have loop : ∀ (g k : Nat), k + g = n → ∀ M1, Fr [173] M M1 → (∀ i, i < k → s.testBit i = true → M1 173 (cnt s i) = (i : Int)) → L_M_laysUnknowns_4 d Q M1 (s : Int) ((cnt s k : Nat) : Int) (k : Int) := by
    intro g
    induction g with
    | zero =>
      intro k hk M1 f1 hall
      have hk : k = n := by omega
      subst hk
      refine b_M_laysUnknowns_4 ?_
      rw [f1 175 (by decide), hn]
      refine ⟨⟨by omega, by omega⟩, ⟨by omega, by omega⟩, fun _ => hQ _ _ ⟨f1, rfl, fun a ha => ?_⟩, fun z => absurd (Int.le_refl _) z⟩
      obtain ⟨a1, a2, a3⟩ := sel_in ha
      have := hall _ a1 a2
      rw [a3] at this
      exact this
    | succ g ih =>
      intro k hk M1 f1 hall
      refine b_M_laysUnknowns_4 ?_
      rw [f1 175 (by decide), hn, bit_and hs (show k < 32 by omega)]
      refine ⟨⟨by omega, by omega⟩, ⟨by omega, by omega⟩, fun z => absurd z (by omega), fun _ => ⟨⟨by omega, by omega⟩, ⟨by omega, by omega⟩, ?_⟩⟩
      rw [show (k : Int) + 1 = ((k + 1 : Nat) : Int) by omega]
      cases hb : s.testBit k
      · refine ⟨⟨by decide, by decide⟩, fun _ => ?_, fun z => absurd (fun h => by cases h) z⟩
        rw [← cnt_no hb]
        refine ih (k + 1) (by omega) M1 f1 fun i hi h => ?_
        by_cases e : i = k
        · rw [e, hb] at h; cases h
        · exact hall i (by omega) h
      · refine ⟨⟨by decide, by decide⟩, fun z => absurd rfl z, fun _ => ?_⟩
        have := cnt_le (s := s) k
        rw [show ((cnt s k : Nat) : Int) + 1 = ((cnt s (k + 1) : Nat) : Int) by rw [cnt_up hb]; omega, Int.toNat_natCast]
        refine ⟨⟨by omega, by omega⟩, ih (k + 1) (by omega) _ (f1.u2 (by simp)) fun i hi h => ?_⟩
        by_cases e : i = k
        · rw [e, u2_same]
        · have := cnt_k_lt (show i < k by omega) h
          rw [u2_ne (by omega)]
          exact hall i (by omega) h
  exact loop n 0 (by omega) M Fr.rfl' fun i h => absurd h (Nat.not_lt_zero i)
theorem s_emptiesTable {d : Nat} {M : Mem} {n : Nat} (hn : n ≤ 7) : Post (d + 6) cM_emptiesTable [oM, .inl (n : Int)] M (fun _ M' => FR solF M M' ∧ TQ M' n (fun _ _ => 0)) := by
  intro Q hQ
  refine e_M_emptiesTable (b_M_emptiesTable_0 ?_)
  have outer : ∀ (g k : Nat), k + g = n → ∀ M1 o3, FR solF M M1 → (∀ a c, a < k → c ≤ n → FQ M1 (8 * a + c) 0) → L_M_emptiesTable_2 (d + 5) Q M1 (n : Int) (k : Int) o3 := by
    intro g
    induction g with
    | zero =>
      intro k hk M1 o3 f1 hall
      have hk : k = n := by omega
      subst hk
      exact b_M_emptiesTable_2 ⟨⟨by omega, by omega⟩, ⟨by omega, by omega⟩, fun _ => hQ _ _ ⟨f1, hall⟩, fun z => absurd (Int.le_refl _) z⟩
    | succ g ih =>
      intro k hk M1 o3 f1 hall
      refine b_M_emptiesTable_2 ⟨⟨by omega, by omega⟩, ⟨by omega, by omega⟩, fun z => absurd z (by omega), fun _ => ?_⟩
      have inner : ∀ (h j : Nat), j + h = n + 1 → ∀ M2, FR solF M M2 → (∀ a c, a < k → c ≤ n → FQ M2 (8 * a + c) 0) → (∀ c, c < j → FQ M2 (8 * k + c) 0) → L_M_emptiesTable_7 (d + 5) Q M2 (n : Int) (k : Int) (j : Int) := by
        intro h
        induction h with
        | zero =>
          intro j hj M2 f2 hall2 hrow
          refine b_M_emptiesTable_7 ⟨⟨by omega, by omega⟩, ⟨by omega, by omega⟩, fun _ => ?_, fun z => absurd (by omega) z⟩
          rw [show (k : Int) + 1 = ((k + 1 : Nat) : Int) by omega]
          refine ih (k + 1) (by omega) M2 _ f2 fun a c ha hc => ?_
          by_cases e : a = k
          · rw [e]; exact hrow c (by omega)
          · exact hall2 a c (by omega) hc
        | succ h ihh =>
          intro j hj M2 f2 hall2 hrow
          refine b_M_emptiesTable_7 ⟨⟨by omega, by omega⟩, ⟨by omega, by omega⟩, fun z => absurd z (by omega), fun _ => ?_⟩
          refine (s_place (d := d + 4) (i := k) (j := j)).cal fun v1 M3 hM3 => ?_
          obtain ⟨rfl, rfl⟩ := hM3
          refine (s_sets (d := d) (i := 8 * k + j) (x := 0) (y := 1) (by omega) (by decide) (by decide) (by decide)).cal fun v4 M4 hM4 => ?_
          obtain ⟨f4, g4⟩ := hM4
          rw [Rat.zero_mkRat] at g4
          rw [show (j : Int) + 1 = ((j + 1 : Nat) : Int) by omega]
          refine ihh (j + 1) (by omega) M4 (f2.tr (f4.sol (by omega))) (fun a c ha hc => (hall2 a c ha hc).kept f4 (by omega) (by simp; omega)) fun c hc => ?_
          by_cases e : c = j
          · rw [e]; exact g4
          · exact (hrow c (by omega)).kept f4 (by omega) (by simp; omega)
      exact inner (n + 1) 0 (by omega) M1 f1 hall fun c h => absurd h (Nat.not_lt_zero c)
  exact outer n 0 (by omega) M _ FR.rfl' fun a c h => absurd h (Nat.not_lt_zero a)
theorem mk_mul {p : Int} {y : Nat} (hy : 0 < y) : mkRat p y * (((y : Nat) : Int) : Rat) = ((p : Int) : Rat) := by
  have h1 : (((y : Nat) : Int) : Rat) ≠ 0 := int_ne (by omega)
  rw [Rat.mkRat_eq_div]
  exact Rat.div_mul_cancel h1
theorem solF_r (i : Nat) (h : 67 ≤ i) : i ∉ solF := by
  simp; omega
def qOf (tm : Int) (g : Nat) : Int := if tm = 0 then (g : Int) else -1
theorem s_solvesTo {d : Nat} {M : Mem} {n s w f g b : Nat} {tm : Int} {A : Nat → Nat → Int} (hC : RC M n (b : Int) A) (hO : cOk n (b : Int) A) (hr : ∀ i, i < n → rowS A i n ≤ (b : Int)) (hs : s < 128) (hf : f < n) (hsf : s.testBit f = true) (hw : s.testBit w = false) (hl : ∀ i, i < n → s.testBit i = true → Rch (cE n A (-1)) i w) (hg : g < 7) (htm : tm = 0 ∨ tm = 1) :
    Post (d + 7) cM_solvesTo [oM, .inl (s : Int), .inl (g : Int), .inl tm, .inl (f : Int)] M (fun v M' => FM [173] [] solF M M' ∧ ∃ i : Nat, i < 7 ∧ v = ((56 + i : Nat) : Int) ∧ FQ M' (56 + i) (solQ (b : Int) A s n (qOf tm g) f)) := by
  intro Q hQ
  have h7 := hO.1
  have hb := hO.2.1
  have hq : qOf tm g = -1 ∨ (0 ≤ qOf tm g ∧ qOf tm g < 7) := by unfold qOf; split <;> omega
  obtain ⟨x, x1, x2⟩ := eNQ_Mx (q := qOf tm g) hO hr hw hl
  have hcf : cnt s f < cnt s n := cnt_k_lt hf hsf
  have hcn := cnt_le (s := s) n
  have Dp := (x2.go x1 _ (Nat.le_refl _)).2
  have hbz : (((b : Nat) : Int) : Rat) ≠ 0 := int_ne (by omega)
  have TN : ∀ a c, a < cnt s n → c ≤ cnt s n → mkRat (eN (b : Int) A s n (qOf tm g) a c) b * (((b : Nat) : Int) : Rat) = eNQ (b : Int) A s n (qOf tm g) a c := fun a c _ _ => mk_mul (by omega)
  have Tne : ∀ j, j ≤ cnt s n → Dd (fun a c => mkRat (eN (b : Int) A s n (qOf tm g) a c) b) j ≠ 0 := fun j hj z => by
    have e : Dd (fun a c => mkRat (eN (b : Int) A s n (qOf tm g) a c) b) j * (((b : Nat) : Int) : Rat) ^ j = Dd (eNQ (b : Int) A s n (qOf tm g)) j := by
      show wed j _ j (full j) * _ = _
      rw [wed_D]
      exact congrFun (wed_cells j fun a c ha hc => TN a c (by omega) (by omega)) _
    have := Dp j hj
    rw [← e, z] at this
    grind
  refine e_M_solvesTo (b_M_solvesTo_0 ?_)
  refine (s_laysUnknowns (d := d + 5) hC.1 h7.2 hs).cal fun v1 M1 hM1 => ?_
  obtain ⟨f1, rfl, u1⟩ := hM1
  refine (s_emptiesTable (d := d) (n := cnt s n) (by omega)).cal fun v2 M2 hM2 => ?_
  obtain ⟨f2, _⟩ := hM2
  have F2 : FM [173] [] solF M M2 := (f1.fm173.mono (fun _ h => h) (by simp) (by simp)).tr (f2.fm.mono (by simp) (by simp) (fun _ h => h))
  have U2 : ∀ a, a < cnt s n → M2 173 a = ((sel s n a : Nat) : Int) := fun a ha => by rw [f2.1 173 (by decide) (by decide) (by decide)]; exact u1 a ha
  have rows : ∀ (h k : Nat), k + h = cnt s n → ∀ M3 o1 o8, FM [173] [] solF M M3 → (∀ a, a < cnt s n → M3 173 a = ((sel s n a : Nat) : Int)) → (∀ r c, r < k → c ≤ cnt s n → FQ M3 (8 * r + c) (mkRat (eN (b : Int) A s n (qOf tm g) r c) b)) → L_M_solvesTo_11 (d + 6) Q M3 o1 (g : Int) tm (f : Int) ((cnt s n : Nat) : Int) (((if cnt s f < k then cnt s f else 0 : Nat)) : Int) (k : Int) o8 := by
    intro h
    induction h with
    | zero =>
      intro k hk M3 o1 o8 f3 u3 hall
      have hk : k = cnt s n := by omega
      subst hk
      refine b_M_solvesTo_11 ⟨⟨by omega, by omega⟩, ⟨by omega, by omega⟩, fun _ => ?_, fun z => absurd (Int.le_refl _) z⟩
      refine (s_solves (d := d) (n := cnt s n) (T := fun a c => mkRat (eN (b : Int) A s n (qOf tm g) a c) b) (D := (b : Int)) (by omega) (by omega) (fun a c ha hc => ⟨_, TN a c ha hc, by have := eN_r (s := s) hO hq ha hc; omega, by have := eN_r (s := s) hO hq ha hc; omega⟩) Tne hall).cal fun v4 M4 hM4 => ?_
      obtain ⟨f4, g4⟩ := hM4
      rw [if_pos hcf, show 56 + ((cnt s f : Nat) : Int) = ((56 + cnt s f : Nat) : Int) by omega]
      refine hQ _ _ ⟨f3.tr (f4.fm.mono (by simp) (by simp) (fun _ h => h)), cnt s f, by omega, rfl, ?_⟩
      have := g4 (cnt s f) hcf
      rw [wed_scale hbz TN hcf] at this
      exact this
    | succ h ih =>
      intro k hk M3 o1 o8 f3 u3 hall
      obtain ⟨k1, k2, k3⟩ := sel_in (show k < cnt s n by omega)
      refine b_M_solvesTo_11 ?_
      rw [Int.toNat_natCast, u3 k (by omega)]
      have inner : ∀ (e c : Nat), c + e = cnt s n → ∀ M4, FM [173] [] solF M M4 → (∀ a, a < cnt s n → M4 173 a = ((sel s n a : Nat) : Int)) → (∀ r c, r < k → c ≤ cnt s n → FQ M4 (8 * r + c) (mkRat (eN (b : Int) A s n (qOf tm g) r c) b)) → (∀ c', c' < c → FQ M4 (8 * k + c') (mkRat (eN (b : Int) A s n (qOf tm g) k c') b)) → L_M_solvesTo_26 (d + 6) Q M4 o1 (g : Int) tm (f : Int) ((cnt s n : Nat) : Int) (((if cnt s f < k + 1 then cnt s f else 0 : Nat)) : Int) (k : Int) (c : Int) := by
        intro e
        induction e with
        | zero =>
          intro c hc M4 f4 u4 hall4 hrow
          have hc : c = cnt s n := by omega
          subst hc
          have C4 := hC.fm' f4 (by decide) (by simp) (by simp)
          have fin : ∀ M5, FR [8 * k + cnt s n] M4 M5 → FQ M5 (8 * k + cnt s n) (mkRat (eN (b : Int) A s n (qOf tm g) k (cnt s n)) b) → ∀ o8, L_M_solvesTo_11 (d + 6) Q M5 o1 (g : Int) tm (f : Int) ((cnt s n : Nat) : Int) (((if cnt s f < k + 1 then cnt s f else 0 : Nat)) : Int) ((k : Int) + 1) o8 := fun M5 f5 g5 o8 => by
            rw [show (k : Int) + 1 = ((k + 1 : Nat) : Int) by omega]
            refine ih (k + 1) (by omega) M5 _ _ (f4.tr ((f5.sol (by omega)).fm.mono (by simp) (by simp) (fun _ h => h))) (fun a ha => by rw [f5.1 173 (by decide) (by decide) (by decide)]; exact u4 a ha) fun r c hr hc => ?_
            by_cases e : r = k
            · by_cases e2 : c = cnt s n
              · rw [e, e2]; exact g5
              · rw [e]; exact (hrow c (by omega)).kept f5 (by omega) (by simp; omega)
            · exact (hall4 r c (by omega) hc).kept f5 (by omega) (by simp; omega)
          refine b_M_solvesTo_26 ⟨⟨by omega, by omega⟩, ⟨by omega, by omega⟩, fun _ => ?_, fun z => absurd (Int.le_refl _) z⟩
          refine (s_place (d := d + 5) (i := k) (j := cnt s n)).cal fun v5 M5 hM5 => ?_
          obtain ⟨rfl, rfl⟩ := hM5
          rw [Int.toNat_natCast, u4 k (by omega), show (7 * ((sel s n k : Nat) : Int) + (g : Int)).toNat = 7 * sel s n k + g by omega, C4.2.2 _ _ (by omega) hg, C4.2.1]
          have hA := hO.2.2.1 (sel s n k) g (by omega) hg
          have ee : eN (b : Int) A s n (qOf tm g) k (cnt s n) = if tm = 0 then A (sel s n k) g else (b : Int) := by
            unfold eN qOf
            rw [if_pos rfl]
            by_cases e : tm = 0
            · rw [if_pos e, if_neg (by omega), if_pos e, Int.toNat_natCast]
            · rw [if_neg e, if_pos rfl, if_neg e]
          rw [ee] at fin
          refine ⟨⟨by omega, by omega⟩, fun z => ?_, fun z => ?_⟩
          · rw [if_pos z] at fin
            refine ⟨⟨by omega, by omega⟩, ⟨by omega, by omega⟩, ⟨by omega, by omega⟩, ⟨by omega, by omega⟩, ?_⟩
            refine (s_sets (d := d + 1) (i := 8 * k + cnt s n) (x := A (sel s n k) g) (y := b) (by omega) (by omega) (by omega) (by omega)).cal fun v6 M6 hM6 => ?_
            obtain ⟨f6, g6⟩ := hM6
            exact fin M6 f6 g6 _
          · rw [if_neg z] at fin
            refine ⟨⟨by omega, by omega⟩, ?_⟩
            refine (s_sets (d := d + 1) (i := 8 * k + cnt s n) (x := (b : Int)) (y := b) (by omega) (by omega) (by omega) (by omega)).cal fun v6 M6 hM6 => ?_
            obtain ⟨f6, g6⟩ := hM6
            exact fin M6 f6 g6 _
        | succ e ihe =>
          intro c hc M4 f4 u4 hall4 hrow
          obtain ⟨c1, c2, c3⟩ := sel_in (show c < cnt s n by omega)
          have C4 := hC.fm' f4 (by decide) (by simp) (by simp)
          have nx : ∀ M5, FR [8 * k + c] M4 M5 → FQ M5 (8 * k + c) (mkRat (eN (b : Int) A s n (qOf tm g) k c) b) → L_M_solvesTo_26 (d + 6) Q M5 o1 (g : Int) tm (f : Int) ((cnt s n : Nat) : Int) (((if cnt s f < k + 1 then cnt s f else 0 : Nat)) : Int) (k : Int) ((c : Int) + 1) := fun M5 f5 g5 => by
            rw [show (c : Int) + 1 = ((c + 1 : Nat) : Int) by omega]
            refine ihe (c + 1) (by omega) M5 (f4.tr ((f5.sol (by omega)).fm.mono (by simp) (by simp) (fun _ h => h))) (fun a ha => by rw [f5.1 173 (by decide) (by decide) (by decide)]; exact u4 a ha) (fun r c' hr hc' => (hall4 r c' hr hc').kept f5 (by omega) (by simp; omega)) fun c' hc' => ?_
            by_cases e : c' = c
            · rw [e]; exact g5
            · exact (hrow c' (by omega)).kept f5 (by omega) (by simp; omega)
          refine b_M_solvesTo_26 ⟨⟨by omega, by omega⟩, ⟨by omega, by omega⟩, fun z => absurd z (by omega), fun _ => ?_⟩
          refine (s_place (d := d + 5) (i := k) (j := c)).cal fun v5 M5 hM5 => ?_
          obtain ⟨rfl, rfl⟩ := hM5
          rw [Int.toNat_natCast, Int.toNat_natCast, u4 k (by omega), u4 c (by omega), show (7 * ((sel s n k : Nat) : Int) + ((sel s n c : Nat) : Int)).toNat = 7 * sel s n k + sel s n c by omega, C4.2.2 _ _ (by omega) (by omega), C4.2.1]
          have hA := hO.2.2.1 (sel s n k) (sel s n c) (by omega) (by omega)
          have ee : eN (b : Int) A s n (qOf tm g) k c = (if k = c then (b : Int) else 0) - A (sel s n k) (sel s n c) := by
            unfold eN
            rw [if_neg (by omega)]
          rw [ee] at nx
          refine ⟨⟨by omega, by omega⟩, fun z => ?_, fun z => ?_⟩
          · rw [if_neg (by omega)] at nx
            refine ⟨⟨by omega, by omega⟩, ⟨by omega, by omega⟩, ⟨by omega, by omega⟩, ⟨by omega, by omega⟩, ⟨by omega, by omega⟩, ?_⟩
            refine (s_sets (d := d + 1) (i := 8 * k + c) (x := 0 - A (sel s n k) (sel s n c)) (y := b) (by omega) (by omega) (by omega) (by omega)).cal fun v6 M6 hM6 => ?_
            obtain ⟨f6, g6⟩ := hM6
            exact nx M6 f6 g6
          · rw [if_pos (by omega)] at nx
            refine ⟨⟨by omega, by omega⟩, ⟨by omega, by omega⟩, ⟨by omega, by omega⟩, ⟨by omega, by omega⟩, ⟨by omega, by omega⟩, ?_⟩
            refine (s_sets (d := d + 1) (i := 8 * k + c) (x := (b : Int) - A (sel s n k) (sel s n c)) (y := b) (by omega) (by omega) (by omega) (by omega)).cal fun v6 M6 hM6 => ?_
            obtain ⟨f6, g6⟩ := hM6
            exact nx M6 f6 g6
      have go : ∀ i6 : Nat, i6 = (if cnt s f < k + 1 then cnt s f else 0) → L_M_solvesTo_26 (d + 6) Q M3 o1 (g : Int) tm (f : Int) ((cnt s n : Nat) : Int) (i6 : Int) (k : Int) 0 := fun i6 h6 => by
        rw [h6]
        exact inner (cnt s n) 0 (by omega) M3 f3 u3 hall fun c' h => absurd h (Nat.not_lt_zero c')
      refine ⟨⟨by omega, by omega⟩, ⟨by omega, by omega⟩, fun z => absurd z (by omega), fun _ => ⟨⟨by omega, by omega⟩, ⟨by omega, by omega⟩, ⟨by omega, by omega⟩, fun z => ?_, fun z => ?_⟩⟩
      · have : cnt s f ≠ k := fun e => z (by
          have := sel_cnt hsf n hf
          rw [e] at this
          omega)
        refine go _ ?_
        by_cases e : cnt s f < k
        · rw [if_pos e, if_pos (by omega)]
        · rw [if_neg e, if_neg (by omega)]
      · have e : sel s n k = f := by omega
        have e2 : cnt s f = k := by rw [← e, k3]
        refine go k ?_
        rw [e2, if_pos (Nat.lt_succ_self k)]
  exact rows (cnt s n) 0 (by omega) M2 _ _ F2 U2 fun r c h => absurd h (Nat.not_lt_zero r)
