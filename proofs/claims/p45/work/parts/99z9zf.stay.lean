/-! errors: the long shares stay. -/
theorem sumT_mul {f : Nat → Int} {c : Int} : ∀ k, sumT (fun j => c * f j) k = c * sumT f k := by
  intro k
  induction k with
  | zero => show (0 : Int) = c * 0; omega
  | succ k ih => show sumT (fun j => c * f j) k + c * f k = c * (sumT f k + f k); rw [ih, Int.mul_add]
/-- behind a step the trees are as before -/
theorem tree_stay {n s : Nat} {b : Int} {A : Nat → Nat → Int} {t : Nat → Int} (hO : cOk n b A) (hla : lawful n b A) (hG : isGrp n (cE n A (-1)) s) (ht : ∀ i, i < n → treV n s b A i (t i)) {to : Nat} (hto : to < n) : sumT (fun j => t j * A j to) n = t to * b := by
  have h7 := hO.1
  have hb := hO.2.1
  obtain ⟨W, hW, hN, hv, hr, hs1, hs2, _⟩ := tree_val hO hla hG ht
  obtain ⟨B, rfl⟩ : ∃ B : Nat, b = B := ⟨b.toNat, by omega⟩
  obtain ⟨W', hW', _, _, _, _, hst, hsh⟩ := grp_shares hO (fun a ha => Int.le_of_eq (hla a ha)) (fun a ha _ => hla a ha) hG
  have eW : W' = W := by omega
  subst eW
  have e1 := sum_sel (s := s) (f := fun j => ((t j : Int) : Rat) * ((A j to : Int) : Rat)) n
  have e2 : sumQ (fun j => if s.testBit j = true then ((t j : Int) : Rat) * ((A j to : Int) : Rat) else 0) n = ((sumT (fun j => t j * A j to) n : Int) : Rat) := by
    rw [← sumQ_cast (f := fun j => t j * A j to)]
    refine sumQ_congr n fun j hj => ?_
    show _ = ((t j * A j to : Int) : Rat)
    rw [Rat.intCast_mul]
    rcases ht j hj with ⟨q, _⟩ | ⟨q, h⟩
    · rw [if_pos q]
    · rw [q, if_neg (by decide), h, show ((0 : Int) : Rat) = 0 from rfl]; grind
  rw [e2] at e1
  refine Rat.intCast_inj.mp ?_
  rw [← e1, Rat.intCast_mul, hW']
  cases hbt : s.testBit to
  · have z : t to = 0 := by
      rcases ht to hto with ⟨q, _⟩ | ⟨_, h⟩
      · rw [hbt] at q; cases q
      · exact h
    rw [z, sumQ_zero _ fun c hc => ?_]
    · rw [show ((0 : Int) : Rat) = 0 from rfl]; grind
    · obtain ⟨c1, c2, c3⟩ := sel_in (show c < cnt s n by omega)
      have hA := hO.2.2.1 (sel s n c) to (by omega) (by omega)
      have : ¬ 0 < A (sel s n c) to := fun z => by
        have := hG.2.2.2.1 _ to c2 (.step (.refl _) ⟨by omega, c1, hto, z⟩) hto
        rw [hbt] at this
        cases this
      show ((t (sel s n c) : Int) : Rat) * ((A (sel s n c) to : Int) : Rat) = 0
      rw [show A (sel s n c) to = 0 by omega, show ((0 : Int) : Rat) = 0 from rfl]; grind
  · have hr' := cnt_k_lt hto hbt
    have es := sel_cnt hbt n hto
    have h0 := hst (cnt s to) hr'
    rw [hW'] at h0
    have hu : sumQ (tcof (eNQ (B : Int) A s n (-1)) W') (W' + 1) ≠ 0 := by
      rw [← hs1]; exact int_ne (by omega)
    have h1 : sumQ (fun c => tcof (eNQ (B : Int) A s n (-1)) W' c * eNQ (B : Int) A s n (-1) c (cnt s to)) (W' + 1) = 0 := by
      have e : sumQ (fun c => tcof (eNQ (B : Int) A s n (-1)) W' c * eNQ (B : Int) A s n (-1) c (cnt s to)) (W' + 1) = sumQ (tcof (eNQ (B : Int) A s n (-1)) W') (W' + 1) * sumQ (fun c => shQ B A s n c * eNQ (B : Int) A s n (-1) c (cnt s to)) (W' + 1) := by
        rw [← sumQ_mul]
        refine sumQ_congr _ fun c hc => ?_
        rw [hsh c (by omega), hW']
        generalize sumQ (tcof (eNQ (B : Int) A s n (-1)) W') (W' + 1) = u at *
        generalize tcof (eNQ (B : Int) A s n (-1)) W' c = v at *
        generalize eNQ (B : Int) A s n (-1) c (cnt s to) = w at *
        grind
      rw [e, h0]; grind
    have h2 : sumQ (fun c => tcof (eNQ (B : Int) A s n (-1)) W' c * eNQ (B : Int) A s n (-1) c (cnt s to)) (W' + 1) = sumQ (fun c => (if c = cnt s to then (((B : Nat) : Int) : Rat) * tcof (eNQ (B : Int) A s n (-1)) W' c else 0) - 1 * (((t (sel s n c) : Int) : Rat) * ((A (sel s n c) to : Int) : Rat))) (W' + 1) := by
      refine sumQ_congr _ fun c hc => ?_
      obtain ⟨c1, c2, c3⟩ := sel_in (show c < cnt s n by omega)
      have ev := hv _ c1 c2
      rw [c3] at ev
      rw [ev]
      show tcof (eNQ (B : Int) A s n (-1)) W' c * ((eN (B : Int) A s n (-1) c (cnt s to) : Int) : Rat) = _
      unfold eN
      rw [if_neg (by omega), es, Rat.intCast_sub]
      generalize tcof (eNQ (B : Int) A s n (-1)) W' c = v at *
      by_cases q : c = cnt s to
      · rw [if_pos q, if_pos q]
        generalize ((A (sel s n c) to : Int) : Rat) = w at *
        grind
      · rw [if_neg q, if_neg q, show ((0 : Int) : Rat) = 0 from rfl]
        generalize ((A (sel s n c) to : Int) : Rat) = w at *
        grind
    rw [h2, sumQ_lin, sumQ_single (r := cnt s to) _ (by omega) (fun c _ hn => if_neg hn), if_pos rfl, ← hv to hto hbt] at h1
    grind
theorem s_doSharesStayIn {d : Nat} {M : Mem} {n s : Nat} {b : Int} {A : Nat → Nat → Int} (hC : CC M n b A) (hO : cOk n b A) (hla : lawful n b A) (hG : isGrp n (cE n A (-1)) s) : Post (d + 5) cC_doSharesStayIn [oC, .inl (s : Int)] M (fun v M' => Fr treC M M' ∧ v = 1) := by
  intro Q hQ
  have h7 := hO.1
  have hb := hO.2.1
  refine e_C_doSharesStayIn (b_C_doSharesStayIn_0 ?_)
  refine (s_growTrees (d := d) hC hO hG.1).cal fun v1 M1 hM1 => ?_
  obtain ⟨f1, rfl, g1⟩ := hM1
  have C1 := hC.tre f1
  obtain ⟨W, hW, hN, hv, hr, hs1, hs2, hs3⟩ := tree_val hO hla hG g1
  have hp := p7600
  have h600 : (600 : Int) ^ 6 = 46656000000000000 := by decide +kernel
  have outer : ∀ (f k : Nat), k + f = n → ∀ o1 o7 o8 o9, L_C_doSharesStayIn_8 (d + 4) Q M1 o1 (sumT (M1 127) n) (sumT (M1 127) k) (k : Int) o7 o8 o9 := by
    intro f
    induction f with
    | zero =>
      intro k hk o1 o7 o8 o9
      have hk : k = n := by omega
      subst hk
      refine b_C_doSharesStayIn_8 ?_
      rw [C1.1]
      exact ⟨⟨by omega, by omega⟩, ⟨by omega, by omega⟩, fun _ => ⟨⟨by omega, by omega⟩, fun z => absurd z (by omega), fun _ => ⟨⟨by omega, by omega⟩, fun z => absurd rfl z, fun _ => hQ _ _ ⟨f1, rfl⟩⟩⟩, fun z => absurd (Int.le_refl _) z⟩
    | succ f ih =>
      intro k hk o1 o7 o8 o9
      refine b_C_doSharesStayIn_8 ?_
      rw [C1.1]
      refine ⟨⟨by omega, by omega⟩, ⟨by omega, by omega⟩, fun z => absurd z (by omega), fun _ => ?_⟩
      have hk' : k < n := by omega
      have st := tree_stay hO hla hG g1 hk'
      have hrk := hr k hk'
      have p0 : 0 ≤ M1 127 k * b := Int.mul_nonneg hrk.1 (by omega)
      have p1 : M1 127 k * b ≤ 46656000000000000 * 100 := Int.mul_le_mul (by omega) (by omega) (by omega) (by decide)
      have inner : ∀ (g m : Nat), m + g = n → L_C_doSharesStayIn_16 (d + 4) Q M1 o1 (sumT (M1 127) n) (sumT (M1 127) k) (k : Int) (sumT (fun j => M1 127 j * A j k) m) (m : Int) := by
        intro g
        induction g with
        | zero =>
          intro m hm
          have hm : m = n := by omega
          subst hm
          refine b_C_doSharesStayIn_16 ?_
          rw [C1.1, C1.2.1, Int.toNat_natCast, st, show (k : Int) + 1 = ((k + 1 : Nat) : Int) by omega]
          exact ⟨⟨by omega, by omega⟩, ⟨by omega, by omega⟩, fun _ => ⟨⟨by omega, by omega⟩, ⟨by omega, by omega⟩, ⟨by omega, by omega⟩, ⟨by omega, by omega⟩, fun _ => ih (k + 1) (by omega) _ _ _ _, fun z => absurd rfl z⟩, fun z => absurd (Int.le_refl _) z⟩
        | succ g ihg =>
          intro m hm
          obtain ⟨r1, r2, r3⟩ := wra125 m (by omega)
          have hA := hO.2.2.1 m k (by omega) (by omega)
          refine b_C_doSharesStayIn_16 ?_
          rw [C1.1, Int.toNat_natCast, Int.toNat_natCast, r1, r2, r3, C1.2.2 m k (by omega) (by omega), show (m : Int) + 1 = ((m + 1 : Nat) : Int) by omega]
          exact ⟨⟨by omega, by omega⟩, ⟨by omega, by omega⟩, fun z => absurd z (by omega), fun _ => ⟨⟨by omega, by omega⟩, rfl, ⟨by omega, by omega⟩, ⟨by omega, by omega⟩, ihg (m + 1) (by omega)⟩⟩
      exact inner n 0 (by omega)
  exact outer n 0 (by omega) _ _ _ _
abbrev styC : List Nat := [126, 127, 74, 75, 76, 77, 78, 79, 80]
theorem CC.sty {M M' : Mem} {n : Nat} {b : Int} {A : Nat → Nat → Int} (h : CC M n b A) (hf : Fr styC M M') : CC M' n b A := h.kept hf (by decide) fun i hi => by simp; omega
theorem s_CdoSharesStay {d : Nat} {M : Mem} {n : Nat} {b : Int} {A : Nat → Nat → Int} (hC : CC M n b A) (hO : cOk n b A) (hla : lawful n b A) : Post (d + 6) cC_doSharesStay [oC] M (fun v M' => Fr styC M M' ∧ v = 1) := by
  intro Q hQ
  have h7 := hO.1
  refine e_C_doSharesStay (b_C_doSharesStay_0 ?_)
  refine (s_findLeads (d := d + 2) hC hO).cal fun v1 M1 hM1 => ?_
  obtain ⟨f1, hL⟩ := hM1
  have loop : ∀ (f k : Nat), k + f = n → ∀ M2, Fr treC M1 M2 → L_C_doSharesStay_4 (d + 5) Q M2 (k : Int) := by
    intro f
    induction f with
    | zero =>
      intro k hk M2 f2
      have hk : k = n := by omega
      subst hk
      refine b_C_doSharesStay_4 ?_
      rw [((hC.lead f1).tre f2).1]
      exact ⟨⟨by omega, by omega⟩, ⟨by omega, by omega⟩, fun _ => hQ _ _ ⟨(f1.mono (by simp)).tr (f2.mono (by simp)), rfl⟩, fun z => absurd (Int.le_refl _) z⟩
    | succ f ih =>
      intro k hk M2 f2
      have C2 := (hC.lead f1).tre f2
      have hL2 : CL M2 n (cE n A (-1)) := fun i hi => by rw [f2 126 (by decide)]; exact hL i hi
      refine b_C_doSharesStay_4 ?_
      rw [C2.1, show (k : Int) + 1 = ((k + 1 : Nat) : Int) by omega]
      refine ⟨⟨by omega, by omega⟩, ⟨by omega, by omega⟩, fun z => absurd z (by omega), fun _ => ?_⟩
      refine (s_isLeastOfGroup (d := d + 1) hL2 C2.1 h7.2 (show k < n by omega)).cal fun v3 M3 hM3 => ?_
      obtain ⟨rfl, ⟨rfl, g⟩ | ⟨rfl, g⟩⟩ := hM3
      · obtain ⟨s, s1, s2⟩ := hL2 k (by omega)
        rw [Int.toNat_natCast, s1]
        refine ⟨⟨by decide, by decide⟩, fun z => absurd z (by decide), fun _ => ⟨⟨by omega, by omega⟩, ?_⟩⟩
        refine (s_doSharesStayIn (d := d) C2 hO hla (isGrp.of s2 g.1 (show k < n by omega))).cal fun v4 M4 hM4 => ?_
        obtain ⟨f4, rfl⟩ := hM4
        exact ⟨⟨by decide, by decide⟩, fun _ => ih (k + 1) (by omega) M4 (f2.tr f4), fun z => absurd (by decide) z⟩
      · exact ⟨⟨by decide, by decide⟩, fun _ => ih (k + 1) (by omega) M3 f2, fun z => absurd rfl z⟩
  exact loop n 0 (by omega) M1 Fr.rfl'
