/-! How long it takes until a state is reached. -/
theorem sure.step {n g i k : Nat} {A : Nat → Nat → Int} (hs : sure n A i g) (hi : i < n) (hk : k < n) (hig : i ≠ g) (hp : 0 < A i k) : sure n A k g := fun j hj hkg hr => hs j hj hig (((Rch.refl i).step ⟨hi, hk, hp, hkg⟩).tr hr)
theorem tim_nums {n g i : Nat} {b : Int} {A : Nat → Nat → Int} (hO : cOk n b A) (hla : lawful n b A) (hn : n ≤ 4) (hb4 : b ≤ 4) (hg : g < n) (hi : i < n) (hig : i ≠ g) (hs : sure n A i g) : ∃ (Y : Nat → Int) (E : Int), (0 < E ∧ E ≤ 1728) ∧ (∀ k, k < n → 0 ≤ Y k ∧ Y k ≤ 1728) ∧ (∀ k v, k < n → (k = i ∨ 0 < A i k) → timV n b A k g v → v = ((Y k : Int) : Rat) / ((E : Int) : Rat)) ∧ b * Y i = b * E + sumT (fun k => A i k * Y k) n := by
  have h7 := hO.1
  have hb := hO.2.1
  obtain ⟨s, s1, s2⟩ := ex_set (fun j => Rch (wE n A g) i j) n
  have hwg : ∀ {a c}, a ≠ g → Rch (wE n A g) a c → c ≠ g := fun {a c} ha hr => hr (fun x => x ≠ g) ha fun _ _ _ e => e.2.2.2
  have hgb : s.testBit g = false := by
    rcases (show s.testBit g = true ∨ s.testBit g = false by cases s.testBit g <;> simp) with z | z
    · exact absurd rfl (hwg hig ((s2 g).mp z).2)
    · exact z
  obtain ⟨N, D, hD, hN1, hN2, hN3⟩ := sol_all (q := -1) hO hla hn hb4 hgb hg (fun k hk hb => hs k hk hig ((s2 k).mp hb).2) (Or.inl rfl)
  have hbt : ∀ k, s.testBit k = true ∨ s.testBit k = false := fun k => by cases s.testBit k <;> simp
  have hib : s.testBit i = true := (s2 i).mpr ⟨hi, Rch.refl i⟩
  have hDz : ((D : Int) : Rat) ≠ 0 := fun z => by have := Rat.intCast_eq_zero_iff.mp z; omega
  refine ⟨N, D, hD, fun k hk => ?_, fun k v hk hik hv => ?_, ?_⟩
  · rcases hbt k with hb | hb
    · exact ⟨(hN1 k hk hb).1, (hN1 k hk hb).2.1⟩
    · rw [hN2 k hb]; exact ⟨by decide, by decide⟩
  · rcases hv with ⟨e, rfl⟩ | ⟨hkg, s', h1, rfl⟩
    · rw [e, hN2 g hgb]
      have : ((0 : Int) : Rat) = 0 := rfl
      rw [this]
      generalize ((D : Int) : Rat) = x at *
      grind
    · -- the equations over what is behind k
      have hikr : Rch (wE n A g) i k := by
        rcases hik with e | e
        · rw [e]; exact Rch.refl i
        · exact (Rch.refl i).step ⟨hi, hk, e, hkg⟩
      have hbit' : ∀ x, s'.testBit x = true ↔ x < n ∧ Rch (wE n A g) k x := fun x => (h1.2 x).trans ⟨fun z => ⟨z.1, z.2.2⟩, fun z => ⟨z.1, hkg, z.2⟩⟩
      have hsub : ∀ x, s'.testBit x = true → s.testBit x = true := fun x hx => by
        obtain ⟨x1, x2⟩ := (hbit' x).mp hx
        exact (s2 x).mpr ⟨x1, hikr.tr x2⟩
      have hkb : s'.testBit k = true := (hbit' k).mpr ⟨hk, Rch.refl k⟩
      have hr : ∀ i, i < n → rowS A i n ≤ b := fun i hi => Int.le_of_eq (hla i hi)
      obtain ⟨x, hx, hM⟩ := eNQ_Mx (q := -1) (s := s') hO hr (show s'.testBit g = false from h1.no) (fun x hx hb => hs x hx hig ((s2 x).mp (hsub x hb)).2)
      have hDp := (hM.go hx (cnt s' n) (Nat.le_refl _)).2
      have hD0 : ∀ j, j ≤ cnt s' n → Dd (eNQ b A s' n (-1)) j ≠ 0 := fun j hj z => by
        have := hDp j hj
        rw [z] at this
        exact absurd this (by decide)
      have hck := cnt_k_lt hk hkb
      have key := ans_uniq hD0 (z := fun c => if c < cnt s' n then ((N (sel s' n c) : Int) : Rat) / ((D : Int) : Rat) else -1) (fun a ha => ?_) (if_neg (Nat.lt_irrefl _)) hck
      · have key : (if cnt s' k < cnt s' n then ((N (sel s' n (cnt s' k)) : Int) : Rat) / ((D : Int) : Rat) else -1) = ansQ (eNQ b A s' n (-1)) (cnt s' n) (cnt s' k) := key
        rw [if_pos hck, sel_cnt hkb n hk] at key
        unfold solQ
        exact key.symm
      · show sumQ (fun c => eNQ b A s' n (-1) a c * (if c < cnt s' n then ((N (sel s' n c) : Int) : Rat) / ((D : Int) : Rat) else -1)) (cnt s' n + 1) = 0
        obtain ⟨a1, a2, a3⟩ := sel_in ha
        show sumQ (fun c => eNQ b A s' n (-1) a c * (if c < cnt s' n then ((N (sel s' n c) : Int) : Rat) / ((D : Int) : Rat) else -1)) (cnt s' n) + eNQ b A s' n (-1) a (cnt s' n) * (if cnt s' n < cnt s' n then ((N (sel s' n (cnt s' n)) : Int) : Rat) / ((D : Int) : Rat) else -1) = 0
        rw [if_neg (Nat.lt_irrefl _)]
        have e1 : eNQ b A s' n (-1) a (cnt s' n) = ((b : Int) : Rat) := by
          unfold eNQ eN
          rw [if_pos rfl, if_pos rfl]
        have h4 : ∀ c, c < cnt s' n → eNQ b A s' n (-1) a c * (if c < cnt s' n then ((N (sel s' n c) : Int) : Rat) / ((D : Int) : Rat) else -1) = (1 / ((D : Int) : Rat)) * (((((if sel s' n c = sel s' n a then b else 0) - A (sel s' n a) (sel s' n c)) * N (sel s' n c)) : Int) : Rat) := fun c hc => by
          have e5 : eNQ b A s' n (-1) a c = (((if sel s' n c = sel s' n a then b else 0) - A (sel s' n a) (sel s' n c) : Int) : Rat) := by
            unfold eNQ eN
            rw [if_neg (by omega)]
            by_cases z : a = c
            · rw [if_pos z, if_pos (by rw [z])]
            · rw [if_neg z, if_neg (fun w => z (sel_inj hc ha w).symm)]
          rw [if_pos hc, e5, Rat.intCast_mul]
          generalize ((D : Int) : Rat) = S at *
          generalize ((N (sel s' n c) : Int) : Rat) = x
          generalize (((if sel s' n c = sel s' n a then b else 0) - A (sel s' n a) (sel s' n c) : Int) : Rat) = y
          grind
        rw [sumQ_congr _ h4, sumQ_mul, sumQ_cast (f := fun c => ((if sel s' n c = sel s' n a then b else 0) - A (sel s' n a) (sel s' n c)) * N (sel s' n c)), e1]
        -- the sum, as a whole number
        have hz : ∀ m y, (if s'.testBit y = true then ((if y = sel s' n a then b else 0) - A (sel s' n a) y) * N y else 0) = (if y = sel s' n a then b * N (sel s' n a) else 0) - A (sel s' n a) y * N y ∨ ¬ y < m ∨ n < m := fun m y => by
          rcases Nat.lt_or_ge y m with hy | hy
          · rcases Nat.lt_or_ge n m with hm | hm
            · exact Or.inr (Or.inr hm)
            · refine Or.inl ?_
              by_cases w : s'.testBit y = true
              · rw [if_pos w]
                by_cases v : y = sel s' n a
                · rw [if_pos v, if_pos v, v, Int.sub_mul]
                · rw [if_neg v, if_neg v, Int.sub_mul, Int.zero_mul]
              · rw [if_neg w, if_neg (fun v => w (by rw [v]; exact a2))]
                rcases hbt y with hb | hb
                · have hA := hO.2.2.1 (sel s' n a) y (by omega) (by omega)
                  have h0 : A (sel s' n a) y = 0 := by
                    rcases Int.lt_or_le 0 (A (sel s' n a) y) with z | z
                    · exfalso
                      have hyg : y ≠ g := hwg hig ((s2 y).mp hb).2
                      exact w ((hbit' y).mpr ⟨by omega, ((hbit' _).mp a2).2.step ⟨a1, by omega, z, hyg⟩⟩)
                    · exact Int.le_antisymm z hA.1
                  rw [h0, Int.zero_mul]
                  rfl
                · rw [hN2 y hb, Int.mul_zero]
                  rfl
          · exact Or.inr (Or.inl (by omega))
        have h5 : sumT (fun c => ((if sel s' n c = sel s' n a then b else 0) - A (sel s' n a) (sel s' n c)) * N (sel s' n c)) (cnt s' n) = b * D := by
          have h6 := selT (s := s') (n := n) (f := fun y => if s'.testBit y = true then ((if y = sel s' n a then b else 0) - A (sel s' n a) y) * N y else 0) (fun y hy hb => by show (if s'.testBit y = true then _ else (0 : Int)) = 0; rw [hb, if_neg (by decide)])
          have h7' : sumT (fun c => ((if sel s' n c = sel s' n a then b else 0) - A (sel s' n a) (sel s' n c)) * N (sel s' n c)) (cnt s' n) = sumT (fun c => if s'.testBit (sel s' n c) = true then ((if sel s' n c = sel s' n a then b else 0) - A (sel s' n a) (sel s' n c)) * N (sel s' n c) else 0) (cnt s' n) := sumT_congr _ fun c hc => by
            rw [if_pos (sel_in hc).2.1]
          rw [h7']
          refine h6.trans ?_
          rw [sumT_congr (g := fun y => (if y = sel s' n a then b * N (sel s' n a) else 0) - A (sel s' n a) y * N y) n (fun y hy => by
            rcases hz n y with z | z | z
            · exact z
            · exact absurd hy z
            · exact absurd z (Nat.lt_irrefl n)), sumT_one, if_pos a1]
          have := hN3 _ a1 (hsub _ a2)
          rw [if_pos rfl] at this
          omega
        rw [h5, Rat.intCast_mul]
        generalize ((D : Int) : Rat) = x at *
        generalize ((b : Int) : Rat) = y at *
        grind
  · have := hN3 i hi hib
    rw [if_pos rfl] at this
    exact this
