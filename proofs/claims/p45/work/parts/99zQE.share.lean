/-! The long shares as whole numbers by their sum. -/
theorem Wh.num {x : Rat} {β : Int} (h : Wh x β) : x = ((x.num : Int) : Rat) ∧ -β ≤ x.num ∧ x.num ≤ β := by
  obtain ⟨z, rfl, h1, h2⟩ := h
  exact ⟨rfl, h1, h2⟩
theorem sumT_one {g : Nat → Int} {y : Int} {i : Nat} : ∀ k, sumT (fun j => (if j = i then y else 0) - g j) k = (if i < k then y else 0) - sumT g k
  | 0 => by rw [if_neg (Nat.not_lt_zero i)]; rfl
  | k + 1 => by
    show sumT (fun j => (if j = i then y else 0) - g j) k + ((if k = i then y else 0) - g k) = _ - (sumT g k + g k)
    rw [sumT_one k]
    by_cases e : k = i
    · rw [if_pos e, if_neg (by omega), if_pos (by omega)]
      omega
    · rw [if_neg e]
      by_cases z : i < k
      · rw [if_pos z, if_pos (by omega)]; omega
      · rw [if_neg z, if_neg (by omega)]; omega
theorem eN_wh {n s : Nat} {b : Int} {A : Nat → Nat → Int} (hO : cOk n b A) (hb4 : b ≤ 4) {a c : Nat} (ha : a < cnt s n) (hc : c < cnt s n) : Wh (eNQ b A s n (-1) a c) 4 := by
  obtain ⟨c1, -, -⟩ := sel_in ha
  obtain ⟨d1, -, -⟩ := sel_in hc
  have h7 := hO.1
  have h8 := hO.2.2.1 (sel s n a) (sel s n c) (by omega) (by omega)
  have hb := hO.2.1
  refine ⟨_, rfl, ?_⟩
  unfold eN
  rw [if_neg (by omega)]
  by_cases e : a = c
  · rw [if_pos e]; omega
  · rw [if_neg e]; omega
def gNum (b : Int) (A : Nat → Nat → Int) (s n : Nat) (i : Nat) : Int := if s.testBit i = true then (Dd (eNQ b A (s ^^^ 2 ^ i) n (-1)) (cnt (s ^^^ 2 ^ i) n)).num else 0
theorem grp_nums {n s : Nat} {b : Int} {A : Nat → Nat → Int} (hO : cOk n b A) (hla : lawful n b A) (hn : n ≤ 4) (hb4 : b ≤ 4) (hG : isGrp n (cE n A (-1)) s) : (∀ i, i < n → s.testBit i = true → 0 < gNum b A s n i) ∧ (∀ i, i < n → 0 ≤ gNum b A s n i ∧ gNum b A s n i ≤ 1728) ∧ 0 < sumT (gNum b A s n) n ∧ (∀ i, i < n → s.testBit i = true → shQ b.toNat A s n (cnt s i) = ((gNum b A s n i : Int) : Rat) / ((sumT (gNum b A s n) n : Int) : Rat)) ∧ ∀ i, i < n → s.testBit i = true → sumT (fun k => gNum b A s n k * A k i) n = b * gNum b A s n i := by
  have hb := hO.2.1
  obtain ⟨bn, rfl⟩ : ∃ k : Nat, b = (k : Int) := ⟨b.toNat, by omega⟩
  obtain ⟨W, hW, hN, hc, hD, h1, heq, hval⟩ := grp_shares hO (fun i hi => Int.le_of_eq (hla i hi)) (fun i hi _ => hla i hi) hG
  have hcn := cnt_le (s := s) n
  have hnum : ∀ i, i < n → s.testBit i = true → tcof (eNQ (bn : Int) A s n (-1)) W (cnt s i) = ((gNum (bn : Int) A s n i : Int) : Rat) ∧ gNum (bn : Int) A s n i ≤ 1728 := fun i hi hbit => by
    obtain ⟨e1, e2⟩ := hc i hbit
    have hw : Wh (Dd (eNQ (bn : Int) A (s ^^^ 2 ^ i) n (-1)) (cnt (s ^^^ 2 ^ i) n)) (((W : Int) * 4) ^ W) := by
      rw [e1]
      unfold Dd
      exact wed_whole (by decide) W (fun a c ha hc => eN_wh hO hb4 (by omega) (by omega)) _
    obtain ⟨w1, w2, w3⟩ := hw.num
    unfold gNum
    rw [if_pos hbit]
    refine ⟨?_, Int.le_trans w3 ?_⟩
    · rw [← w1, e2, e1]
    · rcases (show W = 0 ∨ W = 1 ∨ W = 2 ∨ W = 3 by omega) with rfl | rfl | rfl | rfl <;> decide
  have hpos : ∀ i, i < n → s.testBit i = true → 0 < gNum (bn : Int) A s n i := fun i hi hbit => by
    have h2 := hN.2.2.2 (cnt s i) (by have := cnt_k_lt hi hbit; omega)
    rw [(hnum i hi hbit).1] at h2
    exact Rat.intCast_lt_intCast.mp h2
  have hoff : ∀ i, i < n → s.testBit i = false → gNum (bn : Int) A s n i = 0 := fun i hi hbit => by
    unfold gNum
    rw [hbit, if_neg (by decide)]
  have hr : ∀ i, i < n → 0 ≤ gNum (bn : Int) A s n i ∧ gNum (bn : Int) A s n i ≤ 1728 := fun i hi => by
    by_cases z : s.testBit i = true
    · exact ⟨Int.le_of_lt (hpos i hi z), (hnum i hi z).2⟩
    · rw [hoff i hi (by cases h : s.testBit i <;> simp_all)]; exact ⟨by decide, by decide⟩
  have hsel : ∀ c, c < cnt s n → tcof (eNQ (bn : Int) A s n (-1)) W c = ((gNum (bn : Int) A s n (sel s n c) : Int) : Rat) := fun c hc => by
    obtain ⟨c1, c2, c3⟩ := sel_in hc
    have := (hnum _ c1 c2).1
    rw [c3] at this
    exact this
  have hsum : sumQ (tcof (eNQ (bn : Int) A s n (-1)) W) (cnt s n) = ((sumT (gNum (bn : Int) A s n) n : Int) : Rat) := by
    rw [← selT hoff, ← sumQ_cast]
    exact sumQ_congr _ fun c hc => hsel c hc
  have hsp : 0 < sumT (gNum (bn : Int) A s n) n := by
    have tp : 0 < sumQ (tcof (eNQ (bn : Int) A s n (-1)) W) (cnt s n) := sumQ_pos (r := 0) _ (fun j hj => Rat.le_of_lt (hN.2.2.2 j (by omega))) (by omega) (hN.2.2.2 0 (by omega))
    rw [hsum] at tp
    exact Rat.intCast_lt_intCast.mp tp
  have hshq : ∀ c, c < cnt s n → shQ bn A s n c = ((gNum (bn : Int) A s n (sel s n c) : Int) : Rat) / ((sumT (gNum (bn : Int) A s n) n : Int) : Rat) := fun c hc => by
    rw [hval c hc, hsel c hc, hsum]
  refine ⟨hpos, hr, hsp, fun i hi hbit => ?_, fun i hi hbit => ?_⟩
  · have hci := cnt_k_lt hi hbit
    rw [Int.toNat_natCast, hshq _ hci, sel_cnt hbit n hi]
  · have hci := cnt_k_lt hi hbit
    have he := heq (cnt s i) hci
    have hS : ((sumT (gNum (bn : Int) A s n) n : Int) : Rat) ≠ 0 := fun z => by have := Rat.intCast_eq_zero_iff.mp z; omega
    have h3 : sumQ (fun c => ((gNum (bn : Int) A s n (sel s n c) * ((if sel s n c = i then (bn : Int) else 0) - A (sel s n c) i) : Int) : Rat)) (cnt s n) = 0 := by
      have h4 : ∀ c, c < cnt s n → ((gNum (bn : Int) A s n (sel s n c) * ((if sel s n c = i then (bn : Int) else 0) - A (sel s n c) i) : Int) : Rat) = ((sumT (gNum (bn : Int) A s n) n : Int) : Rat) * (shQ bn A s n c * eNQ (bn : Int) A s n (-1) c (cnt s i)) := fun c hc => by
        have e5 : eNQ (bn : Int) A s n (-1) c (cnt s i) = (((if sel s n c = i then (bn : Int) else 0) - A (sel s n c) i : Int) : Rat) := by
          unfold eNQ eN
          rw [if_neg (by omega), sel_cnt hbit n hi]
          have e6 : (c = cnt s i) ↔ (sel s n c = i) := by
            refine ⟨fun z => by rw [z]; exact sel_cnt hbit n hi, fun z => ?_⟩
            have := (sel_in hc).2.2
            rw [z] at this
            exact this.symm
          by_cases z : c = cnt s i
          · rw [if_pos z, if_pos (e6.mp z)]
          · rw [if_neg z, if_neg (fun w => z (e6.mpr w))]
        rw [e5, hshq c hc, Rat.intCast_mul]
        generalize ((sumT (gNum (bn : Int) A s n) n : Int) : Rat) = S at *
        generalize ((gNum (bn : Int) A s n (sel s n c) : Int) : Rat) = x
        generalize (((if sel s n c = i then (bn : Int) else 0) - A (sel s n c) i : Int) : Rat) = y
        grind
      rw [sumQ_congr _ h4, sumQ_mul, he]
      grind
    rw [sumQ_cast (f := fun c => gNum (bn : Int) A s n (sel s n c) * ((if sel s n c = i then (bn : Int) else 0) - A (sel s n c) i))] at h3
    have h5 := Rat.intCast_eq_zero_iff.mp h3
    have h6 := selT (s := s) (n := n) (f := fun j => gNum (bn : Int) A s n j * ((if j = i then (bn : Int) else 0) - A j i)) (fun j hj hb => by rw [hoff j hj hb, Int.zero_mul])
    have h7 : sumT (fun j => gNum (bn : Int) A s n j * ((if j = i then (bn : Int) else 0) - A j i)) n = 0 := h6.symm.trans h5
    have h8 : sumT (fun j => gNum (bn : Int) A s n j * ((if j = i then (bn : Int) else 0) - A j i)) n = sumT (fun j => (if j = i then (bn : Int) * gNum (bn : Int) A s n i else 0) - gNum (bn : Int) A s n j * A j i) n := sumT_congr n fun j hj => by
      by_cases z : j = i
      · rw [if_pos z, if_pos z, z, Int.mul_sub, Int.mul_comm]
      · rw [if_neg z, if_neg z, Int.mul_sub, Int.mul_zero]
    rw [h8, sumT_one, if_pos hi] at h7
    omega
