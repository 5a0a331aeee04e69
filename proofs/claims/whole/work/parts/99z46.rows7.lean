/-! The reference's rows: divideRows. -/
theorem raw_rf {l : List Nat} {M M' : Mem} {r i : Nat} (h : RF l M M') (hr : r ∉ l) (hi : i < 300) : raw M' r i = raw M r i := h.2.2 r i hr hi
/-- what holds between the steps of a division -/
def DV (M0 M : Mem) (b sh : Nat) (v w R : Int) : Prop := RF [195, 196] M0 M ∧ Row M 196 R ∧ Row M b w ∧ v = bs 10000 (raw M 195) (sh + 1) * w + R ∧ ∀ p, p ≤ sh → 0 ≤ raw M 195 p ∧ raw M 195 p < 10000
theorem dR_loop {d : Nat} {Q : Rs → Mem → Prop} {b n sh : Nat} {v w : Int} {M0 : Mem} (hd : 2 ≤ d) (hb : b < 200) (hb5 : b ≠ 195) (hb6 : b ≠ 196) (hw0 : 0 < w) (hn : M0 164 b = n) (hn1 : 0 < n) (hsn : sh + n ≤ 300) (hw : Row M0 b w)
    (hQ : ∀ M', RF [195, 196] M0 M' → Row M' 195 (v / w) → Row M' 196 (v % w) → Q (.inl 0) M') :
    ∀ (k : Nat) (M : Mem) (R : Int) (o1 o8 o9 o10 : Option PV), k ≤ sh + 1 → DV M0 M b sh v w R → (∀ p, p < k → raw M 195 p = 0) → R < w * 10000 ^ k →
    L_M_divideRows_60 d Q M o1 (b : Int) (sh : Int) (n : Int) (atI M0 b ((n : Int) - 1) * 10000 + atI M0 b ((n : Int) - 2) + 1) ((k : Int) - 1) o8 o9 o10 := by
  obtain ⟨d', rfl⟩ : ∃ d', d = d' + 2 := ⟨d - 2, by omega⟩
  have h195 : (195 : Nat) < 200 := by decide
  have h196 : (196 : Nat) < 200 := by decide
  have hlead := lead_ok hw hn hn1
  have bl1 := atI_bd (i := (n : Int) - 1) hw.1
  have bl2 := atI_bd (i := (n : Int) - 2) hw.1
  intro k
  induction k with
  | zero =>
    intro M R o1 o8 o9 o10 hk hM hz hlt
    obtain ⟨hf, hR, hwM, hv, hdg⟩ := hM
    have hR0 := hR.nonneg
    refine b_M_divideRows_60 ⟨⟨by omega, by omega⟩, fun _ => ⟨⟨by omega, by omega⟩, fun _ => ?_, fun h => absurd (by omega) h⟩, fun h => absurd (by omega) h⟩
    rw [show (sh : Int) + 1 = ((sh + 1 : Nat) : Int) by omega]
    refine (s_trims (d := d' + 1) (r := 195) (n := sh + 1) h195 (by omega) (fun p hp => hdg p (by omega))).cal fun x M' hM' => ?_
    obtain ⟨f1, g1⟩ := hM'
    have g2 : Row M' 195 (bs 10000 (raw M 195) (sh + 1)) := g1
    obtain ⟨q1, q2⟩ := divq (U := v) (D := w) (b := bs 10000 (raw M 195) (sh + 1)) (by omega) (by
      rw [Int.add_mul, Int.one_mul]
      simp at hlt
      omega)
    rw [← q1] at g2
    have eR : R = v % w := by rw [q2]; omega
    rw [eR] at hR
    exact hQ M' (hf.tr (f1.mono (by simp))) g2 (hR.kept f1 (by simp))
  | succ s ih =>
    have inner : ∀ (f : Nat) (M : Mem) (R : Int) (o1 o8 o9 o10 : Option PV), R < f → s ≤ sh → DV M0 M b sh v w R → (∀ p, p < s → raw M 195 p = 0) → raw M 195 s * 10000 ^ s * w + R < w * 10000 ^ (s + 1) →
        L_M_divideRows_62 (d' + 2) Q M o1 (b : Int) (sh : Int) (n : Int) (atI M0 b ((n : Int) - 1) * 10000 + atI M0 b ((n : Int) - 2) + 1) (s : Int) o8 o9 o10 := by
      intro f
      induction f with
      | zero =>
        intro M R o1 o8 o9 o10 hf0 hs hM hz hlt
        have := hM.2.1.nonneg
        omega
      | succ f ihf =>
        intro M R o1 o8 o9 o10 hf0 hs hM hz hlt
        obtain ⟨hf, hR, hwM, hv, hdg⟩ := hM
        have hR0 := hR.nonneg
        have sR := hR.size
        have hps := pw_pos DD0 s
        have hpn := pw_pos DD0 n
        refine b_M_divideRows_62 ?_
        refine (s_isRestLess (d := d') hb hR hwM hw0 (by omega)).cal fun x1 M1 hM1 => ?_
        obtain ⟨rfl, rfl⟩ := hM1
        by_cases hc : R < w * 10000 ^ s
        · rw [if_pos hc]
          refine ⟨⟨by decide, by decide⟩, fun _ => ?_, fun h => absurd (by decide) h⟩
          rw [show (s : Int) + (-1) = (s : Int) - 1 by omega]
          exact ih M1 R _ _ _ _ (by omega) ⟨hf, hR, hwM, hv, hdg⟩ hz hc
        · rw [if_neg hc]
          refine ⟨⟨by decide, by decide⟩, fun h => absurd rfl h, fun _ => ?_⟩
          have c1 := atI_bd (i := (n : Int) + (s : Int)) hR.1
          have c2 := atI_bd (i := (n : Int) - 1 + (s : Int)) hR.1
          have c3 := atI_bd (i := (n : Int) - 2 + (s : Int)) hR.1
          have htop := top3_ok (s := s) hR hn1
          refine (s_atI (d := d' + 1) (r := 196) h196 sR ⟨by omega, by omega⟩).cal fun x2 M2 hM2 => ?_
          obtain ⟨rfl, rfl⟩ := hM2
          refine ⟨⟨by omega, by omega⟩, ?_⟩
          refine (s_atI (d := d' + 1) (r := 196) h196 sR ⟨by omega, by omega⟩).cal fun x3 M3 hM3 => ?_
          obtain ⟨rfl, rfl⟩ := hM3
          refine ⟨⟨by omega, by omega⟩, ?_⟩
          refine (s_atI (d := d' + 1) (r := 196) h196 sR ⟨by omega, by omega⟩).cal fun x4 M4 hM4 => ?_
          obtain ⟨rfl, rfl⟩ := hM4
          have bt : 0 ≤ (atI M4 196 ((n : Int) + (s : Int)) * 10000 + atI M4 196 ((n : Int) - 1 + (s : Int))) * 10000 + atI M4 196 ((n : Int) - 2 + (s : Int)) ∧ (atI M4 196 ((n : Int) + (s : Int)) * 10000 + atI M4 196 ((n : Int) - 1 + (s : Int))) * 10000 + atI M4 196 ((n : Int) - 2 + (s : Int)) < 1000000000000 := ⟨by omega, by omega⟩
          generalize (atI M4 196 ((n : Int) + (s : Int)) * 10000 + atI M4 196 ((n : Int) - 1 + (s : Int))) * 10000 + atI M4 196 ((n : Int) - 2 + (s : Int)) = top3 at htop bt ⊢
          have hj : 0 < atI M0 b ((n : Int) - 1) * 10000 + atI M0 b ((n : Int) - 2) + 1 := by omega
          have hjb : atI M0 b ((n : Int) - 1) * 10000 + atI M0 b ((n : Int) - 2) + 1 ≤ 100000000 := by omega
          generalize hlj : atI M0 b ((n : Int) - 1) * 10000 + atI M0 b ((n : Int) - 2) + 1 = lj at *
          have ht0 : 0 ≤ top3 / lj := Int.ediv_nonneg (by omega) (by omega)
          have ht1 : top3 / lj * lj ≤ top3 := Int.ediv_mul_le _ (by omega)
          have ht2 : top3 / lj ≤ top3 := Int.ediv_le_self _ (by omega)
          have hokay : (top3 / lj) * w * 10000 ^ s ≤ R := take_ok (lead := lj - 1) (by rw [Int.sub_add_cancel]; exact hlead) htop (by rw [Int.sub_add_cancel]; exact ht1) ht0 hpn hps
          have hwp : 0 < w * 10000 ^ s := Int.mul_pos hw0 hps
          have key : ∀ (t : Int) (p1 p2 : Option PV), 1 ≤ t → t * w * 10000 ^ s ≤ R → L_M_divideRows_112 (d' + 2) Q M4 o1 (b : Int) (sh : Int) (n : Int) lj (s : Int) p1 p2 t := by
            intro t p1 p2 ht1 htR
            have eB : w * 10000 ^ (s + 1) = 10000 * (w * 10000 ^ s) := by rw [Int.pow_succ]; grind
            have hds := hdg s hs
            have e1 : raw M4 195 s * 10000 ^ s * w = raw M4 195 s * (w * 10000 ^ s) := by grind
            have e2 : t * w * 10000 ^ s = t * (w * 10000 ^ s) := Int.mul_assoc _ _ _
            have hsum : raw M4 195 s + t < 10000 := by
              rcases Int.lt_or_le (raw M4 195 s + t) 10000 with q | q
              · exact q
              · exfalso
                have : 10000 * (w * 10000 ^ s) ≤ (raw M4 195 s + t) * (w * 10000 ^ s) := Int.mul_le_mul_of_nonneg_right q (Int.le_of_lt hwp)
                rw [Int.add_mul] at this
                omega
            refine b_M_divideRows_112 ?_
            refine (s_takesFromRest (d := d') hb hb6 hR hwM hw0 ⟨ht1, by omega⟩ (by omega) htR).cal fun x5 M5 hM5 => ?_
            obtain ⟨f5, g5⟩ := hM5
            refine ⟨⟨by omega, by omega⟩, ?_⟩
            rw [show (58500 + (s : Int)).toNat = 300 * 195 + s by omega]
            have er : M5 163 (300 * 195 + s) = raw M4 195 s := raw_rf (r := 195) f5 (by decide) (by omega)
            rw [er]
            have hraw : ∀ p, p ≤ sh → raw M5 195 p = raw M4 195 p := fun p hp => raw_rf f5 (by decide) (by omega)
            have f6 : RF [195, 196] M0 (upd2 M5 163 (300 * 195 + s) (raw M4 195 s + t)) := (hf.tr (f5.mono (by simp))).digit (by simp) (by omega)
            have f7 : RF [195] M5 (upd2 M5 163 (300 * 195 + s) (raw M4 195 s + t)) := RF.rfl'.digit (by simp) (by omega)
            have eR2 : R - t * w * 10000 ^ s < f := by
              have : 1 * (w * 10000 ^ s) ≤ t * (w * 10000 ^ s) := Int.mul_le_mul_of_nonneg_right ht1 (Int.le_of_lt hwp)
              omega
            refine ihf _ _ _ _ _ _ eR2 hs ⟨f6, g5.kept f7 (by decide), (hwM.kept f5 (by simpa using hb6)).kept f7 (by simpa using hb5), ?_, fun p hp => ?_⟩ (fun p hp => ?_) ?_
            · rw [raw_up, bs_sr (by omega), hraw s hs, show bs 10000 (raw M5 195) (sh + 1) = bs 10000 (raw M4 195) (sh + 1) from bs_congr fun p hp => hraw p (by omega), hv]
              grind
            · rw [raw_up]
              by_cases q : p = s
              · rw [q, sr_same]; omega
              · rw [sr_ne q, hraw p hp]; exact hdg p hp
            · rw [raw_up, sr_ne (by omega), hraw p (by omega)]
              exact hz p hp
            · rw [raw_up, sr_same]
              have e3 : (raw M4 195 s + t) * 10000 ^ s * w + (R - t * w * 10000 ^ s) = raw M4 195 s * 10000 ^ s * w + R := by grind
              rw [e3]
              exact hlt
          refine ⟨⟨by omega, by omega⟩, ⟨by omega, by omega⟩, ⟨by omega, by omega⟩, ⟨by omega, by omega⟩, fun h => ?_, fun h => ?_⟩
          · exact key 1 _ _ (by omega) (by rw [Int.one_mul]; omega)
          · exact key _ _ _ (by omega) hokay
    intro M R o1 o8 o9 o10 hk hM hz hlt
    refine b_M_divideRows_60 ⟨⟨by omega, by omega⟩, fun h => absurd h (by omega), fun _ => ?_⟩
    rw [show ((s + 1 : Nat) : Int) - 1 = (s : Int) by omega]
    have hR0 := hM.2.1.nonneg
    exact inner (R.toNat + 1) M R _ _ _ _ (by omega) (by omega) hM (fun p hp => hz p (by omega)) (by rw [hz s (by omega), Int.zero_mul, Int.zero_mul, Int.zero_add]; exact hlt)
