/-! line, jobAt, numberAt, meanTime, sumTimes: both sides. -/
/-- the class's RESULT -/
def CF (M : Mem) (q : Rat) : Prop := Big M 0 q.num ∧ Big M 2 (q.den : Int)
theorem mkRat_parts {x y : Nat} (hy : 0 < y) : (mkRat (x : Int) y).num = ((x / Nat.gcd x y : Nat) : Int) ∧ (mkRat (x : Int) y).den = y / Nat.gcd x y ∧ (mkRat (x : Int) y).num.sign = (if x = 0 then 0 else 1) ∧ 0 ≤ mkRat (x : Int) y := by
  have hy' : y ≠ 0 := by omega
  obtain ⟨e1, e2, e3⟩ := mk_parts (s := if x = 0 then 0 else 1) (n := (x : Int)) (p := x) hy (by by_cases q : x = 0 <;> simp [q]) (by by_cases q : x = 0 <;> simp [q]) (by by_cases q : x = 0 <;> simp [q])
  have hnum : (mkRat (x : Int) y).num = ((x / Nat.gcd x y : Nat) : Int) := by
    rw [Rat.num_mkRat, if_neg hy', Int.natAbs_natCast, Nat.gcd_comm]
    rfl
  refine ⟨hnum, e2, ?_, ?_⟩
  · rw [e3]
    by_cases q : x = 0
    · rw [if_pos q, if_pos q]
    · rw [if_neg q, if_neg q]
  · rw [← Rat.num_nonneg, hnum]; exact Int.natCast_nonneg _
theorem s_setLongsQ {d : Nat} {M : Mem} {x y : Nat} (hx : x < 9223372036854775808) (hy : y < 9223372036854775808) (hy0 : 0 < y) (z0 : RZ M 0) (z2 : RZ M 2) :
    Post (d + 3) cF_setLongs [oB 90, .inr (.inl (x : Int)), .inr (.inl (y : Int))] M (fun b M' => Fr [0, 1, 2, 3] M M' ∧ CF M' (mkRat (x : Int) y) ∧ b = (mkRat (x : Int) y).num.sign) := by
  intro Q hQ
  obtain ⟨e1, e2, e3, e4⟩ := mkRat_parts (x := x) hy0
  refine s_setLongs (d := d) hx hy hy0 z0 z2 Q fun b M' ⟨f, g1, g2, g3⟩ => hQ b M' ⟨f, ⟨by rw [e1]; exact g1, by rw [e2]; exact g2⟩, ?_⟩
  rw [g3, e3]
theorem CF.rz0 {M : Mem} {q : Rat} (h : CF M q) : RZ M 0 := h.1.rz
theorem CF.rz2 {M : Mem} {q : Rat} (h : CF M q) : RZ M 2 := h.2.rz
theorem CF.kept {M M' : Mem} {q : Rat} {l : List Nat} (h : CF M q) (hf : Fr l M M') (h0 : 0 ∉ l) (h1 : 1 ∉ l) (h2 : 2 ∉ l) (h3 : 3 ∉ l) : CF M' q := ⟨h.1.kept hf h0 h1, h.2.kept hf h2 h3⟩
theorem s_Qline {d : Nat} {M : Mem} {a b c e : Int} (ha : R32 a) (hb : R32 b) (hc : R32 c) (he : R32 e) : PostE (d + 2) cQ_line [oQ, .inl a, .inl b, .inl c, .inl e] M (fun r M' => (¬ lineOk a b c e ∧ r = .inr 2 ∧ M' = M) ∨ (lineOk a b c e ∧ r = .inl (M 54 1) ∧ Fr [54, 149] M M' ∧ M' 54 0 = a ∧ M' 54 1 = b ∧ M' 54 2 = c ∧ M' 54 3 = e ∧ M' 149 7 = 0 ∧ ∀ s, s ≠ 7 → M' 149 s = M 149 s)) := by
  intro Q hQ
  have no : ¬ lineOk a b c e → Q (.inr 2) M := fun h => hQ _ _ (Or.inl ⟨h, rfl, rfl⟩)
  unfold lineOk at no hQ
  refine e_Q_line (b_Q_line_0 ⟨ha, fun _ => no (by omega), fun _ => ⟨fun _ => no (by omega), fun _ => ⟨hb, fun _ => no (by omega), fun _ => ⟨fun _ => no (by omega), fun _ => ⟨hc, fun _ => no (by omega), fun _ => ⟨fun _ => no (by omega), fun _ => ⟨he, fun _ => no (by omega), fun _ => ⟨fun _ => ?_, fun _ => no (by omega)⟩⟩⟩⟩⟩⟩⟩⟩)
  refine Post.cal (P := fun _ M' => M' = upd2 (upd2 (upd2 (upd2 M 54 0 a) 54 1 b) 54 2 c) 54 3 e) (fun Q' hQ' => e_P_set iP1 (b_P_set_0 iP1 (hQ' _ _ rfl))) fun v1 M1 hM1 => ?_
  subst hM1
  refine hQ _ _ (Or.inr ⟨by omega, rfl, ((((Fr.rfl'.u2 (by simp)).u2 (by simp)).u2 (by simp)).u2 (by simp)).u2 (by simp), ?_, ?_, ?_, ?_, u2_same, fun s hs => ?_⟩)
  · rw [u2_off (by decide), u2_ne (by decide), u2_ne (by decide), u2_ne (by decide), u2_same]
  · rw [u2_off (by decide), u2_ne (by decide), u2_ne (by decide), u2_same]
  · rw [u2_off (by decide), u2_ne (by decide), u2_same]
  · rw [u2_off (by decide), u2_same]
  · rw [u2_ne hs, u2_off (by decide), u2_off (by decide), u2_off (by decide), u2_off (by decide)]
/-- what is told of a job -/
def jobVal (n : Nat) (J : Nat → Int) (many by_ space wait : Int) (T k : Nat) (w : Int) : Int := if w = 0 then (sAt n J many by_ space wait T).2.2.2 0 k else if w = 1 then (sAt n J many by_ space wait T).2.2.2 2 k else if w = 2 then (sAt n J many by_ space wait T).2.2.2 3 k else if w = 3 then pTime n J many by_ space wait T k else J (4 * k + (w - 4).toNat)
/-- what a play of the line leaves as it was -/
def lineFr (M M' : Mem) (n : Nat) (J : Nat → Int) (many by_ space wait : Int) : Prop := Fr (149 :: pcs 54) M M' ∧ (∀ s, s ≠ 7 → M' 149 s = M 149 s) ∧ lineC M' n J many by_ space wait
theorem lineFr_self {M : Mem} {n : Nat} {J : Nat → Int} {many by_ space wait : Int} (h : lineC M n J many by_ space wait) : lineFr M M n J many by_ space wait := ⟨Fr.rfl', fun _ _ => rfl, h⟩
theorem s_playLine' {d : Nat} {M : Mem} {n : Nat} {J : Nat → Int} {many by_ space wait : Int} (hV : VJ n J) (hn : M 117 0 = n) (hJ : M 94 = J) (h : lineC M n J many by_ space wait) :
    Post (d + 5) cQ_playLine [oQ] M (fun _ M' => lineFr M M' n J many by_ space wait ∧ ∃ T, RunC M' 54 n J many by_ space wait T) := by
  intro Q hQ
  have hok := h.2.2.2.2.1
  refine s_playLine (d := d) hV hn hJ h Q fun v M' ⟨f, s, h7, h0, h1, h2, h3, T, hT⟩ => hQ v M' ⟨⟨f, s, h0, h1, h2, h3, hok, Or.inr ⟨h7, T, hT⟩⟩, T, hT⟩
theorem s_QjobAt {d : Nat} {M : Mem} {n : Nat} {J : Nat → Int} {many by_ space wait a b : Int} (hV : VJ n J) (hn : M 117 0 = n) (hJ : M 94 = J) (h : lineC M n J many by_ space wait) (ha : R32 a) (hb : R32 b) :
    PostE (d + 6) cQ_jobAt [oQ, .inl a, .inl b] M (fun r M' => lineFr M M' n J many by_ space wait ∧ ((¬ (0 ≤ a ∧ a < n) ∧ r = .inr 4) ∨ ((0 ≤ a ∧ a < n) ∧ ¬ (0 ≤ b ∧ b ≤ 7) ∧ r = .inr 2) ∨ ((0 ≤ a ∧ a < n) ∧ (0 ≤ b ∧ b ≤ 7) ∧ ∀ T, PT n J many by_ space wait T → r = .inl (jobVal n J many by_ space wait T a.toNat b)))) := by
  intro Q hQ
  have h24 := hV.1
  have no4 : ¬ (0 ≤ a ∧ a < n) → Q (.inr 4) M := fun z => hQ _ _ ⟨lineFr_self h, Or.inl ⟨z, rfl⟩⟩
  have no2 : (0 ≤ a ∧ a < n) → ¬ (0 ≤ b ∧ b ≤ 7) → Q (.inr 2) M := fun y z => hQ _ _ ⟨lineFr_self h, Or.inr (Or.inl ⟨y, z, rfl⟩)⟩
  refine e_Q_jobAt (b_Q_jobAt_0 ?_)
  rw [hn]
  refine ⟨ha, fun z => no4 (by omega), fun z => ⟨⟨by omega, by omega⟩, fun z2 => ⟨hb, fun z3 => no2 ⟨by omega, z2⟩ (by omega), fun z3 => ⟨fun z4 => ⟨fun z5 => ?_, fun z5 => ?_⟩, fun z4 => no2 ⟨by omega, z2⟩ (by omega)⟩⟩, fun z2 => no4 (by omega)⟩⟩
  · obtain ⟨k, rfl⟩ : ∃ k : Nat, a = k := ⟨a.toNat, by omega⟩
    have hk : k < n := by omega
    refine (s_playLine' (d := d) hV hn hJ h).cal fun v1 M1 hM1 => ?_
    obtain ⟨hl, T, hT⟩ := hM1
    obtain ⟨j1, j2, j3⟩ := hT.2.2.2.2 k hk
    have fin : ∀ v, (∀ T, PT n J many by_ space wait T → v = jobVal n J many by_ space wait T k b) → Q (.inl v) M1 := fun v hv => hQ _ _ ⟨hl, Or.inr (Or.inr ⟨⟨by omega, z2⟩, ⟨by omega, z4⟩, fun U hU => by rw [Int.toNat_natCast, ← hv U hU]⟩)⟩
    rw [Int.toNat_natCast]
    refine ⟨fun e => ⟨⟨by omega, by omega⟩, fin _ fun U hU => ?_⟩, fun e => ⟨fun e2 => ⟨⟨by omega, by omega⟩, fin _ fun U hU => ?_⟩, fun e2 => ⟨fun e3 => ⟨⟨by omega, by omega⟩, fin _ fun U hU => ?_⟩, fun e3 => ?_⟩⟩⟩
    · have := hU.uniq hT.pt; subst this
      unfold jobVal; rw [if_pos e]; exact j1
    · have := hU.uniq hT.pt; subst this
      unfold jobVal; rw [if_neg e, if_pos e2]; exact j2
    · have := hU.uniq hT.pt; subst this
      unfold jobVal; rw [if_neg e, if_neg e2, if_pos e3]; exact j3
    · refine (s_timeOf (d := d + 3) iP1 (by omega)).cal fun v2 M2 hM2 => ?_
      obtain ⟨rfl, rfl⟩ := hM2
      refine fin _ fun U hU => ?_
      have := hU.uniq hT.pt; subst this
      unfold jobVal; rw [if_neg e, if_neg e2, if_neg e3, if_pos (by omega), j3, hl.1 94 (by decide), hJ]; rfl
  · obtain ⟨k, rfl⟩ : ∃ k : Nat, a = k := ⟨a.toNat, by omega⟩
    have e4 : b - 4 = ((b - 4).toNat : Int) := by omega
    rw [e4]
    refine (s_Jpart (d := d + 4) (k := k) (p := (b - 4).toNat) (by omega) (by omega)).cal fun v2 M2 hM2 => ?_
    obtain ⟨rfl, rfl⟩ := hM2
    refine hQ _ _ ⟨lineFr_self h, Or.inr (Or.inr ⟨⟨by omega, z2⟩, ⟨by omega, z4⟩, fun U hU => ?_⟩)⟩
    unfold jobVal
    rw [if_neg (by omega), if_neg (by omega), if_neg (by omega), if_neg (by omega), Int.toNat_natCast, hJ]
/-- the number at a tick -/
def numVal (n : Nat) (J : Nat → Int) (many by_ space wait : Int) (T : Nat) (t : Int) : Int := if 0 ≤ t ∧ t < T then sNum (sMid n J many by_ space wait ((t.toNat : Nat) : Int) (sAt n J many by_ space wait t.toNat)) else 0
theorem s_QnumberAt {d : Nat} {M : Mem} {n : Nat} {J : Nat → Int} {many by_ space wait a : Int} (hV : VJ n J) (hn : M 117 0 = n) (hJ : M 94 = J) (h : lineC M n J many by_ space wait) (ha : R32 a) :
    Post (d + 6) cQ_numberAt [oQ, .inl a] M (fun v M' => lineFr M M' n J many by_ space wait ∧ ∃ T, PT n J many by_ space wait T ∧ v = numVal n J many by_ space wait T a) := by
  intro Q hQ
  refine e_Q_numberAt (b_Q_numberAt_0 ?_)
  refine (s_playLine' (d := d) hV hn hJ h).cal fun v1 M1 hM1 => ?_
  obtain ⟨hl, T, hT⟩ := hM1
  have hTl := hT.pt.le hV h.2.2.2.2.1.1.1
  rw [hT.2.2.1]
  refine ⟨ha, fun z => hQ _ _ ⟨hl, T, hT.pt, by unfold numVal; rw [if_neg (by omega)]⟩, fun z => ⟨⟨by omega, by omega⟩, fun z2 => ⟨⟨by omega, by omega⟩, hQ _ _ ⟨hl, T, hT.pt, ?_⟩⟩, fun z2 => hQ _ _ ⟨hl, T, hT.pt, by unfold numVal; rw [if_neg (by omega)]⟩⟩⟩
  unfold numVal
  rw [if_pos (by omega)]
  exact hT.2.2.2.1 a.toNat (by omega)
theorem s_QsumTimes {d : Nat} {M : Mem} {n : Nat} {J : Nat → Int} {many by_ space wait a : Int} (hV : VJ n J) (hn : M 117 0 = n) (hJ : M 94 = J) (h : lineC M n J many by_ space wait) (hF : freeC M n J) (ha : R32 a) :
    Post (d + 6) cQ_sumTimes [oQ, .inl a] M (fun v M' => (a = 0 ∧ lineFr M M' n J many by_ space wait ∧ ∃ T, PT n J many by_ space wait T ∧ v = pSum n J many by_ space wait T) ∨ (a ≠ 0 ∧ Fr (148 :: 149 :: pcs 63) M M' ∧ (∀ s, s ≠ 6 → M' 149 s = M 149 s) ∧ freeC M' n J ∧ ∃ T, PT n J 1 5 24 999 T ∧ v = pSum n J 1 5 24 999 T)) := by
  intro Q hQ
  refine e_Q_sumTimes (b_Q_sumTimes_0 ⟨ha, fun z => ?_, fun z => ?_⟩)
  · refine (s_playLine' (d := d) hV hn hJ h).cal fun v1 M1 hM1 => ?_
    obtain ⟨hl, T, hT⟩ := hM1
    have e94 : M1 94 = J := by rw [hl.1 94 (by decide)]; exact hJ
    refine (s_sumOfTimes (d := d + 2) (n := n) (f := pTime n J many by_ space wait T) iP1 (by rw [hl.1 117 (by decide)]; exact hn) hV.1 (fun k hk => by rw [(hT.2.2.2.2 k hk).2.2, e94]; rfl)).cal fun v2 M2 hM2 => ?_
    obtain ⟨rfl, rfl⟩ := hM2
    exact hQ _ _ (Or.inl ⟨z, hl, T, hT.pt, rfl⟩)
  · refine (s_freeSum (d := d) (r := 5) hV hn hJ hF (by decide)).cal fun v1 M1 hM1 => ?_
    obtain ⟨g1, g2, g3, ⟨T, hT, rfl⟩, _⟩ := hM1
    exact hQ _ _ (Or.inr ⟨z, g1, g2, g3, T, hT, rfl⟩)