/-! The class's scan. -/
/-- the class's tape -/
def TP (M : Mem) (n : Nat) : Prop := M 93 1 = n ∧ n ≤ 900 ∧ ∀ i, R32 (M 91 i)
theorem TP.fr {M M' : Mem} {n : Nat} (h : TP M n) (h1 : M' 91 = M 91) (h2 : M' 93 1 = M 93 1) : TP M' n := ⟨by rw [h2]; exact h.1, h.2.1, by rw [h1]; exact h.2.2⟩
theorem s_isDigit {d : Nat} {M : Mem} {v : Int} (hv : R32 v) : Post (d + 1) cT_isDigit [.inl v] M (fun x M' => M' = M ∧ x = if isD v = true then 1 else 0) := by
  intro Q hQ
  refine e_T_isDigit (b_T_isDigit_0 ⟨hv, fun h => hQ _ _ ⟨rfl, ?_⟩, fun h => ⟨fun h2 => hQ _ _ ⟨rfl, ?_⟩, fun h2 => hQ _ _ ⟨rfl, ?_⟩⟩⟩)
  · rw [if_neg (by rw [isD_iff]; omega)]
  · rw [if_neg (by rw [isD_iff]; omega)]
  · rw [if_pos (by rw [isD_iff]; omega)]
theorem skb_loop {d : Nat} {Q : Rs → Mem → Prop} {M : Mem} {n : Nat} (hT : TP M n) : ∀ (k s : Nat) (o1 : Option PV), n - s ≤ k → s ≤ n → Q (.inl (skB (M 91) n s : Nat)) M → L_T_skipBlanks_2 d Q M o1 (s : Int)
  | 0, s, o1, hk, hs, hQ => by
    have := hT.2.1
    refine b_T_skipBlanks_2 ?_
    rw [hT.1]
    refine ⟨⟨by omega, by omega⟩, ⟨by omega, by omega⟩, fun _ => ?_, fun h => absurd (by omega) h⟩
    rw [skB, rnn_st (by omega)] at hQ
    exact hQ
  | k + 1, s, o1, hk, hs, hQ => by
    have := hT.2.1
    refine b_T_skipBlanks_2 ?_
    rw [hT.1, Int.toNat_natCast]
    refine ⟨⟨by omega, by omega⟩, ⟨by omega, by omega⟩, fun h => ?_, fun h => ⟨⟨by omega, by omega⟩, hT.2.2 s, fun h2 => ?_, fun h2 => ?_⟩⟩
    · rw [skB, rnn_st (by omega)] at hQ
      exact hQ
    · rw [skB, rnn_st (by rw [isB_iff]; omega)] at hQ
      exact hQ
    · rw [skB, rnn_go (by omega) (by rw [isB_iff]; exact Classical.not_not.mp h2)] at hQ
      exact skb_loop hT k (s + 1) _ (by omega) (by omega) hQ
theorem s_skipBlanks {d : Nat} {M : Mem} {n s : Nat} (hT : TP M n) (hs : s ≤ n) : Post (d + 1) cT_skipBlanks [oT, .inl (s : Int)] M (fun x M' => M' = M ∧ x = (skB (M 91) n s : Nat)) := fun Q hQ => e_T_skipBlanks (b_T_skipBlanks_0 (skb_loop hT _ s _ (Nat.le_refl _) hs (hQ _ _ ⟨rfl, rfl⟩)))
theorem eot_19 {d : Nat} {Q : Rs → Mem → Prop} {M : Mem} {n s : Nat} (hT : TP M n) : ∀ (k p : Nat), n - p ≤ k → s ≤ p → p ≤ n → Q (.inl ((if s < rnn isL (M 91) n p then rnn isL (M 91) n p else s + 1 : Nat) : Int)) M → L_T_endOfToken_19 d Q M (s : Int) (p : Int)
  | k, p, hk, hsp, hp, hQ => by
    have := hT.2.1
    have fin : ¬ (p < n ∧ isL (M 91 p) = true) → ((R32 (s : Int)) ∧ (((p : Int) ≤ (s : Int) → Q (.inl ((s : Int) + 1)) M) ∧ (¬ ((p : Int) ≤ (s : Int)) → Q (.inl (p : Int)) M))) := by
      intro h
      rw [rnn_st h] at hQ
      refine ⟨⟨by omega, by omega⟩, fun h2 => ?_, fun h2 => ?_⟩
      · rw [if_neg (by omega)] at hQ
        exact hQ
      · rw [if_pos (by omega)] at hQ
        exact hQ
    refine b_T_endOfToken_19 ?_
    rw [hT.1, Int.toNat_natCast]
    refine ⟨⟨by omega, by omega⟩, ⟨by omega, by omega⟩, fun h => fin (by omega), fun h => ⟨⟨by omega, by omega⟩, hT.2.2 p, fun h2 => fin (by rw [isL_iff]; omega), fun h2 => ⟨fun h3 => fin (by rw [isL_iff]; omega), fun h3 => ?_⟩⟩⟩
    rw [rnn_go (by omega) (by rw [isL_iff]; omega)] at hQ
    cases k with
    | zero => omega
    | succ k => exact eot_19 hT k (p + 1) (by omega) (by omega) (by omega) hQ
theorem eot_2 {d : Nat} {Q : Rs → Mem → Prop} {M : Mem} {n s : Nat} (hT : TP M n) (hs : s < n) (hsl : ¬ s < rnn isD (M 91) n s → Q (.inl ((te (M 91) n s : Nat) : Int)) M) : ∀ (k p : Nat), n - p ≤ k → s ≤ p → p ≤ n → rnn isD (M 91) n s = rnn isD (M 91) n p → (s < rnn isD (M 91) n p → Q (.inl ((rnn isD (M 91) n p : Nat) : Int)) M) → L_T_endOfToken_2 (d + 1) Q M (s : Int) (p : Int)
  | k, p, hk, hsp, hp, he, hQ => by
    have := hT.2.1
    have fin : ¬ (p < n ∧ isD (M 91 p) = true) → ((R32 (s : Int)) ∧ (((p : Int) ≤ (s : Int) → L_T_endOfToken_19 (d + 1) Q M (s : Int) (p : Int)) ∧ (¬ ((p : Int) ≤ (s : Int)) → Q (.inl (p : Int)) M))) := by
      intro h
      rw [rnn_st h] at hQ he
      refine ⟨⟨by omega, by omega⟩, fun h2 => ?_, fun h2 => hQ (by omega)⟩
      have e : p = s := by omega
      subst e
      refine eot_19 hT _ p (Nat.le_refl _) (Nat.le_refl _) hp ?_
      have := hsl (by rw [he]; omega)
      unfold te at this
      rw [if_neg (by rw [he]; omega)] at this
      exact this
    refine b_T_endOfToken_2 ?_
    rw [hT.1, Int.toNat_natCast]
    refine ⟨⟨by omega, by omega⟩, ⟨by omega, by omega⟩, fun h => fin (by omega), fun h => ⟨⟨by omega, by omega⟩, ?_⟩⟩
    refine (s_isDigit (d := d) (hT.2.2 p)).cal fun v1 M1 hM1 => ?_
    obtain ⟨rfl, rfl⟩ := hM1
    by_cases q : isD (M1 91 p) = true
    · rw [if_pos q]
      refine ⟨⟨by decide, by decide⟩, fun h => absurd h (by decide), fun _ => ?_⟩
      rw [rnn_go (by omega) q] at hQ he
      cases k with
      | zero => omega
      | succ k => exact eot_2 hT hs hsl k (p + 1) (by omega) (by omega) (by omega) he hQ
    · rw [if_neg q]
      exact ⟨⟨by decide, by decide⟩, fun _ => fin (fun z => q z.2), fun h => absurd rfl h⟩
theorem s_endOfToken {d : Nat} {M : Mem} {n s : Nat} (hT : TP M n) (hs : s < n) : Post (d + 2) cT_endOfToken [oT, .inl (s : Int)] M (fun x M' => M' = M ∧ x = (te (M 91) n s : Nat)) := by
  intro Q hQ
  refine e_T_endOfToken (b_T_endOfToken_0 (eot_2 (d := d) hT hs (fun _ => hQ _ _ ⟨rfl, rfl⟩) _ s (Nat.le_refl _) (Nat.le_refl _) (by omega) rfl fun h => ?_))
  have := hQ _ _ ⟨rfl, rfl⟩
  unfold te at this
  rw [if_pos h] at this
  exact this
theorem s_isWord {d : Nat} {M : Mem} {n s e k : Nat} (hk : 1 ≤ k ∧ k ≤ 5) (hT : TP M n) (hs : s ≤ n) (he : e ≤ n) : Post (d + 1) cT_isWord [oT, .inr (.inr (.inr k)), .inl (s : Int), .inl (e : Int)] M (fun x M' => M' = M ∧ x = if isW (M 91) k s e = true then 1 else 0) := by
  intro Q hQ
  have h9 := hT.2.1
  have hl : M 93 1 = n := hT.1
  have hk1 : M kT 1 = n := hT.1
  have e0 : MTf cT_isWord = none := rfl
  unfold cald calD
  rw [e0]
  show extS cT_isWord [oT, .inr (.inr (.inr k)), .inl (s : Int), .inl (e : Int)] M Q
  refine ⟨rfl, rfl, ⟨hk.1, hk.2, by omega, by omega, by omega, by omega, by omega, by omega, hT.2.2⟩, fun r hr hiff => hQ r M ⟨rfl, ?_⟩⟩
  have key : isW (M 91) k s e = true ↔ isWordP M k s e := by
    unfold isW isWordP
    rw [Bool.and_eq_true, decide_eq_true_eq, wEq_iff, Int.toNat_natCast, hk1]
    constructor
    · rintro ⟨h1, h2⟩
      exact ⟨by omega, by omega, by omega, h2⟩
    · rintro ⟨h1, h2, h3, h4⟩
      exact ⟨by omega, h4⟩
  by_cases q : isW (M 91) k s e = true
  · rw [if_pos q]; exact hiff.mpr (key.mp q)
  · rw [if_neg q]
    rcases hr with h | h
    · exact h
    · exact absurd (key.mpr (hiff.mp h)) q
theorem s_tell {d : Nat} {M : Mem} {c p : Nat} {v : Int} (hc : M 93 2 = c) (hp : p < 4) (h90 : c < 90) : Post (d + 1) cT_tell [oT, .inl (p : Int), .inl v] M (fun _ M' => M' = upd2 M 92 (4 * c + p) v) := by
  intro Q hQ
  refine e_T_tell (b_T_tell_0 ?_)
  rw [hc, show ((c : Int) * 4 + (p : Int)).toNat = 4 * c + p by omega]
  exact ⟨⟨by omega, by omega⟩, fun h => absurd h (by omega), fun _ => ⟨fun h => absurd h (by omega), fun _ => ⟨⟨by omega, by omega⟩, hQ _ _ rfl⟩⟩⟩
/-- the state behind a token, as the class's memory holds it -/
def Sb (M : Mem) (n s : Nat) (x : PX) (v : Int) (M' : Mem) : Prop := Fr [92, 93] M M' ∧ M' 93 1 = M 93 1 ∧ M' 93 2 = x.2.2.1 ∧ M' 92 = x.2.2.2 ∧ v = (if x.1 = 9 then -1 else (x.1 : Int)) ∧ (x.1 = 9 → x.2.1 = s) ∧ (x.1 ≠ 9 → x.2.1 = skB (M 91) n (te (M 91) n s))
theorem s_sbEnd {d : Nat} {M : Mem} {n s c : Nat} (hT : TP M n) (hs : s < n) (hc : M 93 2 = c) : Post (d + 2) cT_stateBehindEnd [oT, .inl (s : Int), .inl (te (M 91) n s : Nat)] M (fun v M' => Sb M n s (pEnd (M 91) n s c (M 92)) v M') := by
  intro Q hQ
  refine e_T_stateBehindEnd (b_T_stateBehindEnd_0 ?_)
  refine (s_isWord (d := d) (k := 5) (by decide) hT (Nat.le_of_lt hs) (te_le hs)).cal fun v1 M1 hM1 => ?_
  obtain ⟨rfl, rfl⟩ := hM1
  unfold pEnd at hQ
  by_cases q : isW (M1 91) 5 s (te (M1 91) n s) = true
  · rw [if_pos q] at hQ ⊢
    refine ⟨⟨by decide, by decide⟩, fun _ => hQ _ _ ⟨Fr.rfl'.u2 (by simp), u2_ne (by decide), ?_, u2_off (by decide), rfl, fun h => absurd (show (0 : Nat) = 9 from h) (by decide), fun _ => rfl⟩, fun h => absurd (by decide) h⟩
    rw [u2_same, hc]; rfl
  · rw [if_neg q] at hQ ⊢
    exact ⟨⟨by decide, by decide⟩, fun h => absurd rfl h, fun _ => hQ _ _ ⟨Fr.rfl', rfl, hc, rfl, rfl, fun _ => rfl, fun h => absurd rfl h⟩⟩
theorem s_sbKind {d : Nat} {M : Mem} {n s c : Nat} (hT : TP M n) (hs : s < n) (hc : M 93 2 = c) : Post (d + 3) cT_stateBehindKind [oT, .inl (s : Int), .inl (te (M 91) n s : Nat)] M (fun v M' => Sb M n s (pKind (M 91) n s c (M 92)) v M') := by
  intro Q hQ
  refine e_T_stateBehindKind (b_T_stateBehindKind_0 ?_)
  refine (s_isWord (d := d + 1) (k := 4) (by decide) hT (Nat.le_of_lt hs) (te_le hs)).cal fun v1 M1 hM1 => ?_
  obtain ⟨rfl, rfl⟩ := hM1
  unfold pKind at hQ
  by_cases q : isW (M1 91) 4 s (te (M1 91) n s) = true
  · rw [if_pos q] at hQ ⊢
    exact ⟨⟨by decide, by decide⟩, fun h => absurd h (by decide), fun _ => hQ _ _ ⟨Fr.rfl', rfl, hc, rfl, rfl, fun h => absurd (show (7 : Nat) = 9 from h) (by decide), fun _ => rfl⟩⟩
  · rw [if_neg q] at hQ ⊢
    refine ⟨⟨by decide, by decide⟩, fun _ => ?_, fun h => absurd rfl h⟩
    exact (s_sbEnd (d := d) hT hs hc).cal fun v2 M2 hM2 => hQ _ _ hM2
theorem sbn_loop {d : Nat} {Q : Rs → Mem → Prop} {M : Mem} {n s c p st : Nat} {o2 : Option PV} (hT : TP M n) (hs : s < n) (hc : M 93 2 = c) (hp : p < 4) (h90 : c < 90) (hd : isD (M 91 s) = true)
    (hQ : Q (.inl (st : Int)) (upd2 M 92 (4 * c + p) (nv (M 91) s (te (M 91) n s - s)))) : ∀ (k i : Nat), s + i + k = te (M 91) n s → L_T_stateBehindNumber_11 (d + 1) Q M (p : Int) o2 (te (M 91) n s : Nat) (st : Int) (nv (M 91) s i) ((s + i : Nat) : Int)
  | 0, i, hi => by
    have h9 := hT.2.1
    have := te_le (t := M 91) hs
    refine b_T_stateBehindNumber_11 ⟨⟨by omega, by omega⟩, ⟨by omega, by omega⟩, fun _ => ?_, fun h => absurd (by omega) h⟩
    rw [show te (M 91) n s - s = i by omega] at hQ
    refine (s_tell (d := d) hc hp h90).cal fun v2 M2 hM2 => ?_
    subst hM2
    exact hQ
  | k + 1, i, hi => by
    have h9 := hT.2.1
    have hte := te_le (t := M 91) hs
    have hsd : s < rnn isD (M 91) n s := by
      rw [rnn_go hs hd]
      have := rnn_ge (P := isD) (t := M 91) (n := n) _ (s + 1) (Nat.le_refl _)
      omega
    have ete : te (M 91) n s = rnn isD (M 91) n s := by unfold te; rw [if_pos hsd]
    have hin := rnn_in (P := isD) (t := M 91) (n := n) _ s (Nat.le_refl _) (s + i) (by omega) (by omega)
    refine b_T_stateBehindNumber_11 ?_
    rw [hT.1, Int.toNat_natCast]
    refine ⟨⟨by omega, by omega⟩, ⟨by omega, by omega⟩, fun h => absurd h (by omega), fun _ => ⟨⟨by omega, by omega⟩, fun h => absurd h (by omega), fun _ => ⟨⟨by omega, by omega⟩, ?_⟩⟩⟩
    refine (s_isDigit (d := d) (hT.2.2 (s + i))).cal fun v1 M1 hM1 => ?_
    obtain ⟨rfl, rfl⟩ := hM1
    rw [if_pos hin.2]
    refine ⟨⟨by decide, by decide⟩, fun _ => ?_, fun h => absurd (by decide) h⟩
    exact sbn_loop hT hs hc hp h90 hd hQ k (i + 1) (by omega)
theorem s_sbNumber {d : Nat} {M : Mem} {n s c p st : Nat} (hT : TP M n) (hs : s < n) (hc : M 93 2 = c) (hp : p < 4) (h90 : c < 90) (hst : st ≠ 9) : Post (d + 2) cT_stateBehindNumber [oT, .inl (p : Int), .inl (s : Int), .inl (te (M 91) n s : Nat), .inl (st : Int)] M (fun v M' => Sb M n s (pNum (M 91) n st p s c (M 92)) v M') := by
  intro Q hQ
  have h9 := hT.2.1
  have hte := te_le (t := M 91) hs
  have htg := te_gt (t := M 91) (n := n) (s := s)
  unfold pNum at hQ
  refine e_T_stateBehindNumber (b_T_stateBehindNumber_0 ⟨⟨by omega, by omega⟩, fun h => ?_, fun h => ?_⟩)
  · by_cases q : isD (M 91 s) = true
    · rw [if_pos ⟨by omega, q⟩] at hQ
      refine sbn_loop (d := d) hT hs hc hp h90 q (hQ _ _ ⟨Fr.rfl'.u2 (by simp), by rw [u2_off (by decide)], ?_, u2_row, ?_, fun h => absurd h hst, fun _ => rfl⟩) (te (M 91) n s - s) 0 (by omega)
      · rw [u2_off (by decide)]; exact hc
      · rw [if_neg hst]
    · rw [if_neg fun z => q z.2] at hQ
      refine b_T_stateBehindNumber_11 ?_
      rw [hT.1, Int.toNat_natCast]
      refine ⟨⟨by omega, by omega⟩, ⟨by omega, by omega⟩, fun h => absurd h (by omega), fun _ => ⟨⟨by omega, by omega⟩, fun h => absurd h (by omega), fun _ => ⟨⟨by omega, by omega⟩, ?_⟩⟩⟩
      refine (s_isDigit (d := d) (hT.2.2 s)).cal fun v1 M1 hM1 => ?_
      obtain ⟨rfl, rfl⟩ := hM1
      rw [if_neg q]
      exact ⟨⟨by decide, by decide⟩, fun h => absurd rfl h, fun _ => hQ _ _ ⟨Fr.rfl', rfl, hc, rfl, rfl, fun _ => rfl, fun h => absurd rfl h⟩⟩
  · rw [if_neg fun z => h (by omega)] at hQ
    exact hQ _ _ ⟨Fr.rfl', rfl, hc, rfl, rfl, fun _ => rfl, fun h => absurd rfl h⟩
theorem s_sbAt {d : Nat} {M : Mem} {n s c : Nat} (hT : TP M n) (hs : s < n) (hc : M 93 2 = c) (h90 : c < 90) : Post (d + 2) cT_stateBehindAt [oT, .inl (s : Int), .inl (te (M 91) n s : Nat)] M (fun v M' => Sb M n s (trn (M 91) n (0, s, c, M 92)) v M') := by
  intro Q hQ
  refine e_T_stateBehindAt (b_T_stateBehindAt_0 ?_)
  refine (s_isWord (d := d) (k := 1) (by decide) hT (Nat.le_of_lt hs) (te_le hs)).cal fun v1 M1 hM1 => ?_
  obtain ⟨rfl, rfl⟩ := hM1
  have eT : trn (M1 91) n (0, s, c, M1 92) = if isW (M1 91) 1 s (te (M1 91) n s) = true then (1, skB (M1 91) n (te (M1 91) n s), c, sr (sr (M1 92) (4 * c + 2) 0) (4 * c + 3) 1) else (9, s, c, M1 92) := rfl
  rw [eT] at hQ
  by_cases q : isW (M1 91) 1 s (te (M1 91) n s) = true
  · rw [if_pos q] at hQ ⊢
    refine ⟨⟨by decide, by decide⟩, fun _ => ?_, fun h => absurd (by decide) h⟩
    refine (s_tell (d := d) (p := 2) hc (by decide) h90).cal fun v2 M2 hM2 => ?_
    subst hM2
    refine (s_tell (d := d) (c := c) (p := 3) (by rw [u2_off (by decide)]; exact hc) (by decide) h90).cal fun v3 M3 hM3 => ?_
    subst hM3
    refine hQ _ _ ⟨(Fr.rfl'.u2 (by simp)).u2 (by simp), by rw [u2_off (by decide), u2_off (by decide)], by rw [u2_off (by decide), u2_off (by decide)]; exact hc, by rw [u2_row, u2_row], rfl, fun h => absurd (show (1 : Nat) = 9 from h) (by decide), fun _ => rfl⟩
  · rw [if_neg q] at hQ ⊢
    exact ⟨⟨by decide, by decide⟩, fun h => absurd rfl h, fun _ => hQ _ _ ⟨Fr.rfl', rfl, hc, rfl, rfl, fun _ => rfl, fun h => absurd rfl h⟩⟩
theorem s_stateBehind {d : Nat} {M : Mem} {n s c st : Nat} (hT : TP M n) (hs : s < n) (hc : M 93 2 = c) (h90 : c < 90) (hst : st < 9) : Post (d + 4) cT_stateBehind [oT, .inl (st : Int), .inl (s : Int), .inl (te (M 91) n s : Nat)] M (fun v M' => Sb M n s (trn (M 91) n (st, s, c, M 92)) v M') := by
  intro Q hQ
  have T1 : ∀ (P : Int → Mem → Prop) (y : Nat) (a : List PV), Post (d + 3) y a M P → (∀ v M', P v M' → Q (.inl v) M') → cald (d + 3) y a M (fun r M1 => Rt r (fun v1 => Q (.inl v1) M1) (fun x => Q (.inr x) M1)) := fun P y a h hP => h.cal fun v M1 h1 => hP _ _ h1
  have W : ∀ (k st' : Nat) (els : Mem → Prop), (1 ≤ k ∧ k ≤ 5) → (isW (M 91) k s (te (M 91) n s) = true → Q (.inl (st' : Int)) M) → (¬ isW (M 91) k s (te (M 91) n s) = true → els M) →
      cald (d + 3) cT_isWord [oT, .inr (.inr (.inr k)), .inl (s : Int), .inl (te (M 91) n s : Nat)] M (fun r M1 => Rt r (fun v1 => (R32 v1) ∧ (((v1 = 0) → els M1) ∧ (¬ (v1 = 0) → (Q (.inl (st' : Int)) M1)))) (fun x => Q (.inr x) M1)) := by
    intro k st' els hk h1 h2
    refine (s_isWord (d := d + 2) (k := k) hk hT (Nat.le_of_lt hs) (te_le hs)).cal fun v1 M1 hM1 => ?_
    obtain ⟨rfl, rfl⟩ := hM1
    by_cases q : isW (M1 91) k s (te (M1 91) n s) = true
    · rw [if_pos q]
      exact ⟨⟨by decide, by decide⟩, fun h => absurd h (by decide), fun _ => h1 q⟩
    · rw [if_neg q]
      exact ⟨⟨by decide, by decide⟩, fun _ => h2 q, fun h => absurd rfl h⟩
  refine e_T_stateBehind (b_T_stateBehind_0 ?_)
  match st, hst with
  | 0, _ => exact ⟨⟨by decide, by decide⟩, fun _ => T1 _ _ _ (s_sbAt (d := d + 1) hT hs hc h90) fun v M' h => hQ v M' h, fun h => absurd rfl h⟩
  | 1, _ => exact ⟨⟨by decide, by decide⟩, fun h => absurd h (by decide), fun _ => ⟨fun _ => T1 _ _ _ (s_sbNumber (d := d + 1) (p := 0) (st := 2) hT hs hc (by decide) h90 (by decide)) fun v M' h => hQ v M' h, fun h => absurd rfl h⟩⟩
  | 2, _ =>
    refine ⟨⟨by decide, by decide⟩, fun h => absurd h (by decide), fun _ => ⟨fun h => absurd h (by decide), fun _ => ⟨fun _ => W 2 3 (fun M1 => Q (.inl (-1)) M1) (by decide) (fun q => hQ _ _ ?_) (fun q => hQ _ _ ?_), fun h => absurd rfl h⟩⟩⟩
    · show Sb M n s (if _ then _ else _) _ _
      rw [if_pos q]
      exact ⟨Fr.rfl', rfl, hc, rfl, rfl, fun h => absurd (show (3 : Nat) = 9 from h) (by decide), fun _ => rfl⟩
    · show Sb M n s (if _ then _ else _) _ _
      rw [if_neg q]
      exact ⟨Fr.rfl', rfl, hc, rfl, rfl, fun _ => rfl, fun h => absurd rfl h⟩
  | 3, _ => exact ⟨⟨by decide, by decide⟩, fun h => absurd h (by decide), fun _ => ⟨fun h => absurd h (by decide), fun _ => ⟨fun h => absurd h (by decide), fun _ => ⟨fun _ => T1 _ _ _ (s_sbNumber (d := d + 1) (p := 1) (st := 4) hT hs hc (by decide) h90 (by decide)) fun v M' h => hQ v M' h, fun h => absurd rfl h⟩⟩⟩⟩
  | 4, _ =>
    refine ⟨⟨by decide, by decide⟩, fun h => absurd h (by decide), fun _ => ⟨fun h => absurd h (by decide), fun _ => ⟨fun h => absurd h (by decide), fun _ => ⟨fun h => absurd h (by decide), fun _ => ⟨fun _ => W 3 5 (fun M1 => cald (d + 3) cT_stateBehindKind [oT, .inl (s : Int), .inl (te (M 91) n s : Nat)] M1 (fun r M2 => Rt r (fun v2 => Q (.inl v2) M2) (fun x => Q (.inr x) M2))) (by decide) (fun q => hQ _ _ ?_) (fun q => T1 _ _ _ (s_sbKind (d := d) hT hs hc) fun v M' h => hQ v M' ?_), fun h => absurd rfl h⟩⟩⟩⟩⟩
    · show Sb M n s (if _ then _ else _) _ _
      rw [if_pos q]
      exact ⟨Fr.rfl', rfl, hc, rfl, rfl, fun h => absurd (show (5 : Nat) = 9 from h) (by decide), fun _ => rfl⟩
    · show Sb M n s (if _ then _ else _) _ _
      rw [if_neg q]
      exact h
  | 5, _ => exact ⟨⟨by decide, by decide⟩, fun h => absurd h (by decide), fun _ => ⟨fun h => absurd h (by decide), fun _ => ⟨fun h => absurd h (by decide), fun _ => ⟨fun h => absurd h (by decide), fun _ => ⟨fun h => absurd h (by decide), fun _ => ⟨fun _ => T1 _ _ _ (s_sbNumber (d := d + 1) (p := 2) (st := 6) hT hs hc (by decide) h90 (by decide)) fun v M' h => hQ v M' h, fun h => absurd rfl h⟩⟩⟩⟩⟩⟩
  | 6, _ => exact ⟨⟨by decide, by decide⟩, fun h => absurd h (by decide), fun _ => ⟨fun h => absurd h (by decide), fun _ => ⟨fun h => absurd h (by decide), fun _ => ⟨fun h => absurd h (by decide), fun _ => ⟨fun h => absurd h (by decide), fun _ => ⟨fun h => absurd h (by decide), fun _ => ⟨fun _ => T1 _ _ _ (s_sbKind (d := d) hT hs hc) fun v M' h => hQ v M' h, fun h => absurd rfl h⟩⟩⟩⟩⟩⟩⟩
  | 7, _ => exact ⟨⟨by decide, by decide⟩, fun h => absurd h (by decide), fun _ => ⟨fun h => absurd h (by decide), fun _ => ⟨fun h => absurd h (by decide), fun _ => ⟨fun h => absurd h (by decide), fun _ => ⟨fun h => absurd h (by decide), fun _ => ⟨fun h => absurd h (by decide), fun _ => ⟨fun h => absurd h (by decide), fun _ => ⟨fun _ => T1 _ _ _ (s_sbNumber (d := d + 1) (p := 3) (st := 8) hT hs hc (by decide) h90 (by decide)) fun v M' h => hQ v M' h, fun h => absurd rfl h⟩⟩⟩⟩⟩⟩⟩⟩
  | 8, _ => exact ⟨⟨by decide, by decide⟩, fun h => absurd h (by decide), fun _ => ⟨fun h => absurd h (by decide), fun _ => ⟨fun h => absurd h (by decide), fun _ => ⟨fun h => absurd h (by decide), fun _ => ⟨fun h => absurd h (by decide), fun _ => ⟨fun h => absurd h (by decide), fun _ => ⟨fun h => absurd h (by decide), fun _ => ⟨fun h => absurd h (by decide), fun _ => T1 _ _ _ (s_sbEnd (d := d + 1) hT hs hc) fun v M' h => hQ v M' h⟩⟩⟩⟩⟩⟩⟩⟩
