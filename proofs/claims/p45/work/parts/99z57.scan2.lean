/-! The class's scan, whole. -/
theorem pEnd_st {t : Nat → Int} {n s c : Nat} {T : Nat → Int} : (pEnd t n s c T).1 ≤ 9 := by
  unfold pEnd
  by_cases q : isW t 5 s (te t n s) = true
  · rw [if_pos q]; exact (by decide : 0 ≤ 9)
  · rw [if_neg q]; exact Nat.le_refl 9
theorem pKind_st {t : Nat → Int} {n s c : Nat} {T : Nat → Int} : (pKind t n s c T).1 ≤ 9 := by
  unfold pKind
  by_cases q : isW t 4 s (te t n s) = true
  · rw [if_pos q]; exact (by decide : 7 ≤ 9)
  · rw [if_neg q]; exact pEnd_st
theorem pNum_st {t : Nat → Int} {n st p s c : Nat} {T : Nat → Int} (h : st ≤ 9) : (pNum t n st p s c T).1 ≤ 9 := by
  unfold pNum
  by_cases q : te t n s ≤ s + 4 ∧ isD (t s) = true
  · rw [if_pos q]; exact h
  · rw [if_neg q]; exact Nat.le_refl 9
theorem trn_st {t : Nat → Int} {n : Nat} : ∀ (st s c : Nat) (T : Nat → Int), st < 9 → (trn t n (st, s, c, T)).1 ≤ 9
  | 0, s, c, T, _ => by
    show (if isW t 1 s (te t n s) = true then _ else _ : PX).1 ≤ 9
    by_cases q : isW t 1 s (te t n s) = true
    · rw [if_pos q]; exact (by decide : 1 ≤ 9)
    · rw [if_neg q]; exact Nat.le_refl 9
  | 1, s, c, T, _ => pNum_st (by decide)
  | 2, s, c, T, _ => by
    show (if isW t 2 s (te t n s) = true then _ else _ : PX).1 ≤ 9
    by_cases q : isW t 2 s (te t n s) = true
    · rw [if_pos q]; exact (by decide : 3 ≤ 9)
    · rw [if_neg q]; exact Nat.le_refl 9
  | 3, s, c, T, _ => pNum_st (by decide)
  | 4, s, c, T, _ => by
    show (if isW t 3 s (te t n s) = true then _ else _ : PX).1 ≤ 9
    by_cases q : isW t 3 s (te t n s) = true
    · rw [if_pos q]; exact (by decide : 5 ≤ 9)
    · rw [if_neg q]; exact pKind_st
  | 5, s, c, T, _ => pNum_st (by decide)
  | 6, s, c, T, _ => pKind_st
  | 7, s, c, T, _ => pNum_st (by decide)
  | 8, s, c, T, _ => pEnd_st
  | k + 9, _, _, _, h => absurd h (by omega)
theorem skB_le {t : Nat → Int} {n s : Nat} (hs : s ≤ n) : skB t n s ≤ n := rnn_le _ s (Nat.le_refl _) hs
theorem scan_end {d : Nat} {Q : Rs → Mem → Prop} {M : Mem} {n st s c : Nat} (hl : M 93 1 = n) (hst : st < 9) (hs : n ≤ s)
    (hQ : Q (.inl (pFault n (st, s, c, M 92))) M) : (R32 (st : Int)) ∧ (((¬ (st : Int) = 0) → (Q (.inl (M 93 1)) M)) ∧ (¬ (¬ (st : Int) = 0) → (Q (.inl (-1)) M))) := by
  unfold pFault at hQ
  refine ⟨⟨by omega, by omega⟩, fun h => ?_, fun h => ?_⟩
  · rw [if_neg (show ¬ (st, s, c, M 92).1 = 9 from by show ¬ st = 9; omega), if_neg (show ¬ (st, s, c, M 92).1 = 0 from by show ¬ st = 0; omega)] at hQ
    rw [hl]; exact hQ
  · have e : st = 0 := by omega
    subst e
    exact hQ
theorem scan_loop {d : Nat} {Q : Rs → Mem → Prop} {M0 : Mem} {n : Nat} (hT0 : TP M0 n) : ∀ (k tok st s c : Nat) (M : Mem) (o4 : Option PV), tok + k = 900 → tok ≤ s → s ≤ n → st < 9 → 10 * c + mlen st ≤ s → Fr [92, 93] M0 M → M 93 1 = M0 93 1 → M 93 2 = c →
    (∀ M' a, pFin n (stpN (M0 91) n a (st, s, c, M 92)) → Fr [92, 93] M0 M' → M' 93 1 = M0 93 1 → M' 93 2 = (stpN (M0 91) n a (st, s, c, M 92)).2.2.1 → M' 92 = (stpN (M0 91) n a (st, s, c, M 92)).2.2.2 → Q (.inl (pFault n (stpN (M0 91) n a (st, s, c, M 92)))) M') → L_T_scan_11 (d + 5) Q M (st : Int) (s : Int) (tok : Int) o4
  | 0, tok, st, s, c, M, o4, hk, htk, hs, hst, hok, hf, hl, hc, hQ => by
    have h9 := hT0.2.1
    refine b_T_scan_11 ⟨⟨by omega, by omega⟩, fun _ => scan_end (d := d) (c := c) (hl.trans hT0.1) hst (by omega) (hQ M 0 (fun z => by have := z.1; simp only [stpN] at this; omega) hf hl hc rfl), fun h => absurd (by omega) h⟩
  | k + 1, tok, st, s, c, M, o4, hk, htk, hs, hst, hok, hf, hl, hc, hQ => by
    have h9 := hT0.2.1
    have hln : M 93 1 = n := hl.trans hT0.1
    refine b_T_scan_11 ⟨⟨by omega, by omega⟩, fun h => absurd h (by omega), fun _ => ⟨⟨by omega, by omega⟩, ⟨by omega, by omega⟩, fun h => ?_, fun h => ?_⟩⟩
    · exact scan_end (d := d) (c := c) hln hst (by omega) (hQ M 0 (fun z => by have := z.1; simp only [stpN] at this; omega) hf hl hc rfl)
    · have hsn : s < n := by omega
      have e91 : M 91 = M0 91 := hf 91 (by decide)
      have hT : TP M n := hT0.fr e91 hl
      have hte := te_le (t := M 91) hsn
      refine (s_endOfToken (d := d + 3) hT hsn).cal fun v1 M1 hM1 => ?_
      obtain ⟨rfl, rfl⟩ := hM1
      refine (s_stateBehind (d := d + 1) hT hsn hc (by omega) hst).cal fun v2 M2 hM2 => ?_
      obtain ⟨g1, g2, g3, g4, g5, g6, g7⟩ := hM2
      rw [e91] at *
      have estp : stp (M0 91) n (st, s, c, M1 92) = trn (M0 91) n (st, s, c, M1 92) := if_pos ⟨hsn, hst⟩
      have hx9 := trn_st (t := M0 91) (n := n) st s c (M1 92) hst
      have hx := trn_ok (t := M0 91) (n := n) (T := M1 92) hok
      have hone : ∀ a, stpN (M0 91) n (a + 1) (st, s, c, M1 92) = stpN (M0 91) n a (trn (M0 91) n (st, s, c, M1 92)) := fun a => by
        show stpN (M0 91) n a (stp (M0 91) n _) = _
        rw [estp]
      generalize trn (M0 91) n (st, s, c, M1 92) = x at *
      obtain ⟨st', s', c', T'⟩ := x
      dsimp only at g3 g4 g5 g6 g7 hx9
      have F2 : Fr [92, 93] M0 M2 := hf.tr g1
      by_cases q : st' = 9
      · rw [if_pos q] at g5
        subst g5
        refine ⟨⟨by decide, by decide⟩, fun h => absurd rfl h, fun _ => ?_⟩
        have := hQ M2 1 (by rw [hone 0]; exact fun z => by have := z.2; simp only [stpN] at this; omega) F2 (g2.trans hl) (by rw [hone 0]; exact g3) (by rw [hone 0]; exact g4)
        rw [hone 0] at this
        subst q
        have e : pFault n (stpN (M0 91) n 0 (9, s', c', T')) = (s' : Int) := rfl
        rw [e, g6 rfl] at this
        exact this
      · rw [if_neg q] at g5
        subst g5
        refine ⟨⟨by omega, by omega⟩, fun _ => ?_, fun h => absurd (by omega) h⟩
        have hT2 : TP M2 n := hT0.fr (F2 91 (by decide)) (g2.trans hl)
        refine (s_skipBlanks (d := d + 4) (s := te (M0 91) n s) hT2 hte).cal fun v3 M3 hM3 => ?_
        obtain ⟨rfl, rfl⟩ := hM3
        rw [F2 91 (by decide), ← g7 q]
        have htg := te_gt (t := M0 91) (n := n) (s := s)
        have hsk := skB_ge (t := M0 91) (n := n) (s := te (M0 91) n s)
        have hsl := skB_le (t := M0 91) (n := n) (s := te (M0 91) n s) hte
        have ok' : 10 * c' + mlen st' ≤ s' := by
          rcases hx with z | z
          · rcases z with z | z
            · exact absurd z q
            · exact z
          · cases z
            omega
        refine scan_loop hT0 k (tok + 1) st' s' c' M3 _ (by omega) (by rw [g7 q]; omega) (by rw [g7 q]; omega) (by omega) ok' F2 (g2.trans hl) g3 fun M' a k1 k2 k3 k4 k5 => ?_
        rw [g4, ← hone a] at k1 k4 k5 ⊢
        exact hQ M' (a + 1) k1 k2 k3 k4 k5
/-- the machine's end from the start of a tape -/
def pRun (t : Nat → Int) (n : Nat) (T : Nat → Int) (y : PX) : Prop := pFin n y ∧ ∃ a, stpN t n a (0, skB t n 0, 0, T) = y
theorem s_scan {d : Nat} {M : Mem} {n : Nat} (hT : TP M n) : Post (d + 6) cT_scan [oT] M (fun v M' => Fr [92, 93] M M' ∧ M' 93 1 = M 93 1 ∧ ∃ y, pRun (M 91) n (M 92) y ∧ M' 93 2 = y.2.2.1 ∧ M' 92 = y.2.2.2 ∧ v = pFault n y) := by
  intro Q hQ
  refine e_T_scan (b_T_scan_0 ?_)
  have F0 : Fr [92, 93] M (upd2 M 93 2 0) := Fr.rfl'.u2 (by simp)
  have l0 : (upd2 M 93 2 0) 93 1 = M 93 1 := u2_ne (by decide)
  have e91 : (upd2 M 93 2 0) 91 = M 91 := u2_off (by decide)
  refine (s_skipBlanks (d := d + 4) (s := 0) (hT.fr e91 l0) (Nat.zero_le n)).cal fun v1 M1 hM1 => ?_
  obtain ⟨rfl, rfl⟩ := hM1
  rw [e91]
  refine scan_loop (d := d) hT 900 0 0 (skB (M 91) n 0) 0 _ _ rfl (Nat.zero_le _) (skB_le (Nat.zero_le n)) (by decide) (Nat.zero_le _) F0 l0 u2_same fun M' a k1 k2 k3 k4 k5 => ?_
  rw [u2_off (by decide)] at k1 k4 k5 ⊢
  exact hQ _ M' ⟨k2, k3, _, ⟨k1, a, rfl⟩, k4, k5, rfl⟩
