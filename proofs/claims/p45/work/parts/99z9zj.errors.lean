/-! errors: plays, bursts, all together. -/
theorem s_Eholds {d : Nat} {M : Mem} {b a p : Int} {n m : Nat} {L B P J : Nat → Int} (hE : CE M b a p n L B P) (hO : eOk b a p n L B P) (hV : VJ m J) (hJ : M 94 = J) (hm : M 117 0 = m) : Post (d + 2) cE_holds [oE, oJ] M (fun v M' => M' = M ∧ ((v = 1 ∧ fitOk m J b a p) ∨ (v = 0 ∧ ¬ fitOk m J b a p))) := by
  intro Q hQ
  obtain ⟨c0, c1, c2, -, -, -⟩ := hE
  obtain ⟨o1, o2, o3, -, -⟩ := hO
  have h24 := hV.1
  refine e_E_holds (b_E_holds_0 ?_)
  have no' : ¬ fitOk m J b a p → Q (.inl 0) M := fun h => hQ _ _ ⟨rfl, Or.inr ⟨rfl, h⟩⟩
  have yes' : fitOk m J b a p → Q (.inl 1) M := fun h => hQ _ _ ⟨rfl, Or.inl ⟨rfl, h⟩⟩
  have inner : ∀ (i : Nat), i < m → (∀ o3 o4 o5 o6 o7, L_E_holds_2 (d + 1) Q M ((i : Int) + 1) o3 o4 o5 o6 o7 ∨ ¬ (∀ k, i ≤ k → k < m → (wTo J (k + 1) - wTo J i - b) * p ≤ (J (4 * k) - J (4 * i)) * a)) → ∀ (f k : Nat), k + f = m → i ≤ k → (∀ k', i ≤ k' → k' < k → (wTo J (k' + 1) - wTo J i - b) * p ≤ (J (4 * k') - J (4 * i)) * a) → ∀ o6 o7, L_E_holds_10 (d + 1) Q M (i : Int) (wTo J k - wTo J i) (k : Int) o6 o7 := by
    intro i hi nx f
    induction f with
    | zero =>
      intro k hk hik hall o6 o7
      have hk : k = m := by omega
      subst hk
      refine b_E_holds_10 ?_
      rw [hm]
      refine ⟨⟨by omega, by omega⟩, ⟨by omega, by omega⟩, fun _ => ?_, fun z => absurd (Int.le_refl _) z⟩
      rcases nx (some (.inr (.inl (wTo J k - wTo J i)))) none (some (.inl (k : Int))) o6 o7 with h | h
      · exact h
      · exact absurd hall h
    | succ f ih =>
      intro k hk hik hall o6 o7
      refine b_E_holds_10 ?_
      rw [hm]
      refine ⟨⟨by omega, by omega⟩, ⟨by omega, by omega⟩, fun z => absurd z (by omega), fun _ => ?_⟩
      refine (s_Jpart (d := d) (k := k) (p := 1) (by omega) (by decide)).cal fun v1 M1 hM1 => ?_
      obtain ⟨rfl, rfl⟩ := hM1
      have q1 := hV.2.1 k (by omega)
      have q2 := hV.2.1 i (by omega)
      unfold jobOk at q1 q2
      rw [hJ]
      refine ⟨⟨by omega, by omega⟩, ?_⟩
      refine (s_Jpart (d := d) (k := k) (p := 0) (by omega) (by decide)).cal fun v2 M2 hM2 => ?_
      obtain ⟨rfl, rfl⟩ := hM2
      refine (s_Jpart (d := d) (k := i) (p := 0) (by omega) (by decide)).cal fun v3 M3 hM3 => ?_
      obtain ⟨rfl, rfl⟩ := hM3
      rw [hJ, Nat.add_zero, Nat.add_zero, c0, c1, c2]
      have w1 := wTo_r hV k (by omega)
      have w2 := wTo_r hV i (by omega)
      have e : wTo J k - wTo J i + J (4 * k + 1) = wTo J (k + 1) - wTo J i := by
        show wTo J k - wTo J i + J (4 * k + 1) = wTo J k + J (4 * k + 1) - wTo J i
        omega
      have w3 := prod_a (x := wTo J k - wTo J i + J (4 * k + 1) - b) (y := p) (k := 4000) (l := 99) ⟨by omega, by omega⟩ ⟨by omega, by omega⟩ (by decide)
      have w4 := prod_a (x := J (4 * k) - J (4 * i)) (y := a) (k := 500) (l := 99) ⟨by omega, by omega⟩ ⟨by omega, by omega⟩ (by decide)
      refine ⟨⟨by omega, by omega⟩, ⟨by omega, by omega⟩, ⟨by omega, by omega⟩, ⟨by omega, by omega⟩, ⟨by omega, by omega⟩, ⟨by omega, by omega⟩, fun z => ?_, fun z => ?_⟩
      · rw [e] at z ⊢
        rw [show (k : Int) + 1 = ((k + 1 : Nat) : Int) by omega]
        refine ih (k + 1) (by omega) (by omega) (fun k' h1 h2 => ?_) _ _
        by_cases ee : k' = k
        · rw [ee]; exact z
        · exact hall k' h1 (by omega)
      · rw [e] at z
        exact no' fun h => z (h i k hik (by omega))
  have outer : ∀ (f i : Nat), i + f = m → (∀ i' k, i' < i → i' ≤ k → k < m → (wTo J (k + 1) - wTo J i' - b) * p ≤ (J (4 * k) - J (4 * i')) * a) → ∀ o3 o4 o5 o6 o7, L_E_holds_2 (d + 1) Q M (i : Int) o3 o4 o5 o6 o7 := by
    intro f
    induction f with
    | zero =>
      intro i hi hall o3 o4 o5 o6 o7
      refine b_E_holds_2 ?_
      rw [hm]
      exact ⟨⟨by omega, by omega⟩, ⟨by omega, by omega⟩, fun _ => yes' fun i' k h1 h2 => hall i' k (by omega) h1 h2, fun z => absurd (by omega) z⟩
    | succ f ih =>
      intro i hi hall o3 o4 o5 o6 o7
      refine b_E_holds_2 ?_
      rw [hm]
      refine ⟨⟨by omega, by omega⟩, ⟨by omega, by omega⟩, fun z => absurd z (by omega), fun _ => ?_⟩
      have g := inner i (by omega) (fun p3 p4 p5 p6 p7 => ?_) (m - i) i (by omega) (Nat.le_refl i) (fun k' h1 h2 => absurd h1 (by omega)) o6 o7
      · rw [Int.sub_self] at g
        exact g
      · by_cases c : ∀ k, i ≤ k → k < m → (wTo J (k + 1) - wTo J i - b) * p ≤ (J (4 * k) - J (4 * i)) * a
        · refine Or.inl ?_
          have := ih (i + 1) (by omega) (fun i' k h1 h2 h3 => ?_) p3 p4 p5 p6 p7
          · rw [show ((i + 1 : Nat) : Int) = (i : Int) + 1 by omega] at this
            exact this
          · by_cases ee : i' = i
            · rw [ee] at h2 ⊢; exact c k h2 h3
            · exact hall i' k (by omega) h2 h3
        · exact Or.inr c
  exact outer m 0 (by omega) (fun i' k h => absurd h (Nat.not_lt_zero i')) _ _ _ _ _
def flg (P : Prop) (x : Int) : Prop := (x = 0 ∧ P) ∨ (x = 1 ∧ ¬ P)
theorem flg.uniq {P : Prop} {x y : Int} (h : flg P x) (h2 : flg P y) : x = y := by
  rcases h with ⟨rfl, h⟩ | ⟨rfl, h⟩ <;> rcases h2 with ⟨rfl, h2⟩ | ⟨rfl, h2⟩
  · rfl
  · exact absurd h h2
  · exact absurd h2 h
  · rfl
theorem flg.r {P : Prop} {x : Int} (h : flg P x) : 0 ≤ x ∧ x ≤ 1 := by
  rcases h with ⟨rfl, _⟩ | ⟨rfl, _⟩ <;> exact ⟨by decide, by decide⟩
def nmF (n : Nat) (J : Nat → Int) (many by_ space wait : Int) (s : Nat) : Int := sNum (sMid n J many by_ space wait (s : Int) (sAt n J many by_ space wait s))
theorem nmF_r {n : Nat} {J : Nat → Int} {many by_ space wait : Int} (hV : VJ n J) (hm : 1 ≤ many) (s : Nat) : 0 ≤ nmF n J many by_ space wait s ∧ nmF n J many by_ space wait s ≤ 24 := by
  have h24 := hV.1
  obtain ⟨h1, _, _, _, _, _, _, h2, _⟩ := mid_pvi (by_ := by_) (space := space) (wait := wait) (t := (s : Int)) (by omega) hV (at_inv (by_ := by_) (space := space) (wait := wait) hV hm s).1
  unfold nmF sNum
  omega
theorem sumN_24 {f : Nat → Int} (h : ∀ s, 0 ≤ f s ∧ f s ≤ 24) : ∀ T : Nat, 0 ≤ sumN f T ∧ sumN f T ≤ 24 * (T : Int) := by
  intro T
  induction T with
  | zero => exact ⟨Int.le_refl 0, Int.le_refl 0⟩
  | succ T ih =>
    have := h T
    show 0 ≤ sumN f T + f T ∧ sumN f T + f T ≤ 24 * ((T + 1 : Nat) : Int)
    omega
def e1P (n : Nat) (J : Nat → Int) (many by_ space wait : Int) : Prop := ∀ T, PT n J many by_ space wait T → sumN (nmF n J many by_ space wait) T = pSum n J many by_ space wait T
def e2P (n : Nat) (J : Nat → Int) : Prop := ∀ r : Nat, r < 6 → ∀ T U, PT n J 1 5 24 999 T → PT n J 1 (r : Int) 24 999 U → pSum n J 1 5 24 999 T ≤ pSum n J 1 (r : Int) 24 999 U
def e4P (n : Nat) (C S : Nat → Int) (A : Nat → Nat → Int) : Prop := closedOk n C A → styA n S A
def e5P (n : Nat) (J : Nat → Int) (b a p : Int) : Prop := a ≤ p → fitOk n J b a p → ∀ T, PT n J 1 0 24 999 T → maxN (pTime n J 1 0 24 999 T) n ≤ b
def e6P (C S : Nat → Int) : Prop := gBal C S (gCh C S 0 10)
theorem e1P.iff {n : Nat} {J : Nat → Int} {many by_ space wait : Int} {T : Nat} (h : PT n J many by_ space wait T) : e1P n J many by_ space wait ↔ sumN (nmF n J many by_ space wait) T = pSum n J many by_ space wait T :=
  ⟨fun q => q T h, fun q U hU => by rw [hU.uniq h]; exact q⟩
theorem gBal_congr {C S ch ch' : Nat → Int} (h : ∀ l, l < 3 → ch l = ch' l) : gBal C S ch ↔ gBal C S ch' := by
  unfold gBal
  constructor
  · intro q a b ha hb hn hp
    rw [← h a ha] at hp ⊢
    rw [← h b hb]
    exact q a b ha hb hn hp
  · intro q a b ha hb hn hp
    rw [h a ha] at hp ⊢
    rw [h b hb]
    exact q a b ha hb hn hp
theorem lineC.kept {M M' : Mem} {n : Nat} {J : Nat → Int} {many by_ space wait : Int} {l : List Nat} (h : lineC M n J many by_ space wait) (hf : Fr l M M') (h1 : 54 ∉ l) (h2 : 55 ∉ l) (h3 : 56 ∉ l) (h4 : 57 ∉ l) (h5 : 58 ∉ l) (h7 : M' 149 7 = M 149 7) : lineC M' n J many by_ space wait := by
  unfold lineC at h ⊢
  unfold RunC at h ⊢
  rw [hf 54 h1, hf (54 + 1) h2, hf (54 + 2) h3, hf (54 + 3) h4, hf (54 + 4) h5, h7]
  exact h
theorem freeC.kept {M M' : Mem} {n : Nat} {J : Nat → Int} {l : List Nat} (h : freeC M n J) (hf : Fr l M M') (h1 : 148 ∉ l) (h6 : M' 149 6 = M 149 6) : freeC M' n J := by
  unfold freeC at h ⊢
  rw [hf 148 h1, h6]
  exact h
abbrev freeL : List Nat := 148 :: 149 :: pcs 63
/-- one of the sums is less -/
theorem s_isLeastSumLeast {d : Nat} {M : Mem} {n : Nat} {J : Nat → Int} (hV : VJ n J) (hn : M 117 0 = n) (hJ : M 94 = J) (h : freeC M n J) : Post (d + 6) cQ_isLeastSumLeast [oQ] M (fun v M' => Fr freeL M M' ∧ (∀ s, s ≠ 6 → M' 149 s = M 149 s) ∧ freeC M' n J ∧ ((v = 1 ∧ e2P n J) ∨ (v = 0 ∧ ¬ e2P n J))) := by
  intro Q hQ
  refine e_Q_isLeastSumLeast (b_Q_isLeastSumLeast_0 ?_)
  refine (s_freeSum (d := d) (r := 5) hV hn hJ h (by decide)).cal fun v1 M1 hM1 => ?_
  obtain ⟨f1, k1, c1, ⟨T, hT, rfl⟩, _⟩ := hM1
  have rT : -50000 ≤ pSum n J 1 5 24 999 T ∧ pSum n J 1 5 24 999 T ≤ 50000 := pSum_r hV (by decide) hT
  have loop : ∀ (f k : Nat), k + f = 6 → ∀ M2, Fr freeL M M2 → (∀ s, s ≠ 6 → M2 149 s = M 149 s) → freeC M2 n J → (∀ r : Nat, r < k → ∀ U, PT n J 1 (r : Int) 24 999 U → pSum n J 1 5 24 999 T ≤ pSum n J 1 (r : Int) 24 999 U) → L_Q_isLeastSumLeast_6 (d + 5) Q M2 (pSum n J 1 5 24 999 T) (k : Int) := by
    intro f
    induction f with
    | zero =>
      intro k hk M2 f2 k2 c2 hall
      have hk : k = 6 := by omega
      subst hk
      exact b_Q_isLeastSumLeast_6 ⟨⟨by decide, by decide⟩, fun _ => hQ _ _ ⟨f2, k2, c2, Or.inl ⟨rfl, fun r hr T' U hT' hU => by rw [hT'.uniq hT]; exact hall r hr U hU⟩⟩, fun z => absurd (by decide) z⟩
    | succ f ih =>
      intro k hk M2 f2 k2 c2 hall
      refine b_Q_isLeastSumLeast_6 ⟨⟨by omega, by omega⟩, fun z => absurd z (by omega), fun _ => ?_⟩
      refine (s_freeSum (d := d) (r := k) hV (by rw [f2 117 (by decide)]; exact hn) (by rw [f2 94 (by decide)]; exact hJ) c2 (by omega)).cal fun v3 M3 hM3 => ?_
      obtain ⟨f3, k3, c3, ⟨U, hU, rfl⟩, _⟩ := hM3
      have rU := pSum_r hV (by decide) hU
      have F := f2.tr f3
      have K : ∀ s, s ≠ 6 → M3 149 s = M 149 s := fun s hs => (k3 s hs).trans (k2 s hs)
      refine ⟨⟨by omega, by omega⟩, ⟨by omega, by omega⟩, fun z => ?_, fun z => hQ _ _ ⟨F, K, c3, Or.inr ⟨rfl, fun h => z (h k (by omega) T U hT hU)⟩⟩⟩
      rw [show (k : Int) + 1 = ((k + 1 : Nat) : Int) by omega]
      refine ih (k + 1) (by omega) M3 F K c3 fun r hr U' hU' => ?_
      by_cases e : r = k
      · subst e; rw [hU'.uniq hU]; exact z
      · exact hall r (by omega) U' hU'
  exact loop 6 0 (by decide) M1 f1 k1 c1 fun r h => absurd h (Nat.not_lt_zero r)
theorem s_areTimesWithin {d : Nat} {M : Mem} {b a p : Int} {n m : Nat} {L B P J : Nat → Int} (hE : CE M b a p m L B P) (hO : eOk b a p m L B P) (hV : VJ n J) (hn : M 117 0 = n) (hJ : M 94 = J) (h : freeC M n J) : Post (d + 6) cQ_areTimesWithinBurst [oQ] M (fun v M' => Fr freeL M M' ∧ (∀ s, s ≠ 6 → M' 149 s = M 149 s) ∧ freeC M' n J ∧ ((v = 1 ∧ e5P n J b a p) ∨ (v = 0 ∧ ¬ e5P n J b a p))) := by
  intro Q hQ
  have o := hO
  obtain ⟨o1, o2, o3, -, -⟩ := o
  have ce := hE
  obtain ⟨c0, c1, c2, -, -, -⟩ := ce
  refine e_Q_areTimesWithinBurst (b_Q_areTimesWithinBurst_0 ?_)
  rw [c1, c2]
  refine ⟨⟨by omega, by omega⟩, ⟨by omega, by omega⟩, fun z => hQ _ _ ⟨Fr.rfl', fun _ _ => rfl, h, Or.inl ⟨rfl, fun q => absurd q (by omega)⟩⟩, fun z => ?_⟩
  refine (s_Eholds (d := d + 3) hE hO hV hJ hn).cal fun v1 M1 hM1 => ?_
  obtain ⟨rfl, ⟨rfl, g⟩ | ⟨rfl, g⟩⟩ := hM1
  · refine ⟨⟨by decide, by decide⟩, fun _ => ?_, fun z => absurd (by decide) z⟩
    refine (s_freeSum (d := d) (r := 0) hV hn hJ h (by decide)).cal fun v2 M2 hM2 => ?_
    obtain ⟨f2, k2, c2', _, ne⟩ := hM2
    obtain ⟨T, hT, e6⟩ := c2'.2 ne
    have hb : ∀ k, k < n → pTime n J 1 0 24 999 T k ≤ 2000 := fun k hk => by
      obtain ⟨_, _, h3, h4⟩ := hT.job hV (by decide) hk
      unfold pTime
      omega
    have hr := maxN_r n hb
    rw [e6, f2 143 (by decide), c0]
    refine ⟨⟨by omega, by omega⟩, ⟨by omega, by omega⟩, fun z => hQ _ _ ⟨f2, k2, c2', Or.inr ⟨rfl, fun h => ?_⟩⟩, fun z => hQ _ _ ⟨f2, k2, c2', Or.inl ⟨rfl, fun _ _ U hU => ?_⟩⟩⟩
    · have := h (by omega) g T hT
      omega
    · rw [hU.uniq hT]
      omega
  · exact ⟨⟨by decide, by decide⟩, fun z => absurd rfl z, fun _ => hQ _ _ ⟨Fr.rfl', fun _ _ => rfl, h, Or.inl ⟨rfl, fun _ q => absurd q g⟩⟩⟩
def errV (n : Nat) (J : Nat → Int) (many by_ space wait : Int) (k : Nat) (C S : Nat → Int) (A : Nat → Nat → Int) (b a p : Int) (GC GS : Nat → Int) (v : Int) : Prop := ∃ x1 x2 x4 x5 x6 : Int, flg (e1P n J many by_ space wait) x1 ∧ flg (e2P n J) x2 ∧ flg (e4P k C S A) x4 ∧ flg (e5P n J b a p) x5 ∧ flg (e6P GC GS) x6 ∧ v = x1 + x2 + x4 + x5 + x6
theorem errV.uniq {n : Nat} {J : Nat → Int} {many by_ space wait : Int} {k : Nat} {C S : Nat → Int} {A : Nat → Nat → Int} {b a p : Int} {GC GS : Nat → Int} {v w : Int} (h : errV n J many by_ space wait k C S A b a p GC GS v) (h2 : errV n J many by_ space wait k C S A b a p GC GS w) : v = w := by
  obtain ⟨x1, x2, x4, x5, x6, h1, h2', h4, h5, h6, rfl⟩ := h
  obtain ⟨y1, y2, y4, y5, y6, g1, g2, g4, g5, g6, rfl⟩ := h2
  rw [h1.uniq g1, h2'.uniq g2, h4.uniq g4, h5.uniq g5, h6.uniq g6]
abbrev errC : List Nat := [148, 149, 54, 55, 56, 57, 58, 59, 60, 61, 62, 63, 64, 65, 66, 67, 68, 69, 70, 71, 126, 127, 74, 75, 76, 77, 78, 79, 80, 139, 48, 49, 50, 51, 52, 53, 141, 83, 84, 85, 86, 87, 88, 89, 146]
theorem s_Qerrors {d : Nat} {M : Mem} {n : Nat} {J : Nat → Int} {many by_ space wait : Int} {c : Nat} {cb : Int} {cA : Nat → Nat → Int} {k : Nat} {C S : Nat → Int} {A : Nat → Nat → Int} {b a p : Int} {m : Nat} {L B P GC GS : Nat → Int}
    (hV : VJ n J) (hn : M 117 0 = n) (hJ : M 94 = J) (hl : lineC M n J many by_ space wait) (hF : freeC M n J) (hC : CC M c cb cA) (hcO : cOk c cb cA) (hN : NC M k C S A) (hO : nOk k C S A) (hz : AZ M) (hE : CE M b a p m L B P) (heO : eOk b a p m L B P) (hg : gOk GC GS) (h144 : M 144 = GC) (h145 : M 145 = GS) :
    Post (d + 8) cQ_errors [oQ] M (fun v M' => Fr errC M M' ∧ (∀ s, s ≠ 6 → s ≠ 7 → M' 149 s = M 149 s) ∧ lineC M' n J many by_ space wait ∧ freeC M' n J ∧ AZ M' ∧ errV n J many by_ space wait k C S A b a p GC GS v) := by
  intro Q hQ
  have hok := hl.2.2.2.2.1
  have hm1 := hok.1.1
  refine e_Q_errors (b_Q_errors_0 ?_)
  refine (s_playLine' (d := d + 2) hV hn hJ hl).cal fun v1 M1 hM1 => ?_
  obtain ⟨⟨f1, s1, l1⟩, T, hT⟩ := hM1
  have hPT := hT.pt
  have e94 : M1 94 = J := by rw [f1 94 (by decide)]; exact hJ
  have e117 : M1 117 0 = n := by rw [f1 117 (by decide)]; exact hn
  have hTl := hPT.le hV hm1
  refine (s_sumOfNumbers (d := d + 6) (T := T) (f := nmF n J many by_ space wait) iP1 hT.2.2.1 (by omega) (fun s hs => hT.2.2.2.1 s hs)).cal fun v2 M2 hM2 => ?_
  obtain ⟨rfl, rfl⟩ := hM2
  refine (s_sumOfTimes (d := d + 4) (n := n) (f := pTime n J many by_ space wait T) iP1 e117 hV.1 (fun q hq => by rw [(hT.2.2.2.2 q hq).2.2, e94]; rfl)).cal fun v3 M3 hM3 => ?_
  obtain ⟨rfl, rfl⟩ := hM3
  have es : sumN (pTime n J many by_ space wait T) n = pSum n J many by_ space wait T := rfl
  rw [es]
  have rn := sumN_24 (nmF_r (by_ := by_) (space := space) (wait := wait) hV hm1) T
  have rp := pSum_r hV hm1 hPT
  have F1 : Fr errC M M3 := f1.mono (by simp)
  have z1 : AZ M3 := hz.fr f1 fun r hr hm => by
    obtain ⟨r1, r2⟩ := hr
    simp at hm
    omega
  have c1 : freeC M3 n J := hF.kept f1 (by decide) (s1 6 (by decide))
  -- behind the first check
  have go1 : ∀ x1, flg (e1P n J many by_ space wait) x1 → L_Q_errors_15 (d + 7) Q M3 x1 := fun x1 h1 => by
    refine b_Q_errors_15 ?_
    refine (s_isLeastSumLeast (d := d + 1) hV e117 e94 c1).cal fun v4 M4 hM4 => ?_
    obtain ⟨f4, s4, c4, hv4⟩ := hM4
    have F4 : Fr errC M M4 := F1.tr (f4.mono (by simp))
    have z4 : AZ M4 := z1.fr f4 fun r hr hm => by
      obtain ⟨r1, r2⟩ := hr
      simp at hm
      omega
    have l4 : lineC M4 n J many by_ space wait := l1.kept f4 (by decide) (by decide) (by decide) (by decide) (by decide) (s4 7 (by decide))
    have S4 : ∀ s, s ≠ 6 → s ≠ 7 → M4 149 s = M 149 s := fun s h6 h7 => (s4 s h6).trans (s1 s h7)
    have go2 : ∀ x2, flg (e2P n J) x2 → L_Q_errors_24 (d + 7) Q M4 (x1 + x2) := fun x2 h2 => by
      refine b_Q_errors_24 ?_
      have C4 : CC M4 c cb cA := hC.kept F4 (by decide) fun i hi => by simp; omega
      have st3 : ∀ M5, Fr styC M4 M5 → L_Q_errors_38 (d + 7) Q M5 (x1 + x2) := fun M5 f5 => by
        have F5 : Fr errC M M5 := F4.tr (f5.mono (by simp))
        have N5 : NC M5 k C S A := hN.kept F5 (by decide) (by decide) (by decide) fun i hi => by simp; omega
        have z5 : AZ M5 := z4.fr f5 fun r hr hm => by
          obtain ⟨r1, r2⟩ := hr
          simp at hm
          omega
        refine b_Q_errors_38 ?_
        refine (s_isWithoutOutside (d := d + 4) N5 hO).cal fun v6 M6 hM6 => ?_
        obtain ⟨f6, hv6⟩ := hM6
        have go4 : ∀ x4 M7, flg (e4P k C S A) x4 → Fr errC M M7 → AZ M7 → Fr (139 :: nssC) M5 M7 → L_Q_errors_52 (d + 7) Q M7 (x1 + x2 + x4) := fun x4 M7 h4 F7 z7 f57 => by
          have l7 : lineC M7 n J many by_ space wait := (l4.kept f5 (by decide) (by decide) (by decide) (by decide) (by decide) (by rw [f5 149 (by decide)])).kept f57 (by decide) (by decide) (by decide) (by decide) (by decide) (by rw [f57 149 (by decide)])
          have c7 : freeC M7 n J := (c4.kept f5 (by decide) (by rw [f5 149 (by decide)])).kept f57 (by decide) (by rw [f57 149 (by decide)])
          have S7 : ∀ s, s ≠ 6 → s ≠ 7 → M7 149 s = M 149 s := fun s h6 h7 => by rw [f57 149 (by decide), f5 149 (by decide)]; exact S4 s h6 h7
          have E7 : CE M7 b a p m L B P := by unfold CE at hE ⊢; rw [F7 143 (by decide)]; exact hE
          refine b_Q_errors_52 ?_
          refine (s_areTimesWithin (d := d + 1) E7 heO hV (by rw [F7 117 (by decide)]; exact hn) (by rw [F7 94 (by decide)]; exact hJ) c7).cal fun v8 M8 hM8 => ?_
          obtain ⟨f8, s8, c8, hv8⟩ := hM8
          have F8 : Fr errC M M8 := F7.tr (f8.mono (by simp))
          have z8 : AZ M8 := z7.fr f8 fun r hr hm => by
            obtain ⟨r1, r2⟩ := hr
            simp at hm
            omega
          have l8 : lineC M8 n J many by_ space wait := l7.kept f8 (by decide) (by decide) (by decide) (by decide) (by decide) (s8 7 (by decide))
          have fin : ∀ x5, flg (e5P n J b a p) x5 → cald (d + 7) cG_choose [oG, .inl 10, .inl 0] M8 (fun r M2 => Rt r (fun _v2 => cald (d + 7) cG_isNobodyBetterOff [oG] M2 (fun r M3 => Rt r (fun v3 => R32 v3 ∧ ((v3 = 0 → Q (.inl ((x1 + x2 + x4 + x5) + 1)) M3) ∧ (¬ v3 = 0 → Q (.inl ((x1 + x2 + x4 + x5) + 0)) M3))) (fun x => Q (.inr x) M3))) (fun x => Q (.inr x) M2)) := fun x5 h5 => by
            refine (s_Gchoose (d := d + 4) (P := 10) hg (by rw [F8 144 (by decide)]; exact h144) (by rw [F8 145 (by decide)]; exact h145) ⟨by decide, by decide⟩ (by decide)).cal fun v9 M9 hM9 => ?_
            obtain ⟨f9, g9⟩ := hM9
            have F9 : Fr errC M M9 := F8.tr (f9.mono (by simp))
            have e144 : M9 144 = GC := by rw [F9 144 (by decide)]; exact h144
            have e145 : M9 145 = GS := by rw [F9 145 (by decide)]; exact h145
            have z9 : AZ M9 := z8.fr f9 fun r hr hm => by
              obtain ⟨r1, r2⟩ := hr
              simp at hm
              omega
            have l9 : lineC M9 n J many by_ space wait := l8.kept f9 (by decide) (by decide) (by decide) (by decide) (by decide) (by rw [f9 149 (by decide)])
            have c9 : freeC M9 n J := c8.kept f9 (by decide) (by rw [f9 149 (by decide)])
            have S9 : ∀ s, s ≠ 6 → s ≠ 7 → M9 149 s = M 149 s := fun s h6 h7 => by rw [f9 149 (by decide), s8 s h6]; exact S7 s h6 h7
            refine (s_GisNobody (d := d + 5) (by rw [e144, e145]; exact hg) (fun l hl => by
              rw [g9 l hl]
              have := gCh_r (C := GC) (S := GS) (b := 0) 10 l
              omega)).cal fun v10 M10 hM10 => ?_
            obtain ⟨rfl, hv10⟩ := hM10
            rw [e144, e145, gBal_congr g9] at hv10
            rcases hv10 with ⟨rfl, g⟩ | ⟨rfl, g⟩
            · exact ⟨⟨by decide, by decide⟩, fun z => absurd z (by decide), fun _ => hQ _ _ ⟨F9, S9, l9, c9, z9, x1, x2, x4, x5, 0, h1, h2, h4, h5, Or.inl ⟨rfl, g⟩, rfl⟩⟩
            · exact ⟨⟨by decide, by decide⟩, fun _ => hQ _ _ ⟨F9, S9, l9, c9, z9, x1, x2, x4, x5, 1, h1, h2, h4, h5, Or.inr ⟨rfl, g⟩, rfl⟩, fun z => absurd rfl z⟩
          rcases hv8 with ⟨rfl, g⟩ | ⟨rfl, g⟩
          · exact ⟨⟨by decide, by decide⟩, fun z => absurd z (by decide), fun _ => fin 0 (Or.inl ⟨rfl, g⟩)⟩
          · exact ⟨⟨by decide, by decide⟩, fun _ => fin 1 (Or.inr ⟨rfl, g⟩), fun z => absurd rfl z⟩
        have F6 : Fr errC M M6 := F5.tr (f6.mono (by simp))
        have z6 := z5.l139 f6
        rcases hv6 with ⟨rfl, g⟩ | ⟨rfl, g⟩
        · refine ⟨⟨by decide, by decide⟩, fun z => absurd z (by decide), fun _ => ?_⟩
          refine (s_NdoSharesStay (d := d + 2) (N5.lead f6) hO g z6).cal fun v7 M7 hM7 => ?_
          obtain ⟨f7, z7, hv7⟩ := hM7
          have F7 : Fr errC M M7 := F6.tr (f7.mono (by simp))
          have f57 : Fr (139 :: nssC) M5 M7 := (f6.mono (by simp)).tr (f7.mono fun a h => List.mem_cons_of_mem _ h)
          rcases hv7 with ⟨rfl, y⟩ | ⟨rfl, y⟩
          · exact ⟨⟨by decide, by decide⟩, fun _ => go4 0 M7 (Or.inl ⟨rfl, fun _ => y⟩) F7 z7 f57, fun z => absurd (by decide) z⟩
          · exact ⟨⟨by decide, by decide⟩, fun z => absurd rfl z, fun _ => go4 1 M7 (Or.inr ⟨rfl, fun h => y (h g)⟩) F7 z7 f57⟩
        · exact ⟨⟨by decide, by decide⟩, fun _ => go4 0 M6 (Or.inl ⟨rfl, fun h => absurd h g⟩) F6 z6 (f6.mono (by simp)), fun z => absurd rfl z⟩
      refine (s_CisLawful (d := d + 5) C4 hcO).cal fun v5 M5 hM5 => ?_
      obtain ⟨rfl, ⟨rfl, g⟩ | ⟨rfl, g⟩⟩ := hM5
      · refine ⟨⟨by decide, by decide⟩, fun z => absurd z (by decide), fun _ => ?_⟩
        refine (s_CdoSharesStay (d := d + 1) C4 hcO g).cal fun v6 M6 hM6 => ?_
        obtain ⟨f6, rfl⟩ := hM6
        rw [Int.add_zero]
        exact ⟨⟨by decide, by decide⟩, fun _ => st3 M6 f6, fun z => absurd (by decide) z⟩
      · rw [Int.add_zero]
        exact ⟨⟨by decide, by decide⟩, fun _ => st3 M5 Fr.rfl', fun z => absurd rfl z⟩
    rcases hv4 with ⟨rfl, g⟩ | ⟨rfl, g⟩
    · exact ⟨⟨by decide, by decide⟩, fun z => absurd z (by decide), fun _ => go2 0 (Or.inl ⟨rfl, g⟩)⟩
    · exact ⟨⟨by decide, by decide⟩, fun _ => go2 1 (Or.inr ⟨rfl, g⟩), fun z => absurd rfl z⟩
  refine ⟨⟨by omega, by omega⟩, ⟨by omega, by omega⟩, fun z => go1 1 (Or.inr ⟨rfl, fun h => z ((e1P.iff hPT).mp h)⟩), fun z => go1 0 (Or.inl ⟨rfl, (e1P.iff hPT).mpr (Classical.not_not.mp z)⟩)⟩
