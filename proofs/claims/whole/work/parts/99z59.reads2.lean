/-! The reference reads the whole tape. -/
theorem rnn_idem {P : Int → Bool} {t : Nat → Int} {n s : Nat} : rnn P t n (rnn P t n s) = rnn P t n s := rnn_st (rnn_end (P := P) (t := t) (n := n) _ s (Nat.le_refl _))
theorem isW_te {t : Nat → Int} {n s w : Nat} (hl : 97 ≤ wl w 0 ∧ wl w 0 ≤ 122) (h2 : 2 ≤ (wordL w).length) (h : isW t w s (te t n s) = true) : te t n s = rnn isL t n s := by
  have h1 := isW_len h
  unfold isW at h
  rw [Bool.and_eq_true, wEq_wl] at h
  have h0 := h.2 0 (by omega)
  rw [Nat.add_zero] at h0
  rcases Nat.lt_or_ge s n with q | q
  · exact te_letter q (by rw [isL_iff]; omega)
  · have a1 : rnn isD t n s = s := rnn_st (by omega)
    have a2 : rnn isL t n s = s := rnn_st (by omega)
    unfold te at h1
    rw [a1, a2, if_neg (by omega), if_neg (by omega)] at h1
    omega
theorem isW_lt {t : Nat → Int} {n s w : Nat} (h2 : 2 ≤ (wordL w).length) (h : isW t w s (te t n s) = true) : s < n := by
  rcases Nat.lt_or_ge s n with q | q
  · exact q
  · have h1 := isW_len h
    have a1 : rnn isD t n s = s := rnn_st (by omega)
    have a2 : rnn isL t n s = s := rnn_st (by omega)
    unfold te at h1
    rw [a1, a2, if_neg (by omega), if_neg (by omega)] at h1
    omega
theorem isW5 {t : Nat → Int} {n s : Nat} : isW t 5 s (te t n s) = true ↔ t s = 59 := by
  unfold isW
  rw [Bool.and_eq_true, decide_eq_true_eq]
  have e5 : wEq t (wordL 5) s = true ↔ t s = 59 := by
    show (decide (t s = 59) && true) = true ↔ _
    simp
  rw [e5]
  constructor
  · exact fun h => h.2
  · intro h
    refine ⟨?_, h⟩
    have a1 : rnn isD t n s = s := rnn_st (by rw [isD_iff]; omega)
    have a2 : rnn isL t n s = s := rnn_st (by rw [isL_iff]; omega)
    unfold te
    rw [a1, a2, if_neg (by omega), if_neg (by omega)]
    rfl
theorem te59 {t : Nat → Int} {n s : Nat} (h : t s = 59) : te t n s = s + 1 := isW_len (isW5.mpr h)
/-- the end of a coming, or of it all -/
def RO (t : Nat → Int) (n c : Nat) (T : Nat → Int) (x0 : PX) (v : Int) (M' : Mem) : Prop := ∃ a s' c' T', RT t n M' s' c' T' ∧ ((v = 1 ∧ stpN t n a x0 = (0, s', c', (stpN t n a x0).2.2.2) ∧ c' = c + 1 ∧ s' ≤ n ∧ skB t n s' = s' ∧ ∀ i, i < 4 * c' → (stpN t n a x0).2.2.2 i = T' i) ∨ (v = 0 ∧ c' = c ∧ pFin n (stpN t n a x0) ∧ pFault n (stpN t n a x0) = s'))
/-- the machine's numbers and the reference's -/
def Ag (P : Nat → Prop) (f g : Nat → Int) : Prop := ∀ i, P i → f i = g i
theorem Ag.sr {P : Nat → Prop} {f g : Nat → Int} {k : Nat} {v : Int} (h : Ag P f g) : Ag (fun i => P i ∨ i = k) (sr f k v) (sr g k v) := fun i hi => by
  by_cases e : i = k
  · subst e; rw [sr_same, sr_same]
  · rw [sr_ne e, sr_ne e]
    rcases hi with q | q
    · exact h i q
    · exact absurd q e
theorem Ag.mono {P P' : Nat → Prop} {f g : Nat → Int} (h : Ag P f g) (hp : ∀ i, P' i → P i) : Ag P' f g := fun i hi => h i (hp i hi)
theorem reach1 {t : Nat → Int} {n a : Nat} {x0 x : PX} (h : stpN t n a x0 = x) : stpN t n (a + 1) x0 = stp t n x := by
  rw [stpN_add, h]; rfl
theorem rc_52 {d : Nat} {Q : Rs → Mem → Prop} {M0 M : Mem} {t : Nat → Int} {n s c st a : Nat} {T Tm : Nat → Int} {x0 : PX} (hT : TR t n) (hs : s ≤ n) (hf : FT M0 M) (h : RT t n M s c T) (hst : st ≠ 0 ∧ st < 9) (hx : stpN t n a x0 = (st, skB t n s, c, Tm)) (htr : trn t n (st, skB t n s, c, Tm) = pEnd t n (skB t n s) c Tm) (hag : Ag (fun i => i < 4 * c + 4) Tm T)
    (hQ : ∀ v M', FT M0 M' → (v = 0 ∨ v = 1) → RO t n c T x0 v M' → Q (.inl v) M') : L_M_readsCome_52 (d + 2) Q M := by
  have h9 := hT.1
  have hsk := skB_le (t := t) hs
  refine b_M_readsCome_52 ?_
  refine (s_blanks (d := d + 1) hT hs h).cal fun v1 M1 hM1 => ?_
  obtain ⟨f1, h1⟩ := hM1
  rw [h1.1, h1.2.2.1, h1.2.1, Int.toNat_natCast]
  refine ⟨⟨by omega, by omega⟩, ⟨by omega, by omega⟩, fun q => ?_, fun q => ⟨⟨by omega, by omega⟩, hT.2 _, fun q2 => ?_, fun q2 => ?_⟩⟩
  · refine hQ 0 M1 (hf.tr f1) (Or.inl rfl) ⟨a, _, _, _, h1, Or.inr ⟨rfl, rfl, ?_, ?_⟩⟩
    · rw [hx]; exact fun z => by have := z.1; dsimp only at this; omega
    · rw [hx]
      unfold pFault
      rw [if_neg (show ¬ st = 9 by omega), if_neg (show ¬ st = 0 by omega)]
      exact q.symm
  · have hr := reach1 hx
    have hp : stp t n (st, skB t n s, c, Tm) = (0, skB t n (skB t n s + 1), c + 1, Tm) := by
      unfold stp
      rw [if_pos ⟨show skB t n s < n by omega, show st < 9 by omega⟩, htr]
      unfold pEnd
      rw [if_pos (isW5.mpr q2), te59 q2]
    rw [hp] at hr
    have h2 : RT t n (upd2 M1 175 31 ((skB t n s : Nat) + 1 : Int)) (skB t n s + 1) c T := by
      have := h1.at31 (s' := skB t n s + 1)
      exact this
    refine (s_blanks (d := d + 1) hT (by omega) h2).cal fun v2 M2 hM2 => ?_
    obtain ⟨f2, h3⟩ := hM2
    rw [h3.2.2.2.1]
    refine hQ 1 _ (((hf.tr f1).tr FT.u31).tr (f2.tr FT.u32)) (Or.inr rfl) ⟨a + 1, _, _, _, h3.at32 (c' := c + 1), Or.inl ⟨rfl, by rw [hr], rfl, skB_le (by omega), rnn_idem, fun i hi => ?_⟩⟩
    rw [hr]
    exact hag i (by omega)
  · have hr := reach1 hx
    have hp : stp t n (st, skB t n s, c, Tm) = (9, skB t n s, c, Tm) := by
      unfold stp
      rw [if_pos ⟨show skB t n s < n by omega, show st < 9 by omega⟩, htr]
      unfold pEnd
      rw [if_neg fun z => q2 (isW5.mp z)]
    rw [hp] at hr
    refine hQ 0 M1 (hf.tr f1) (Or.inl rfl) ⟨a + 1, _, _, _, h1, Or.inr ⟨rfl, rfl, ?_, ?_⟩⟩
    · rw [hr]; exact fun z => absurd z.2 (Nat.lt_irrefl 9)
    · rw [hr]; rfl
/-- a word and a number on the machine -/
theorem go_reads {t : Nat → Int} {n s c st st1 st2 p w a : Nat} {Tm Tw : Nat → Int} {x0 : PX} (hst : st < 9) (hst1 : st1 < 9 ∧ st1 ≠ 0) (h2 : 2 ≤ (wordL w).length) (hx : stpN t n a x0 = (st, s, c, Tm)) (htr : isW t w s (te t n s) = true → trn t n (st, s, c, Tm) = (st1, skB t n (te t n s), c, Tw)) (htr1 : ∀ s, trn t n (st1, s, c, Tw) = pNum t n st2 p s c Tw)
    (hW : isW t w s (te t n s) = true) : (isN t n (skB t n (te t n s)) → stpN t n (a + 2) x0 = (st2, skB t n (te t n (skB t n (te t n s))), c, sr Tw (4 * c + p) (nv t (skB t n (te t n s)) (te t n (skB t n (te t n s)) - skB t n (te t n s))))) ∧
    (¬ isN t n (skB t n (te t n s)) → ∃ b, pFin n (stpN t n b x0) ∧ pFault n (stpN t n b x0) = (skB t n (te t n s) : Nat)) := by
  have hsn := isW_lt h2 hW
  have hr := reach1 hx
  have hp : stp t n (st, s, c, Tm) = (st1, skB t n (te t n s), c, Tw) := by
    unfold stp
    rw [if_pos ⟨hsn, hst⟩, htr hW]
  rw [hp] at hr
  have hr2 := reach1 hr
  have hle := skB_le (t := t) (te_le (t := t) hsn)
  generalize skB t n (te t n s) = s2 at *
  constructor
  · intro hn
    rw [show a + 2 = a + 1 + 1 by omega, hr2]
    unfold stp
    rw [if_pos ⟨hn.1, hst1.1⟩, htr1]
    unfold pNum
    rw [if_pos ⟨hn.2.2, hn.2.1⟩]
  · intro hn
    rcases Nat.lt_or_ge s2 n with q | q
    · refine ⟨a + 1 + 1, ?_⟩
      have e : stp t n (st1, s2, c, Tw) = (9, s2, c, Tw) := by
        unfold stp
        rw [if_pos ⟨q, hst1.1⟩, htr1]
        unfold pNum
        rw [if_neg fun z => hn ⟨q, z.2, z.1⟩]
      rw [hr2, e]
      exact ⟨fun z => absurd z.2 (Nat.lt_irrefl 9), rfl⟩
    · refine ⟨a + 1, ?_⟩
      rw [hr]
      refine ⟨fun z => by have := z.1; dsimp only at this; omega, ?_⟩
      unfold pFault
      rw [if_neg (show ¬ st1 = 9 by omega), if_neg (show ¬ st1 = 0 by omega)]
      have : s2 = n := by omega
      rw [this]
theorem wdx {t : Nat → Int} {n s : Nat} : ∀ w : Nat, 1 ≤ w → w ≤ 4 → (wd t n s = (w : Int) ↔ isW t w s (te t n s) = true)
  | 0, h, _ => absurd h (by decide)
  | 1, _, _ => wd_iff.1
  | 2, _, _ => wd_iff.2.1
  | 3, _, _ => wd_iff.2.2.1
  | 4, _, _ => wd_iff.2.2.2.1
  | k + 5, _, h => absurd h (by omega)
theorem wlen2 : ∀ w : Nat, 1 ≤ w → w ≤ 4 → 2 ≤ (wordL w).length ∧ 97 ≤ wl w 0 ∧ wl w 0 ≤ 122
  | 0, h, _ => absurd h (by decide)
  | 1, _, _ => by decide
  | 2, _, _ => by decide
  | 3, _, _ => by decide
  | 4, _, _ => by decide
  | k + 5, _, h => absurd h (by omega)
theorem rc_41 {d : Nat} {Q : Rs → Mem → Prop} {M0 M : Mem} {t : Nat → Int} {n s c st a : Nat} {T Tm : Nat → Int} {x0 : PX} (hT : TR t n) (hs : s ≤ n) (hc : c ≤ 90) (hf : FT M0 M) (h : RT t n M s c T) (hst : st ≠ 0 ∧ st < 9) (hx : stpN t n a x0 = (st, skB t n s, c, Tm)) (htr : trn t n (st, skB t n s, c, Tm) = pKind t n (skB t n s) c Tm) (hag : Ag (fun i => i < 4 * c + 4) Tm T)
    (hQ : ∀ v M', FT M0 M' → (v = 0 ∨ v = 1) → (∃ T0, RO t n c T0 x0 v M') → Q (.inl v) M') : L_M_readsCome_41 (d + 4) Q M := by
  have h9 := hT.1
  have hsk := skB_le (t := t) hs
  have hr := wd_iff (t := t) (n := n) (s := skB t n s)
  refine b_M_readsCome_41 ?_
  refine (s_word (d := d + 1) hT hs h).cal fun v1 M1 hM1 => ?_
  obtain ⟨f1, h1, rfl⟩ := hM1
  have eI : skB t n (skB t n s) = skB t n s := rnn_idem
  refine ⟨⟨by omega, by omega⟩, fun q => ?_, fun q => ?_⟩
  · have hn4 : ¬ isW t 4 (skB t n s) (te t n (skB t n s)) = true := fun z => q (hr.2.2.2.1.mpr z)
    refine rc_52 (d := d + 2) (T := T) (Tm := Tm) hT hsk (hf.tr f1) h1 hst (by rw [eI]; exact hx) ?_ hag fun v M' k1 k2 k3 => hQ v M' k1 k2 ⟨T, k3⟩
    rw [eI, htr]
    unfold pKind
    rw [if_neg hn4]
  · have h4 : isW t 4 (skB t n s) (te t n (skB t n s)) = true := hr.2.2.2.1.mp (Classical.not_not.mp q)
    have hg := go_reads (t := t) (n := n) (st1 := 7) (st2 := 8) (p := 3) (w := 4) (Tw := Tm) hst.2 (by decide) (by decide) hx (fun z => by
      rw [htr]
      unfold pKind
      rw [if_pos z]) (fun s => rfl) h4
    refine (s_reads (d := d) (w := 4) (p := 3) hT hsk h1 hc (by decide) (wdx 4 (by decide) (by decide)) (by decide) (fun s z => isW_te (by decide) (by decide) z) (by decide)).cal fun v2 M2 hM2 => ?_
    rw [eI] at hM2
    obtain ⟨f2, ⟨rfl, g1, g2, g3⟩ | ⟨rfl, g1, g2, g3⟩ | ⟨rfl, g1, g3⟩⟩ := hM2
    · refine ⟨⟨by decide, by decide⟩, fun _ => ?_, fun z => absurd (by decide) z⟩
      refine rc_52 (d := d + 2) (st := 8) (a := a + 2) hT (te_le g2.1) ((hf.tr f1).tr f2) g3 (by decide) (hg.1 g2) rfl ?_ fun v M' k1 k2 k3 => hQ v M' k1 k2 ⟨_, k3⟩
      exact (Ag.sr hag).mono fun i hi => Or.inl hi
    · obtain ⟨b, b1, b2⟩ := hg.2 g2
      exact ⟨⟨by decide, by decide⟩, fun z => absurd rfl z, fun _ => hQ _ _ ((hf.tr f1).tr f2) (Or.inl rfl) ⟨T, b, _, _, _, g3, Or.inr ⟨rfl, rfl, b1, b2⟩⟩⟩
    · exact absurd h4 g1
theorem s_readsCome {d : Nat} {M : Mem} {t : Nat → Int} {n s c : Nat} {T Tm : Nat → Int} (hT : TR t n) (hs : s < n) (hsk : skB t n s = s) (hc : c ≤ 90) (h : RT t n M s c T) (hag : Ag (fun i => i < 4 * c) Tm T) :
    Post (d + 5) cM_readsCome [oM] M (fun v M' => FT M M' ∧ (v = 0 ∨ v = 1) ∧ ∃ T0, RO t n c T0 (0, s, c, Tm) v M') := by
  intro Q hQ
  refine e_M_readsCome (b_M_readsCome_0 ?_)
  rw [h.2.2.2.1, show (4 * (c : Int) + 2).toNat = 4 * c + 2 by omega, show (4 * (c : Int) + 3).toNat = 4 * c + 3 by omega]
  refine ⟨⟨by omega, by omega⟩, ⟨by omega, by omega⟩, ?_⟩
  have h1 := (h.at166 (k := 4 * c + 2) (v := 0)).at166 (k := 4 * c + 3) (v := 1)
  have hf1 : FT M (upd2 (upd2 M 166 (4 * c + 2) 0) 166 (4 * c + 3) 1) := FT.u166.tr FT.u166
  have hag1 := (hag.sr (k := 4 * c + 2) (v := 0)).sr (k := 4 * c + 3) (v := 1)
  refine (s_reads (d := d) (w := 1) (p := 0) hT (Nat.le_of_lt hs) h1 hc (by decide) (wdx 1 (by decide) (by decide)) (by decide) (fun s z => isW_te (by decide) (by decide) z) (by decide)).cal fun v1 M1 hM1 => ?_
  rw [hsk] at hM1
  have hx0 : stpN t n 0 (0, s, c, Tm) = (0, s, c, Tm) := rfl
  obtain ⟨f1, ⟨rfl, g1, g2, g3⟩ | ⟨rfl, g1, g2, g3⟩ | ⟨rfl, g1, g3⟩⟩ := hM1
  · have hg := go_reads (t := t) (n := n) (st := 0) (st1 := 1) (st2 := 2) (p := 0) (w := 1) (Tw := sr (sr Tm (4 * c + 2) 0) (4 * c + 3) 1) (by decide) (by decide) (by decide) hx0 (fun z => by
      show (if _ then _ else _) = _
      rw [if_pos z]) (fun s => rfl) g1
    have hx2 := hg.1 g2
    have hag2 := hag1.sr (k := 4 * c + 0) (v := nv t (skB t n (te t n s)) (te t n (skB t n (te t n s)) - skB t n (te t n s)))
    have hle2 := te_le (t := t) g2.1
    generalize te t n (skB t n (te t n s)) = s2 at *
    refine ⟨⟨by decide, by decide⟩, fun z => absurd z (by decide), fun _ => ?_⟩
    refine (s_reads (d := d) (w := 2) (p := 1) hT hle2 g3 hc (by decide) (wdx 2 (by decide) (by decide)) (by decide) (fun s z => isW_te (by decide) (by decide) z) (by decide)).cal fun v2 M2 hM2 => ?_
    obtain ⟨f2, ⟨rfl, k1, k2, k3⟩ | ⟨rfl, k1, k2, k3⟩ | ⟨rfl, k1, k3⟩⟩ := hM2
    · have hg2 := go_reads (t := t) (n := n) (st := 2) (st1 := 3) (st2 := 4) (p := 1) (w := 2) (by decide) (by decide) (by decide) hx2 (fun z => by
        show (if _ then _ else _) = _
        rw [if_pos z]) (fun s => rfl) k1
      have hx4 := hg2.1 k2
      have hag3 := hag2.sr (k := 4 * c + 1) (v := nv t (skB t n (te t n (skB t n s2))) (te t n (skB t n (te t n (skB t n s2))) - skB t n (te t n (skB t n s2))))
      have hle4 := te_le (t := t) k2.1
      have hag4 := hag3.mono (P' := fun i => i < 4 * c + 4) (fun i hi => by omega)
      generalize te t n (skB t n (te t n (skB t n s2))) = s4 at *
      refine ⟨⟨by decide, by decide⟩, fun _ => ?_, fun z => absurd (by decide) z⟩
      have eI : skB t n (skB t n s4) = skB t n s4 := rnn_idem
      have hsk4 := skB_le (t := t) hle4
      have hr := wd_iff (t := t) (n := n) (s := skB t n s4)
      refine (s_word (d := d + 1) hT hle4 k3).cal fun v3 M3 hM3 => ?_
      obtain ⟨f3, h3, rfl⟩ := hM3
      refine ⟨⟨by omega, by omega⟩, fun q => ?_, fun q => ?_⟩
      · have hn3 : ¬ isW t 3 (skB t n s4) (te t n (skB t n s4)) = true := fun z => q (hr.2.2.1.mpr z)
        refine rc_41 (d := d) (st := 4) hT hsk4 hc (((hf1.tr f1).tr f2).tr f3) h3 (by decide) (by rw [eI]; exact hx4) ?_ hag4 fun v M' y1 y2 y3 => hQ v M' ⟨y1, y2, y3⟩
        rw [eI]
        show (if _ then _ else _) = _
        rw [if_neg hn3]
      · have h3w : isW t 3 (skB t n s4) (te t n (skB t n s4)) = true := hr.2.2.1.mp (Classical.not_not.mp q)
        have hg3 := go_reads (t := t) (n := n) (st := 4) (st1 := 5) (st2 := 6) (p := 2) (w := 3) (by decide) (by decide) (by decide) hx4 (fun z => by
          show (if _ then _ else _) = _
          rw [if_pos z]) (fun s => rfl) h3w
        refine (s_reads (d := d) (w := 3) (p := 2) hT hsk4 h3 hc (by decide) (wdx 3 (by decide) (by decide)) (by decide) (fun s z => isW_te (by decide) (by decide) z) (by decide)).cal fun v4 M4 hM4 => ?_
        rw [eI] at hM4
        obtain ⟨f4, ⟨rfl, l1, l2, l3⟩ | ⟨rfl, l1, l2, l3⟩ | ⟨rfl, l1, l3⟩⟩ := hM4
        · refine ⟨⟨by decide, by decide⟩, fun z => absurd z (by decide), fun _ => ?_⟩
          refine rc_41 (d := d) (st := 6) hT (te_le l2.1) hc ((((hf1.tr f1).tr f2).tr f3).tr f4) l3 (by decide) (hg3.1 l2) rfl ?_ fun v M' y1 y2 y3 => hQ v M' ⟨y1, y2, y3⟩
          exact hag4.sr.mono fun i hi => Or.inl hi
        · obtain ⟨b, b1, b2⟩ := hg3.2 l2
          exact ⟨⟨by decide, by decide⟩, fun _ => hQ _ _ ⟨(((hf1.tr f1).tr f2).tr f3).tr f4, Or.inl rfl, T, b, _, _, _, l3, Or.inr ⟨rfl, rfl, b1, b2⟩⟩, fun z => absurd rfl z⟩
        · exact absurd h3w l1
    · have hg2 := go_reads (t := t) (n := n) (st := 2) (st1 := 3) (st2 := 4) (p := 1) (w := 2) (by decide) (by decide) (by decide) hx2 (fun z => by
        show (if _ then _ else _) = _
        rw [if_pos z]) (fun s => rfl) k1
      obtain ⟨b, b1, b2⟩ := hg2.2 k2
      exact ⟨⟨by decide, by decide⟩, fun z => absurd rfl z, fun _ => hQ _ _ ⟨(hf1.tr f1).tr f2, Or.inl rfl, T, b, _, _, _, k3, Or.inr ⟨rfl, rfl, b1, b2⟩⟩⟩
    · refine ⟨⟨by decide, by decide⟩, fun z => absurd rfl z, fun _ => hQ _ _ ⟨(hf1.tr f1).tr f2, Or.inl rfl, T, ?_⟩⟩
      have hle := skB_le (t := t) hle2
      rcases Nat.lt_or_ge (skB t n s2) n with q | q
      · have hr3 := reach1 hx2
        have e : ∀ T', stp t n (2, skB t n s2, c, T') = (9, skB t n s2, c, T') := fun T' => by
          unfold stp
          rw [if_pos ⟨q, (by decide : 2 < 9)⟩]
          show (if _ then _ else _) = _
          rw [if_neg k1]
        rw [e] at hr3
        refine ⟨0 + 2 + 1, _, _, _, k3, Or.inr ⟨rfl, rfl, ?_, ?_⟩⟩
        · rw [hr3]; exact fun z => absurd z.2 (Nat.lt_irrefl 9)
        · rw [hr3]; rfl
      · refine ⟨0 + 2, _, _, _, k3, Or.inr ⟨rfl, rfl, ?_, ?_⟩⟩
        · rw [hx2]; exact fun z => by have := z.1; dsimp only at this; omega
        · rw [hx2]
          have : skB t n s2 = n := by omega
          rw [this]; rfl
  · have hg := go_reads (t := t) (n := n) (st := 0) (st1 := 1) (st2 := 2) (p := 0) (w := 1) (Tw := sr (sr Tm (4 * c + 2) 0) (4 * c + 3) 1) (by decide) (by decide) (by decide) hx0 (fun z => by
      show (if _ then _ else _) = _
      rw [if_pos z]) (fun s => rfl) g1
    obtain ⟨b, b1, b2⟩ := hg.2 g2
    exact ⟨⟨by decide, by decide⟩, fun _ => hQ _ _ ⟨hf1.tr f1, Or.inl rfl, T, b, _, _, _, g3, Or.inr ⟨rfl, rfl, b1, b2⟩⟩, fun z => absurd rfl z⟩
  · refine ⟨⟨by decide, by decide⟩, fun _ => hQ _ _ ⟨hf1.tr f1, Or.inl rfl, T, 1, _, _, _, g3, Or.inr ⟨rfl, rfl, ?_, ?_⟩⟩, fun z => absurd rfl z⟩
    all_goals
      have e : stpN t n 1 (0, s, c, Tm) = (9, s, c, Tm) := by
        show stp t n (0, s, c, Tm) = _
        unfold stp
        rw [if_pos ⟨hs, (by decide : 0 < 9)⟩]
        show (if _ then _ else _) = _
        rw [if_neg g1]
      rw [e]
    · exact fun z => absurd z.2 (Nat.lt_irrefl 9)
    · rfl
theorem stp_ok {t : Nat → Int} {n : Nat} (x : PX) (h : pOk x) : pOk (stp t n x) := by
  obtain ⟨st, s, c, T⟩ := x
  unfold stp
  by_cases q : s < n ∧ st < 9
  · rw [if_pos q]
    rcases h with z | z
    · exact absurd q.2 (by have : st = 9 := z
                           omega)
    · rcases trn_ok (t := t) (n := n) (T := T) z with y | y
      · exact y
      · rw [y]; exact Or.inr z
  · rw [if_neg q]; exact h
theorem stpN_ok {t : Nat → Int} {n : Nat} : ∀ (k : Nat) (x : PX), pOk x → pOk (stpN t n k x)
  | 0, _, h => h
  | k + 1, x, h => stpN_ok k _ (stp_ok x h)
theorem ra_loop {d : Nat} {Q : Rs → Mem → Prop} {M0 : Mem} {t : Nat → Int} {n : Nat} {x0 : PX} (hT : TR t n)
    (hQ : ∀ (v : Int) M', FT M0 M' → (∃ a s' c' T', RT t n M' s' c' T' ∧ pFin n (stpN t n a x0) ∧ v = pFault n (stpN t n a x0) ∧ c' ≤ 90 ∧ (v = -1 → (stpN t n a x0).2.2.1 = c' ∧ 10 * c' ≤ n ∧ ∀ i, i < 4 * c' → (stpN t n a x0).2.2.2 i = T' i)) → Q (.inl v) M') :
    ∀ (k a s c : Nat) (T Tm : Nat → Int) (M : Mem), c + k = 91 → s ≤ n → FT M0 M → RT t n M s c T → stpN t n a x0 = (0, s, c, Tm) → skB t n s = s → 10 * c ≤ s → (∀ i, i < 4 * c → Tm i = T i) → L_M_readsAll_10 (d + 5) Q M 1
  | k, a, s, c, T, Tm, M, hk, hs, hf, h, hx, hsk, h10, hag => by
    have h9 := hT.1
    refine b_M_readsAll_10 ?_
    rw [h.1, h.2.2.1]
    refine ⟨⟨by decide, by decide⟩, fun z => absurd z (by decide), fun _ => ⟨⟨by omega, by omega⟩, ⟨by omega, by omega⟩, fun q => ⟨fun z => absurd z (by decide), fun _ => ?_⟩, fun q => ?_⟩⟩
    · refine hQ _ M hf ⟨a, s, c, T, h, ?_, ?_, by omega, fun _ => ?_⟩
      · rw [hx]; exact fun z => by have := z.1; dsimp only at this; omega
      · rw [hx]; rfl
      · rw [hx]; exact ⟨rfl, by omega, hag⟩
    · refine (s_readsCome (d := d) (Tm := Tm) hT (by omega) hsk (by omega) h hag).cal fun v1 M1 hM1 => ?_
      obtain ⟨f1, hv, T0, b, s', c', T', h', hro⟩ := hM1
      rw [← hx, ← stpN_add] at hro
      rcases hro with ⟨rfl, r1, r2, r3, r5, r4⟩ | ⟨rfl, r0, r1, r2⟩
      · cases k with
        | zero => omega
        | succ k =>
          have hok : pOk (stpN t n (a + b) x0) := by
            rw [stpN_add, hx]
            exact stpN_ok _ _ (Or.inr h10)
          have h10' : 10 * c' ≤ s' := by
            rw [r1] at hok
            rcases hok with z | z
            · exact absurd (show (0 : Nat) = 9 from z) (by decide)
            · exact z
          exact ra_loop hT hQ k (a + b) s' c' T' _ M1 (by omega) r3 (hf.tr f1) h' r1 r5 h10' r4
      · refine b_M_readsAll_10 ?_
        rw [h'.2.2.1]
        refine ⟨⟨by decide, by decide⟩, fun _ => ⟨fun _ => ?_, fun z => absurd rfl z⟩, fun z => absurd rfl z⟩
        refine hQ _ M1 (hf.tr f1) ⟨a + b, s', c', T', h', r1, r2.symm, by omega, fun z => ?_⟩
        omega
theorem s_readsAll {d : Nat} {M : Mem} {n : Nat} (hT : TR (M 150) n) (hl : M 175 2 = n) (T0 : Nat → Int) : Post (d + 6) cM_readsAll [oM] M (fun v M' => FT M M' ∧ ∃ y c, pRun (M 150) n T0 y ∧ M' 175 32 = (c : Nat) ∧ c ≤ 90 ∧ v = pFault n y ∧ (v = -1 → y.2.2.1 = c ∧ 10 * c ≤ n ∧ ∀ i, i < 4 * c → y.2.2.2 i = M' 166 i)) := by
  intro Q hQ
  refine e_M_readsAll (b_M_readsAll_0 ?_)
  have h0 : RT (M 150) n (upd2 (upd2 M 175 31 0) 175 32 0) 0 0 (M 166) := ⟨by rw [u2_ne (by decide), u2_ne (by decide)]; exact hl, by rw [u2_off (by decide), u2_off (by decide)], by rw [u2_ne (by decide), u2_same]; rfl, u2_same, by rw [u2_off (by decide), u2_off (by decide)]⟩
  refine (s_blanks (d := d + 4) hT (Nat.zero_le n) h0).cal fun v1 M1 hM1 => ?_
  obtain ⟨f1, h1⟩ := hM1
  refine ra_loop (d := d) (M0 := M) (x0 := (0, skB (M 150) n 0, 0, T0)) hT (fun v M' k1 k2 => ?_) 91 0 (skB (M 150) n 0) 0 (M 166) T0 M1 rfl (skB_le (Nat.zero_le n)) ((FT.u31.tr FT.u32).tr f1) h1 rfl rnn_idem (Nat.zero_le _) (fun i hi => absurd hi (by omega))
  obtain ⟨a, s', c', T', g1, g2, g3, g5, g4⟩ := k2
  refine hQ v M' ⟨k1, _, c', ⟨g2, a, rfl⟩, g1.2.2.2.1, g5, g3, fun z => ?_⟩
  obtain ⟨e1, e2, e3⟩ := g4 z
  refine ⟨e1, e2, fun i hi => ?_⟩
  rw [g1.2.2.2.2]
  exact e3 i hi
