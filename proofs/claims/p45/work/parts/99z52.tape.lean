/-! Results, the tape: signs put. -/
/-- what a method answers or throws -/
def PostE (d y : Nat) (a : List PV) (M : Mem) (P : Rs → Mem → Prop) : Prop := ∀ Q : Rs → Mem → Prop, (∀ r M', P r M' → Q r M') → cald d y a M Q
theorem PostE.cal {d y : Nat} {a : List PV} {M : Mem} {P : Rs → Mem → Prop} (h : PostE d y a M P) {f : Int → Mem → Prop} {g : Nat → Mem → Prop} (hP : ∀ r M', P r M' → Rt r (fun v => f v M') (fun x => g x M')) : cald d y a M (fun r M' => Rt r (fun v => f v M') (fun x => g x M')) := h _ hP
theorem PostE.up {d y : Nat} {a : List PV} {M : Mem} {P : Rs → Mem → Prop} (h : PostE d y a M P) : PostE (d + 1) y a M P := fun Q hQ => calD_le MTf extS extS_mono d y a M Q (h Q hQ)
theorem PostE.le {d e y : Nat} {a : List PV} {M : Mem} {P : Rs → Mem → Prop} (h : PostE d y a M P) (he : d ≤ e) : PostE e y a M P := by
  obtain ⟨k, rfl⟩ := Nat.exists_eq_add_of_le he
  induction k with
  | zero => exact h
  | succ k ih => exact (ih (by omega)).up
theorem Post.mono {d y : Nat} {a : List PV} {M : Mem} {P P' : Int → Mem → Prop} (h : Post d y a M P) (hP : ∀ v M', P v M' → P' v M') : Post d y a M P' := fun Q hQ => h Q fun v M' p => hQ v M' (hP v M' p)
/-- so many digits has a number -/
def DC (v : Int) (c : Nat) : Prop := 1 ≤ c ∧ v < 10 ^ c ∧ (v = 0 → c = 1) ∧ (v ≠ 0 → 10 ^ (c - 1) ≤ v)
theorem DC.uniq {v : Int} {a b : Nat} (h : DC v a) (g : DC v b) : a = b := by
  obtain ⟨h1, h2, h3, h4⟩ := h
  obtain ⟨g1, g2, g3, g4⟩ := g
  by_cases e : v = 0
  · rw [h3 e, g3 e]
  · have k1 := h4 e
    have k2 := g4 e
    rcases Nat.lt_trichotomy a b with q | q | q
    · have : (10 : Int) ^ a ≤ 10 ^ (b - 1) := pw_mono (by decide) (by omega)
      omega
    · exact q
    · have : (10 : Int) ^ b ≤ 10 ^ (a - 1) := pw_mono (by decide) (by omega)
      omega
/-- the digits of a number, put one after the other -/
def pd (v : Int) : Nat → (Nat → Int) → Nat → (Nat → Int)
  | 0, f, _ => f
  | c + 1, f, n => pd v c (sr f n (48 + v / 10 ^ c % 10)) (n + 1)
theorem pd_ge {v : Int} : ∀ (c : Nat) (f : Nat → Int) (n i : Nat), i < n → pd v c f n i = f i
  | 0, _, _, _, _ => rfl
  | c + 1, f, n, i, h => by
    show pd v c (sr f n _) (n + 1) i = f i
    rw [pd_ge c _ (n + 1) i (by omega), sr_ne (by omega)]
theorem pd_agree {v : Int} : ∀ (c : Nat) (f g : Nat → Int) (n : Nat), (∀ i, i < n → f i = g i) → ∀ i, i < n + c → pd v c f n i = pd v c g n i
  | 0, _, _, _, h, i, hi => h i hi
  | c + 1, f, g, n, h, i, hi => by
    refine pd_agree c _ _ (n + 1) (fun j hj => ?_) i (by omega)
    by_cases e : j = n
    · subst e; rw [sr_same, sr_same]
    · rw [sr_ne e, sr_ne e]; exact h j (by omega)
theorem pd_sign {v : Int} : ∀ (c : Nat) (f : Nat → Int) (n : Nat), (∀ i, i < n → 32 ≤ f i ∧ f i ≤ 126) → ∀ i, i < n + c → 32 ≤ pd v c f n i ∧ pd v c f n i ≤ 126
  | 0, _, _, h, i, hi => h i hi
  | c + 1, f, n, h, i, hi => by
    refine pd_sign c _ (n + 1) (fun j hj => ?_) i (by omega)
    by_cases e : j = n
    · subst e; rw [sr_same]; omega
    · rw [sr_ne e]; exact h j (by omega)
abbrev oT : PV := .inr (.inr (.inl 93))
abbrev oQ : PV := .inr (.inr (.inl 149))
theorem s_put {d : Nat} {M : Mem} {n : Nat} {v : Int} (hn : M 93 1 = n) (h9 : n < 900) : Post (d + 1) cT_put [oT, .inl v] M (fun _ M' => M' = upd2 (upd2 M 91 n v) 93 1 ((n : Int) + 1)) := by
  intro Q hQ
  refine e_T_put (b_T_put_0 ?_)
  rw [hn, Int.toNat_natCast]
  exact ⟨⟨by omega, by omega⟩, fun h => absurd h (by omega), fun _ => ⟨⟨by omega, by omega⟩, hQ 0 _ rfl⟩⟩
theorem pdC_loop {d : Nat} {Q : Rs → Mem → Prop} {r : Nat} {v : Int} (hr : IsBig r) : ∀ (c n : Nat) (M : Mem), Big M r v → M 93 1 = n → n + c ≤ 900 → c ≤ 180 →
    (∀ M', Fr [91, 93] M M' → M' 93 1 = ((n + c : Nat) : Int) → M' 91 = pd v c (M 91) n → Q (.inl 0) M') → L_T_putDigits_5 (d + 1) Q M r ((c : Int) - 1)
  | 0, n, M, hv, hn, h9, h180, hQ => by
    refine b_T_putDigits_5 hr ⟨⟨by omega, by omega⟩, fun _ => hQ M Fr.rfl' (by rw [hn]; omega) rfl, fun h => absurd (by omega) h⟩
  | c + 1, n, M, hv, hn, h9, h180, hQ => by
    rw [show ((c + 1 : Nat) : Int) - 1 = (c : Int) by omega]
    refine b_T_putDigits_5 hr ⟨⟨by omega, by omega⟩, fun h => absurd h (by omega), fun _ => ?_⟩
    refine (s_digitAt (d := d) (p := c) hr hv (by omega)).cal fun v1 M1 hM1 => ?_
    obtain ⟨rfl, rfl⟩ := hM1
    refine (s_put (d := d) hn (by omega)).cal fun v2 M2 hM2 => ?_
    subst hM2
    have hr2 := hr.1
    have fr : Fr [91, 93] M1 (upd2 (upd2 M1 91 n (48 + v / 10 ^ c % 10)) 93 1 ((n : Int) + 1)) := (Fr.rfl'.u2 (by simp)).u2 (by simp)
    refine pdC_loop hr c (n + 1) _ (hv.kept fr (by simp; omega) (by simp; omega)) (by rw [u2_same]; omega) (by omega) (by omega) fun M' f1 f2 f3 => hQ M' (fr.tr f1) (by rw [f2]; omega) ?_
    rw [f3, u2_off (by decide), u2_row]
    rfl
theorem s_putDigits {d : Nat} {M : Mem} {r n : Nat} {v : Int} (hr : IsBig r) (hv : Big M r v) (hn : M 93 1 = n) (h9 : n + 180 ≤ 900) :
    Post (d + 2) cT_putDigits [oT, oB r] M (fun _ M' => Fr [91, 93] M M' ∧ ∃ c, DC v c ∧ c ≤ 180 ∧ M' 93 1 = ((n + c : Nat) : Int) ∧ M' 91 = pd v c (M 91) n) := by
  intro Q hQ
  refine e_T_putDigits hr (b_T_putDigits_0 hr ?_)
  refine (s_digitCount (d := d) hr hv).cal fun v1 M1 hM1 => ?_
  obtain ⟨rfl, c, rfl, c1, c2, c3, c4, c5⟩ := hM1
  exact pdC_loop hr c n M1 hv hn (by omega) c2 fun M' f1 f2 f3 => hQ 0 M' ⟨f1, c, ⟨c1, c3, c4, c5⟩, c2, f2, f3⟩
/-- result -/
theorem s_Qresult {d : Nat} {M : Mem} {b v : Int} (hb : R32 b) (hv : Big M (if b = 0 then 0 else 2) v) :
    PostE (d + 2) cQ_result [oQ, .inl b] M (fun r M' => M' = M ∧ r = if v < 9223372036854775808 then .inl v else .inr 1) := by
  intro Q hQ
  have K : ∀ r : Nat, IsBig r → Big M r v → cald (d + 1) cB_isLong [oB r] M (fun z M1 => Rt z (fun v1 => (R32 v1) ∧ (((¬ v1 = 0) → (cald (d + 1) cB_toLong [oB r] M1 (fun z M2 => Rt z (fun v2 => Q (.inl v2) M2) (fun x => Q (.inr x) M2)))) ∧ (¬ (¬ v1 = 0) → (Q (.inr 1) M1)))) (fun x => Q (.inr x) M1)) := by
    intro r hr hbr
    refine (s_isLong (d := d) hr hbr).cal fun v1 M1 hM1 => ?_
    obtain ⟨rfl, hv1⟩ := hM1
    by_cases e : v < 9223372036854775808
    · rw [if_pos e] at hv1
      subst hv1
      refine ⟨⟨by decide, by decide⟩, fun _ => ?_, fun h => absurd (by decide) h⟩
      refine (s_toLong (d := d) hr hbr e).cal fun v2 M2 hM2 => ?_
      obtain ⟨rfl, rfl⟩ := hM2
      exact hQ _ _ ⟨rfl, by rw [if_pos e]⟩
    · rw [if_neg e] at hv1
      subst hv1
      exact ⟨⟨by decide, by decide⟩, fun h => absurd rfl h, fun _ => hQ _ _ ⟨rfl, by rw [if_neg e]⟩⟩
  refine e_Q_result (b_Q_result_0 ⟨hb, fun h => ?_, fun h => ?_⟩)
  · rw [if_pos h] at hv
    exact K 0 bI0 hv
  · rw [if_neg h] at hv
    exact K 2 bI2 hv
/-- write -/
theorem s_Qwrite {d : Nat} {M : Mem} {v w : Int} (hv : Big M 0 v) (hw : Big M 2 w) :
    Post (d + 3) cQ_write [oQ] M (fun x M' => Fr [91, 93] M M' ∧ ∃ a b, DC v a ∧ DC w b ∧ a ≤ 180 ∧ b ≤ 180 ∧ x = ((a + 1 + b : Nat) : Int) ∧ M' 93 1 = ((a + 1 + b : Nat) : Int) ∧ M' 91 = pd w b (sr (pd v a (M 91) 0) a 47) (a + 1)) := by
  intro Q hQ
  refine e_Q_write (b_Q_write_0 ?_)
  refine (s_digitCount (d := d + 1) bI0 hv).cal fun v1 M1 hM1 => ?_
  obtain ⟨rfl, a, rfl, a1, a2, a3, a4, a5⟩ := hM1
  refine (s_digitCount (d := d + 1) bI2 hw).cal fun v2 M2 hM2 => ?_
  obtain ⟨rfl, b, rfl, b1, b2, b3, b4, b5⟩ := hM2
  refine ⟨⟨by omega, by omega⟩, fun _ => ?_, fun h => absurd (by omega) h⟩
  have f0 : Fr [91, 93] M2 (upd2 M2 93 1 0) := Fr.rfl'.u2 (by simp)
  refine (s_putDigits (d := d) (n := 0) bI0 (hv.kept f0 (by simp) (by simp)) u2_same (by decide)).cal fun v3 M3 hM3 => ?_
  obtain ⟨f3, c, hc, hc180, l3, r3⟩ := hM3
  have ec : c = a := hc.uniq ⟨a1, a3, a4, a5⟩
  subst ec
  rw [Nat.zero_add] at l3
  refine (s_put (d := d + 1) (n := c) l3 (by omega)).cal fun v4 M4 hM4 => ?_
  subst hM4
  have f4 : Fr [91, 93] M3 (upd2 (upd2 M3 91 c 47) 93 1 ((c : Int) + 1)) := (Fr.rfl'.u2 (by simp)).u2 (by simp)
  refine (s_putDigits (d := d) (n := c + 1) bI2 (((hw.kept f0 (by simp) (by simp)).kept f3 (by simp) (by simp)).kept f4 (by simp) (by simp)) (by rw [u2_same]; omega) (by omega)).cal fun v5 M5 hM5 => ?_
  obtain ⟨f5, e, he, he180, l5, r5⟩ := hM5
  have eb : e = b := he.uniq ⟨b1, b3, b4, b5⟩
  subst eb
  refine hQ _ M5 ⟨((f0.tr f3).tr f4).tr f5, c, e, hc, he, a2, b2, by rw [l5], by rw [l5], ?_⟩
  rw [r5, u2_off (by decide), u2_row, r3, u2_off (by decide)]
