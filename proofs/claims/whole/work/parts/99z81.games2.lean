/-! option, split, price, the balance: both sides. -/
def optOk (l c s : Int) : Prop := (0 ≤ l ∧ l ≤ 2) ∧ (0 ≤ c ∧ c ≤ 999) ∧ 0 ≤ s ∧ s ≤ 99
theorem s_Qoption {d : Nat} {M : Mem} {l c s : Int} (hl : R32 l) (hc : R32 c) (hs : R32 s) : PostE (d + 1) cQ_option [oQ, .inl l, .inl c, .inl s] M (fun r M' => (¬ optOk l c s ∧ r = .inr 2 ∧ M' = M) ∨ (optOk l c s ∧ r = .inl (M 144 l.toNat) ∧ M' = upd2 (upd2 M 144 l.toNat c) 145 l.toNat s)) := by
  intro Q hQ
  have no : ¬ optOk l c s → Q (.inr 2) M := fun h => hQ _ _ (Or.inl ⟨h, rfl, rfl⟩)
  unfold optOk at no hQ
  exact e_Q_option (b_Q_option_0 ⟨hl, fun _ => no (by omega), fun _ => ⟨fun _ => no (by omega), fun _ => ⟨hc, fun _ => no (by omega), fun _ => ⟨fun _ => no (by omega), fun _ => ⟨hs, fun _ => no (by omega), fun _ => ⟨fun _ => ⟨⟨by omega, by omega⟩, hQ _ _ (Or.inr ⟨by omega, rfl, rfl⟩)⟩, fun _ => no (by omega)⟩⟩⟩⟩⟩⟩)
theorem s_Moption {d : Nat} {M : Mem} {l c s : Int} (hl : R32 l) (hc : R32 c) (hs : R32 s) : Post (d + 2) cM_option [oM, .inl l, .inl c, .inl s] M (fun v M' => (¬ optOk l c s ∧ M' = upd2 M 175 0 1) ∨ (optOk l c s ∧ v = M 161 l.toNat ∧ M' = upd2 (upd2 (upd2 M 161 l.toNat c) 162 l.toNat s) 175 0 0)) := by
  intro Q hQ
  have R : ∀ x : Int, 0 ≤ x → x ≤ 1000 → R32 x := fun x h1 h2 => ⟨by omega, by omega⟩
  have no : ¬ optOk l c s → cald (d + 1) cM_refuse [oM, .inl 1] M (fun r M2 => Rt r (fun v2 => Q (.inl v2) M2) (fun x => Q (.inr x) M2)) := fun h => (s_refuse (d := d)).cal fun v2 M2 hM2 => by
    obtain ⟨rfl, rfl⟩ := hM2
    exact hQ _ _ (Or.inl ⟨h, rfl⟩)
  unfold optOk at no hQ
  refine e_M_option (b_M_option_0 ?_)
  refine (s_in (d := d) hl (R _ (by decide) (by decide)) (R _ (by decide) (by decide))).cal fun v1 M1 hM1 => ?_
  obtain ⟨rfl, ⟨rfl, g1, g2⟩ | ⟨rfl, g1⟩⟩ := hM1
  · refine ⟨⟨by decide, by decide⟩, fun z => absurd z (by decide), fun _ => ?_⟩
    refine (s_in (d := d) hc (R _ (by decide) (by decide)) (R _ (by decide) (by decide))).cal fun v1 M1 hM1 => ?_
    obtain ⟨rfl, ⟨rfl, g3, g4⟩ | ⟨rfl, g3⟩⟩ := hM1
    · refine ⟨⟨by decide, by decide⟩, fun z => absurd z (by decide), fun _ => ?_⟩
      refine (s_in (d := d) hs (R _ (by decide) (by decide)) (R _ (by decide) (by decide))).cal fun v1 M1 hM1 => ?_
      obtain ⟨rfl, ⟨rfl, g5, g6⟩ | ⟨rfl, g5⟩⟩ := hM1
      · refine ⟨⟨by decide, by decide⟩, fun _ => ⟨⟨by omega, by omega⟩, ?_⟩, fun z => absurd (by decide) z⟩
        refine (s_told (d := d)).cal fun v5 M5 hM5 => ?_
        obtain ⟨rfl, rfl⟩ := hM5
        exact hQ _ _ (Or.inr ⟨by omega, rfl, rfl⟩)
      · exact ⟨⟨by decide, by decide⟩, fun z => absurd rfl z, fun _ => no (by omega)⟩
    · exact ⟨⟨by decide, by decide⟩, fun _ => no (by omega), fun z => absurd rfl z⟩
  · exact ⟨⟨by decide, by decide⟩, fun _ => no (by omega), fun z => absurd rfl z⟩
def spOk (p l : Int) : Prop := (1 ≤ p ∧ p ≤ 30) ∧ 0 ≤ l ∧ l ≤ 2
theorem s_Qsplit {d : Nat} {M : Mem} {C S : Nat → Int} {p l b : Int} (h : gOk C S) (h144 : M 144 = C) (h145 : M 145 = S) (hp : R32 p) (hl : R32 l) (hb : R32 b) : PostE (d + 4) cQ_split [oQ, .inl p, .inl l, .inl b] M (fun r M' => Fr [146] M M' ∧ ((¬ spOk p l ∧ r = .inr 2) ∨ (spOk p l ∧ r = .inl (gCh C S b p.toNat l.toNat)))) := by
  intro Q hQ
  have no : ¬ spOk p l → Q (.inr 2) M := fun h => hQ _ _ ⟨Fr.rfl', Or.inl ⟨h, rfl⟩⟩
  unfold spOk at no hQ
  refine e_Q_split (b_Q_split_0 ⟨hp, fun _ => no (by omega), fun _ => ⟨fun _ => no (by omega), fun _ => ⟨hl, fun _ => no (by omega), fun _ => ⟨fun _ => ?_, fun _ => no (by omega)⟩⟩⟩⟩)
  obtain ⟨P, rfl⟩ : ∃ P : Nat, p = P := ⟨p.toNat, by omega⟩
  refine (s_Gchoose (d := d) h h144 h145 hb (by omega)).cal fun v1 M1 hM1 => ?_
  obtain ⟨f1, g1⟩ := hM1
  refine ⟨⟨by omega, by omega⟩, hQ _ _ ⟨f1, Or.inr ⟨by omega, ?_⟩⟩⟩
  rw [g1 _ (by omega), Int.toNat_natCast]
theorem s_Msplit {d : Nat} {M : Mem} {C S : Nat → Int} {p l b : Int} (h : gOk C S) (h161 : M 161 = C) (h162 : M 162 = S) (hp : R32 p) (hl : R32 l) (hb : R32 b) : Post (d + 3) cM_split [oM, .inl p, .inl l, .inl b] M (fun v M' => FC [174] [0] M M' ∧ ((¬ spOk p l ∧ M' 175 0 = 1) ∨ (spOk p l ∧ M' 175 0 = 0 ∧ v = gCh C S b p.toNat l.toNat))) := by
  intro Q hQ
  have R : ∀ x : Int, 0 ≤ x → x ≤ 1000 → R32 x := fun x h1 h2 => ⟨by omega, by omega⟩
  have no : ¬ spOk p l → cald (d + 2) cM_refuse [oM, .inl 1] M (fun r M2 => Rt r (fun v2 => Q (.inl v2) M2) (fun x => Q (.inr x) M2)) := fun h => (s_refuse (d := d + 1)).cal fun v2 M2 hM2 => by
    obtain ⟨rfl, rfl⟩ := hM2
    exact hQ _ _ ⟨FC.rfl'.slot (by simp), Or.inl ⟨h, u2_same⟩⟩
  unfold spOk at no hQ
  refine e_M_split (b_M_split_0 ?_)
  refine (s_in (d := d + 1) hp (R _ (by decide) (by decide)) (R _ (by decide) (by decide))).cal fun v1 M1 hM1 => ?_
  obtain ⟨rfl, ⟨rfl, g1, g2⟩ | ⟨rfl, g1⟩⟩ := hM1
  · refine ⟨⟨by decide, by decide⟩, fun z => absurd z (by decide), fun _ => ?_⟩
    refine (s_in (d := d + 1) hl (R _ (by decide) (by decide)) (R _ (by decide) (by decide))).cal fun v1 M1 hM1 => ?_
    obtain ⟨rfl, ⟨rfl, g3, g4⟩ | ⟨rfl, g3⟩⟩ := hM1
    · refine ⟨⟨by decide, by decide⟩, fun _ => ?_, fun z => absurd (by decide) z⟩
      obtain ⟨P, rfl⟩ : ∃ P : Nat, p = P := ⟨p.toNat, by omega⟩
      refine (s_chooses (d := d) h h161 h162 hb (by omega)).cal fun v1 M1 hM1 => ?_
      obtain ⟨f1, k1, k2⟩ := hM1
      refine ⟨⟨by omega, by omega⟩, ?_⟩
      refine (s_told (d := d + 1)).cal fun v5 M5 hM5 => ?_
      obtain ⟨rfl, rfl⟩ := hM5
      refine hQ _ _ ⟨(f1.mono (fun _ h => h) (by simp)).slot (by simp), Or.inr ⟨by omega, u2_same, ?_⟩⟩
      rw [k1 _ (by omega), Int.toNat_natCast]
    · exact ⟨⟨by decide, by decide⟩, fun z => absurd rfl z, fun _ => no (by omega)⟩
  · exact ⟨⟨by decide, by decide⟩, fun _ => no (by omega), fun z => absurd rfl z⟩
/-- the price of freedom -/
def gPrice (C S : Nat → Int) (P : Nat) : Rat := if gSum C S (gCh C S 1 P) = 0 then mkRat 1 1 else mkRat (gSum C S (gCh C S 0 P)) (gSum C S (gCh C S 1 P)).toNat
theorem s_Qprice {d : Nat} {M : Mem} {C S : Nat → Int} {p : Int} {q0 : Rat} (h : gOk C S) (h144 : M 144 = C) (h145 : M 145 = S) (hp : R32 p) (hq0 : CF M q0) : PostE (d + 4) cQ_price [oQ, .inl p] M (fun r M' => (¬ (1 ≤ p ∧ p ≤ 30) ∧ r = .inr 2 ∧ M' = M) ∨ ((1 ≤ p ∧ p ≤ 30) ∧ Fr [0, 1, 2, 3, 146] M M' ∧ CF M' (gPrice C S p.toNat) ∧ r = .inl (gPrice C S p.toNat).num.sign)) := by
  intro Q hQ
  refine e_Q_price (b_Q_price_0 ⟨hp, fun _ => hQ _ _ (Or.inl ⟨by omega, rfl, rfl⟩), fun _ => ⟨fun _ => ?_, fun _ => hQ _ _ (Or.inl ⟨by omega, rfl, rfl⟩)⟩⟩)
  obtain ⟨P, rfl⟩ : ∃ P : Nat, p = P := ⟨p.toNat, by omega⟩
  rw [Int.toNat_natCast] at hQ
  have R : ∀ (b : Int) (A : Mem), (∀ l, l < 3 → A l = gCh C S b P) → True := fun _ _ _ => trivial
  refine (s_Gchoose (d := d) (b := 0) h h144 h145 ⟨by decide, by decide⟩ (by omega)).cal fun v1 M1 hM1 => ?_
  obtain ⟨f1, g1⟩ := hM1
  have r1 : ∀ l, l < 3 → 0 ≤ M1 146 l ∧ M1 146 l ≤ 30 := fun l hl => by
    rw [g1 l hl]
    have := gCh_r (C := C) (S := S) (b := 0) P l
    omega
  have e144 : M1 144 = C := by rw [f1 144 (by simp)]; exact h144
  have e145 : M1 145 = S := by rw [f1 145 (by simp)]; exact h145
  refine (s_GsumOfPays (d := d + 1) (by rw [e144, e145]; exact h) r1).cal fun v2 M2 hM2 => ?_
  obtain ⟨rfl, rfl⟩ := hM2
  rw [e144, e145, gSum_congr g1]
  refine (s_Gchoose (d := d) (b := 1) h e144 e145 ⟨by decide, by decide⟩ (by omega)).cal fun v3 M3 hM3 => ?_
  obtain ⟨f3, g3⟩ := hM3
  have r3 : ∀ l, l < 3 → 0 ≤ M3 146 l ∧ M3 146 l ≤ 30 := fun l hl => by
    rw [g3 l hl]
    have := gCh_r (C := C) (S := S) (b := 1) P l
    omega
  have e144' : M3 144 = C := by rw [f3 144 (by simp)]; exact e144
  have e145' : M3 145 = S := by rw [f3 145 (by simp)]; exact e145
  refine (s_GsumOfPays (d := d + 1) (by rw [e144', e145']; exact h) r3).cal fun v4 M4 hM4 => ?_
  obtain ⟨rfl, rfl⟩ := hM4
  rw [e144', e145', gSum_congr g3]
  have b0 := gSum_r h (ch := gCh C S 0 P) fun l hl => by
    have := gCh_r (C := C) (S := S) (b := 0) P l
    omega
  have b1 := gSum_r h (ch := gCh C S 1 P) fun l hl => by
    have := gCh_r (C := C) (S := S) (b := 1) P l
    omega
  have hq4 : CF M4 q0 := (hq0.kept f1 (by decide) (by decide) (by decide) (by decide)).kept f3 (by decide) (by decide) (by decide) (by decide)
  unfold gPrice at hQ
  have F : Fr [0, 1, 2, 3, 146] M M4 := (f1.mono (by simp)).tr (f3.mono (by simp))
  refine ⟨⟨by omega, by omega⟩, fun z => ?_, fun z => ?_⟩
  · simp only [if_neg z] at hQ
    obtain ⟨x, hx⟩ : ∃ x : Nat, gSum C S (gCh C S 0 P) = x := ⟨(gSum C S (gCh C S 0 P)).toNat, by omega⟩
    obtain ⟨y, hy⟩ : ∃ y : Nat, gSum C S (gCh C S 1 P) = y := ⟨(gSum C S (gCh C S 1 P)).toNat, by omega⟩
    rw [hx, hy] at hQ ⊢
    rw [Int.toNat_natCast] at hQ
    refine (s_setLongsQ (d := d) (by omega) (by omega) (by omega) hq4.rz0 hq4.rz2).cal fun v5 M5 hM5 => ?_
    obtain ⟨f5, k5, rfl⟩ := hM5
    exact hQ _ _ (Or.inr ⟨by omega, F.tr (f5.mono (by simp)), k5, rfl⟩)
  · simp only [if_pos (Classical.not_not.mp z)] at hQ
    refine (s_setLongsQ (d := d) (x := 1) (y := 1) (by decide) (by decide) (by decide) hq4.rz0 hq4.rz2).cal fun v5 M5 hM5 => ?_
    obtain ⟨f5, k5, rfl⟩ := hM5
    exact hQ _ _ (Or.inr ⟨by omega, F.tr (f5.mono (by simp)), k5, rfl⟩)
theorem s_Mprice {d : Nat} {M : Mem} {C S : Nat → Int} {p : Int} (h : gOk C S) (h161 : M 161 = C) (h162 : M 162 = S) (hp : R32 p) : Post (d + 6) cM_price [oM, .inl p] M (fun v M' => (¬ (1 ≤ p ∧ p ≤ 30) ∧ M' = upd2 M 175 0 1) ∨ ((1 ≤ p ∧ p ≤ 30) ∧ FM [174] [0] [64, 80] M M' ∧ M' 175 0 = 0 ∧ FQ M' 80 (gPrice C S p.toNat) ∧ v = (gPrice C S p.toNat).num.sign)) := by
  intro Q hQ
  refine e_M_price (b_M_price_0 ?_)
  refine (s_in (d := d + 4) hp ⟨by decide, by decide⟩ ⟨by decide, by decide⟩).cal fun v1 M1 hM1 => ?_
  obtain ⟨rfl, ⟨rfl, g1, g2⟩ | ⟨rfl, g1⟩⟩ := hM1
  · refine ⟨⟨by decide, by decide⟩, fun _ => ?_, fun z => absurd (by decide) z⟩
    obtain ⟨P, rfl⟩ : ∃ P : Nat, p = P := ⟨p.toNat, by omega⟩
    rw [Int.toNat_natCast] at hQ
    refine (s_chooses (d := d + 3) (b := 1) h h161 h162 ⟨by decide, by decide⟩ (by omega)).cal fun v2 M2 hM2 => ?_
    obtain ⟨f2, _, rfl⟩ := hM2
    refine (s_chooses (d := d + 3) (b := 0) (C := C) (S := S) h (by rw [f2.1 161 (by decide) (by decide)]; exact h161) (by rw [f2.1 162 (by decide) (by decide)]; exact h162) ⟨by decide, by decide⟩ (by omega)).cal fun v3 M3 hM3 => ?_
    obtain ⟨f3, _, rfl⟩ := hM3
    have b0 := gSum_r h (ch := gCh C S 0 P) fun l hl => by
      have := gCh_r (C := C) (S := S) (b := 0) P l
      omega
    have b1 := gSum_r h (ch := gCh C S 1 P) fun l hl => by
      have := gCh_r (C := C) (S := S) (b := 1) P l
      omega
    have F : FM [174] [0] [64, 80] M1 M3 := (((f2.tr f3).fm (by decide) (by decide) (by decide)).mono (fun _ h => h) (by simp) (by simp))
    have go : ∀ (x : Int) (y : Nat), (0 ≤ x ∧ x ≤ 450000) → (0 < y ∧ y ≤ 450000) → gPrice C S P = mkRat x y → cald (d + 5) cM_sets [oM, .inl 64, .inr (.inl x), .inr (.inl (y : Int))] M3 (fun r M4 => Rt r (fun _v4 => cald (d + 5) cM_comesTo [oM, .inl 64] M4 (fun r M5 => Rt r (fun v5 => Q (.inl v5) M5) (fun x => Q (.inr x) M5))) (fun x => Q (.inr x) M4)) := by
      intro x y hx hy he
      refine (s_sets (d := d) (i := 64) (by decide) (by omega) hy.1 (by omega)).cal fun v4 M4 hM4 => ?_
      obtain ⟨f4, k4⟩ := hM4
      refine (s_comesTo (d := d + 2) (a := 64) (by decide) (by decide) k4).cal fun v5 M5 hM5 => ?_
      obtain ⟨f5, k5, k6, rfl⟩ := hM5
      refine hQ _ _ (Or.inr ⟨by omega, (F.tr (f4.fm.mono (by simp) (by simp) (by simp))).tr (f5.mono (by simp) (by simp) (by simp)), k6, by rw [he]; exact k5, by rw [he]⟩)
    refine ⟨⟨by omega, by omega⟩, fun z => ⟨⟨by omega, by omega⟩, fun _ => ?_, fun z2 => absurd z z2⟩, fun z => ⟨fun z2 => absurd z2 z, fun _ => ?_⟩⟩
    · obtain ⟨y, hy⟩ : ∃ y : Nat, gSum C S (gCh C S 1 P) = y := ⟨(gSum C S (gCh C S 1 P)).toNat, by omega⟩
      have := go (gSum C S (gCh C S 0 P)) y b0 (by omega) (by unfold gPrice; rw [if_neg z, hy, Int.toNat_natCast])
      rw [hy]
      exact this
    · exact go 1 1 (by omega) (by omega) (by unfold gPrice; rw [if_pos (Classical.not_not.mp z)])
  · refine ⟨⟨by decide, by decide⟩, fun z => absurd rfl z, fun _ => ?_⟩
    refine (s_refuse (d := d + 4)).cal fun v2 M2 hM2 => ?_
    obtain ⟨rfl, rfl⟩ := hM2
    exact hQ _ _ (Or.inl ⟨by omega, rfl⟩)
/-- no player would be better off in another line -/
def gBal (C S ch : Nat → Int) : Prop := ∀ a b, a < 3 → b < 3 → a ≠ b → 0 < ch a → gPay C S a (ch a) ≤ gPay C S b (ch b + 1)
theorem nbo_7 {d : Nat} {Q : Rs → Mem → Prop} {M : Mem} {a : Nat} (h : gOk (M 144) (M 145)) (hc : ∀ l, l < 3 → 0 ≤ M 146 l ∧ M 146 l ≤ 30) (ha : a < 3) (h0 : ¬ gBal (M 144) (M 145) (M 146) → Q (.inl 0) M)
    (hn : (∀ b, b < 3 → a ≠ b → 0 < M 146 a → gPay (M 144) (M 145) a (M 146 a) ≤ gPay (M 144) (M 145) b (M 146 b + 1)) → ∀ o2, L_G_isNobodyBetterOff_2 (d + 1) Q M ((a : Int) + 1) o2) : ∀ (m b : Nat), b + m = 3 → (∀ c, c < b → a ≠ c → 0 < M 146 a → gPay (M 144) (M 145) a (M 146 a) ≤ gPay (M 144) (M 145) c (M 146 c + 1)) → L_G_isNobodyBetterOff_7 (d + 1) Q M (a : Int) (b : Int)
  | m, b, hb, hok => by
    have ca := hc a ha
    refine b_G_isNobodyBetterOff_7 ⟨⟨by omega, by omega⟩, fun z => ?_, fun z => ?_⟩
    · have e : b = 3 := by omega
      subst e
      exact hn hok _
    · have cb := hc b (by omega)
      cases m with
      | zero => omega
      | succ m =>
        have next : (a ≠ b → 0 < M 146 a → gPay (M 144) (M 145) a (M 146 a) ≤ gPay (M 144) (M 145) b (M 146 b + 1)) → L_G_isNobodyBetterOff_7 (d + 1) Q M (a : Int) ((b : Int) + 1) := fun hh => by
          exact nbo_7 h hc ha h0 hn m (b + 1) (by omega) fun c h1 h2 h3 => by
            by_cases e : c = b
            · subst e; exact hh h2 h3
            · exact hok c (by omega) h2 h3
        rw [Int.toNat_natCast, Int.toNat_natCast]
        refine ⟨⟨by omega, by omega⟩, ⟨by omega, by omega⟩, fun z2 => next fun _ q => absurd q (by omega), fun z2 => ⟨⟨by omega, by omega⟩, fun z3 => next fun q => absurd (by omega) q, fun z3 => ⟨⟨by omega, by omega⟩, ?_⟩⟩⟩
        refine (s_GpayIn (d := d) (show b < 3 by omega)).cal fun v1 M1 hM1 => ?_
        obtain ⟨rfl, rfl⟩ := hM1
        refine (s_GpayIn (d := d) ha).cal fun v1 M1 hM1 => ?_
        obtain ⟨rfl, rfl⟩ := hM1
        have p1 := gPay_r h (show b < 3 by omega) (x := M1 146 b + 1) (by omega)
        have p2 := gPay_r h ha (x := M1 146 a) (by omega)
        refine ⟨⟨by omega, by omega⟩, ⟨by omega, by omega⟩, fun z4 => next fun _ _ => z4, fun z4 => h0 fun y => z4 (y a b ha (by omega) (by omega) (by omega))⟩
theorem s_GisNobody {d : Nat} {M : Mem} (h : gOk (M 144) (M 145)) (hc : ∀ l, l < 3 → 0 ≤ M 146 l ∧ M 146 l ≤ 30) : Post (d + 2) cG_isNobodyBetterOff [oG] M (fun v M' => M' = M ∧ ((v = 1 ∧ gBal (M 144) (M 145) (M 146)) ∨ (v = 0 ∧ ¬ gBal (M 144) (M 145) (M 146)))) := by
  intro Q hQ
  have h0 : ¬ gBal (M 144) (M 145) (M 146) → Q (.inl 0) M := fun z => hQ _ _ ⟨rfl, Or.inr ⟨rfl, z⟩⟩
  have L7 := fun (a : Nat) (ha : a < 3) hn => nbo_7 (d := d) (Q := Q) h hc ha h0 hn 3 0 rfl (fun c hc => absurd hc (Nat.not_lt_zero c))
  refine e_G_isNobodyBetterOff (b_G_isNobodyBetterOff_0 ?_)
  refine b_G_isNobodyBetterOff_2 ⟨⟨by decide, by decide⟩, fun z => absurd z (by decide), fun _ => L7 0 (by decide) fun q0 o2 => ?_⟩
  refine b_G_isNobodyBetterOff_2 ⟨⟨by decide, by decide⟩, fun z => absurd z (by decide), fun _ => L7 1 (by decide) fun q1 o2 => ?_⟩
  refine b_G_isNobodyBetterOff_2 ⟨⟨by decide, by decide⟩, fun z => absurd z (by decide), fun _ => L7 2 (by decide) fun q2 o2 => ?_⟩
  refine b_G_isNobodyBetterOff_2 ⟨⟨by decide, by decide⟩, fun _ => hQ _ _ ⟨rfl, Or.inl ⟨rfl, fun a b ha hb hab hpos => ?_⟩⟩, fun z => absurd (by decide) z⟩
  have : a = 0 ∨ a = 1 ∨ a = 2 := by omega
  rcases this with rfl | rfl | rfl
  · exact q0 b hb hab hpos
  · exact q1 b hb hab hpos
  · exact q2 b hb hab hpos
theorem bal_loop {d : Nat} {Q : Rs → Mem → Prop} {M : Mem} (h : gOk (M 161) (M 162)) (hc : ∀ l, l < 3 → 0 ≤ M 174 l ∧ M 174 l ≤ 30) {g : Nat → Prop} (hg : ∀ k, k < 9 → (g k ↔ (k / 3 = k % 3 ∨ M 174 (k / 3) = 0 ∨ gPay (M 161) (M 162) (k / 3) (M 174 (k / 3)) ≤ gPay (M 161) (M 162) (k % 3) (M 174 (k % 3) + 1))))
    (h1 : (∀ k, k < 9 → g k) → Q (.inl 1) M) (h0 : ¬ (∀ k, k < 9 → g k) → Q (.inl 0) M) : ∀ (m k : Nat) (is : Int) (o1 o2 o5 o6 : Option PV), k + m = 9 → ((is = 1 ∧ ∀ j, j < k → g j) ∨ (is = 0 ∧ ∃ j, j < k ∧ ¬ g j)) → L_M_isBalanced_9 (d + 1) Q M o1 o2 is (k : Int) o5 o6
  | m, k, is, o1, o2, o5, o6, hk, hj => by
    have hA : R32 is ∧ (is = 0 ∨ is = 1) := by rcases hj with ⟨e, _⟩ | ⟨e, _⟩ <;> rw [e] <;> refine ⟨⟨by decide, by decide⟩, by decide⟩
    refine b_M_isBalanced_9 ⟨⟨by omega, by omega⟩, fun z => ⟨hA.2, ?_⟩, fun z => ⟨⟨by omega, by omega⟩, hA.1, fun z2 => ?_, fun z2 => ?_⟩⟩
    · have e : k = 9 := by omega
      subst e
      rcases hj with ⟨rfl, ok⟩ | ⟨rfl, j, j1, j2⟩
      · exact h1 ok
      · exact h0 fun y => j2 (y j j1)
    · cases m with
      | zero => omega
      | succ m =>
        rcases hj with ⟨rfl, ok⟩ | ⟨rfl, j, j1, j2⟩
        · exact absurd z2 (by decide)
        · exact bal_loop h hc hg h1 h0 m (k + 1) 0 _ _ _ _ (by omega) (Or.inr ⟨rfl, j, by omega, j2⟩)
    · cases m with
      | zero => omega
      | succ m =>
        rcases hj with ⟨rfl, ok⟩ | ⟨rfl, j, j1, j2⟩
        · have good : g k → ∀ o1 o2 o5 o6, L_M_isBalanced_9 (d + 1) Q M o1 o2 1 ((k : Int) + 1) o5 o6 := fun hgk o1 o2 o5 o6 => bal_loop h hc hg h1 h0 m (k + 1) 1 _ _ _ _ (by omega) (Or.inl ⟨rfl, fun j hj => by
            by_cases e : j = k
            · subst e; exact hgk
            · exact ok j (by omega)⟩)
          have bad : ¬ g k → ∀ o1 o2 o5 o6, L_M_isBalanced_9 (d + 1) Q M o1 o2 0 ((k : Int) + 1) o5 o6 := fun hgk o1 o2 o5 o6 => bal_loop h hc hg h1 h0 m (k + 1) 0 _ _ _ _ (by omega) (Or.inr ⟨rfl, k, by omega, hgk⟩)
          have hgk := hg k (by omega)
          have c1 := hc (k / 3) (by omega)
          have c2 := hc (k % 3) (by omega)
          rw [show (k : Int) / 3 = ((k / 3 : Nat) : Int) by omega, show (k : Int) % 3 = ((k % 3 : Nat) : Int) by omega, Int.toNat_natCast, Int.toNat_natCast]
          refine ⟨⟨by omega, by omega⟩, ⟨by omega, by omega⟩, fun z3 => good (hgk.mpr (Or.inl (by omega))) _ _ _ _, fun z3 => ⟨⟨by omega, by omega⟩, ⟨by omega, by omega⟩, fun z4 => good (hgk.mpr (Or.inr (Or.inl z4))) _ _ _ _, fun z4 => ?_⟩⟩
          refine (s_MpayIn (d := d) (show k / 3 < 3 by omega)).cal fun v1 M1 hM1 => ?_
          obtain ⟨rfl, rfl⟩ := hM1
          refine ⟨⟨by omega, by omega⟩, ?_⟩
          refine (s_MpayIn (d := d) (show k % 3 < 3 by omega)).cal fun v1 M1 hM1 => ?_
          obtain ⟨rfl, rfl⟩ := hM1
          have p1 := gPay_r h (show k / 3 < 3 by omega) (x := M1 174 (k / 3)) (by omega)
          have p2 := gPay_r h (show k % 3 < 3 by omega) (x := M1 174 (k % 3) + 1) (by omega)
          refine ⟨⟨by omega, by omega⟩, ⟨by omega, by omega⟩, fun z5 => bad (fun y => ?_) _ _ _ _, fun z5 => good (hgk.mpr (Or.inr (Or.inr (by omega)))) _ _ _ _⟩
          rcases hgk.mp y with y | y | y
          · omega
          · exact z4 y
          · omega
        · exact absurd rfl z2
theorem s_isBalanced {d : Nat} {M : Mem} {C S : Nat → Int} {P : Nat} (h : gOk C S) (h161 : M 161 = C) (h162 : M 162 = S) (hP : P ≤ 30) : Post (d + 3) cM_isBalanced [oM, .inl (P : Int)] M (fun v M' => FC [174] [] M M' ∧ ((v = 1 ∧ gBal C S (gCh C S 0 P)) ∨ (v = 0 ∧ ¬ gBal C S (gCh C S 0 P)))) := by
  intro Q hQ
  refine e_M_isBalanced (b_M_isBalanced_0 ?_)
  refine (s_chooses (d := d) (b := 0) h h161 h162 ⟨by decide, by decide⟩ hP).cal fun v1 M1 hM1 => ?_
  obtain ⟨f1, k1, _⟩ := hM1
  have e161 : M1 161 = C := by rw [f1.1 161 (by decide) (by decide)]; exact h161
  have e162 : M1 162 = S := by rw [f1.1 162 (by decide) (by decide)]; exact h162
  have hr : ∀ l, l < 3 → 0 ≤ M1 174 l ∧ M1 174 l ≤ 30 := fun l hl => by
    rw [k1 l hl]
    have := gCh_r (C := C) (S := S) (b := 0) P l
    omega
  have hiff : (∀ k, k < 9 → (k / 3 = k % 3 ∨ M1 174 (k / 3) = 0 ∨ gPay (M1 161) (M1 162) (k / 3) (M1 174 (k / 3)) ≤ gPay (M1 161) (M1 162) (k % 3) (M1 174 (k % 3) + 1))) ↔ gBal C S (gCh C S 0 P) := by
    rw [e161, e162]
    constructor
    · intro g a b ha hb hab hpos
      have := g (3 * a + b) (by omega)
      rw [show (3 * a + b) / 3 = a by omega, show (3 * a + b) % 3 = b by omega, k1 a ha, k1 b hb] at this
      rcases this with y | y | y
      · exact absurd y hab
      · omega
      · exact y
    · intro g k hk
      have c := hr (k / 3) (by omega)
      rw [k1 (k / 3) (by omega)] at c ⊢
      rw [k1 (k % 3) (by omega)]
      by_cases e : k / 3 = k % 3
      · exact Or.inl e
      · by_cases e2 : gCh C S 0 P (k / 3) = 0
        · exact Or.inr (Or.inl e2)
        · exact Or.inr (Or.inr (g _ _ (by omega) (by omega) e (by omega)))
  refine bal_loop (d := d + 1) (by rw [e161, e162]; exact h) hr (g := fun k => (k / 3 = k % 3 ∨ M1 174 (k / 3) = 0 ∨ gPay (M1 161) (M1 162) (k / 3) (M1 174 (k / 3)) ≤ gPay (M1 161) (M1 162) (k % 3) (M1 174 (k % 3) + 1))) (fun _ _ => Iff.rfl) (fun y => hQ _ _ ⟨f1, Or.inl ⟨rfl, hiff.mp y⟩⟩) (fun y => hQ _ _ ⟨f1, Or.inr ⟨rfl, fun w => y (hiff.mpr w)⟩⟩) 9 0 1 _ _ _ _ rfl (Or.inl ⟨rfl, fun j hj => absurd hj (Nat.not_lt_zero j)⟩)
