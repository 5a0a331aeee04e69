/-! option, split, price, the balance: both sides. -/
def optOk (l c s : Int) : Prop := (0 ≤ l ∧ l ≤ 2) ∧ (0 ≤ c ∧ c ≤ 999) ∧ 0 ≤ s ∧ s ≤ 99
theorem s_Qoption {d : Nat} {M : Mem} {l c s : Int} (hl : R32 l) (hc : R32 c) (hs : R32 s) : PostE (d + 1) cQ_option [oQ, .inl l, .inl c, .inl s] M (fun r M' => (¬ optOk l c s ∧ r = .inr 2 ∧ M' = M) ∨ (optOk l c s ∧ r = .inl (M 144 l.toNat) ∧ M' = upd2 (upd2 M 144 l.toNat c) 145 l.toNat s)) := by
  intro Q hQ
  have no : ¬ optOk l c s → Q (.inr 2) M := fun h => hQ _ _ (Or.inl ⟨h, rfl, rfl⟩)
  unfold optOk at no hQ
  exact e_Q_option (b_Q_option_0 ⟨hl, fun _ => no (by omega), fun _ => ⟨fun _ => no (by omega), fun _ => ⟨hc, fun _ => no (by omega), fun _ => ⟨fun _ => no (by omega), fun _ => ⟨hs, fun _ => no (by omega), fun _ => ⟨fun _ => ⟨⟨by omega, by omega⟩, hQ _ _ (Or.inr ⟨by omega, rfl, rfl⟩)⟩, fun _ => no (by omega)⟩⟩⟩⟩⟩⟩)
def spOk (p l : Int) : Prop := (1 ≤ p ∧ p ≤ 30) ∧ 0 ≤ l ∧ l ≤ 2
theorem s_Qsplit {d : Nat} {M : Mem} {C S : Nat → Int} {p l b : Int} (h : gOk C S) (h144 : M 144 = C) (h145 : M 145 = S) (hp : R32 p) (hl : R32 l) (hb : R32 b) : PostE (d + 4) cQ_split [oQ, .inl p, .inl l, .inl b] M (fun r M' => Fr [146] M M' ∧ ((¬ spOk p l ∧ r = .inr 2) ∨ (spOk p l ∧ r = .inl (gCh C S b p.toNat l.toNat)))) := by
  intro Q hQ
  have no : ¬ spOk p l → Q (.inr 2) M := fun h => hQ _ _ ⟨Fr.rfl', Or.inl ⟨h, rfl⟩⟩
  unfold spOk at no hQ
  refine e_Q_split (b_Q_split_0 ⟨hp, fun _ => no (by omega), fun _ => ⟨fun _ => no (by omega), fun _ => ⟨hl, fun _ => no (by omega), fun _ => ⟨fun _ => ?_, fun _ => no (by omega)⟩⟩⟩⟩)
  obtain ⟨P, rfl⟩ : ∃ P : Nat, p = P := ⟨p.toNat, by omega⟩
  refine (s_Gchoose (d := d) h h144 h145 hb (by omega)).cal fun v1 M1 hM1 => ?_
  obtain ⟨f1, g1⟩ := hM1
  refine ⟨⟨by omega, by omega⟩, hQ _ _ ⟨f1, Or.inr ⟨by omega, ?_⟩⟩⟩
  rw [g1 _ (by omega), Int.toNat_natCast]
/-- the price of freedom -/
def gPrice (C S : Nat → Int) (P : Nat) : Rat := if gSum C S (gCh C S 1 P) = 0 then mkRat 1 1 else mkRat (gSum C S (gCh C S 0 P)) (gSum C S (gCh C S 1 P)).toNat
theorem s_Qprice {d : Nat} {M : Mem} {C S : Nat → Int} {p : Int} {q0 : Rat} (h : gOk C S) (h144 : M 144 = C) (h145 : M 145 = S) (hp : R32 p) (hq0 : CF M q0) : PostE (d + 4) cQ_price [oQ, .inl p] M (fun r M' => (¬ (1 ≤ p ∧ p ≤ 30) ∧ r = .inr 2 ∧ M' = M) ∨ ((1 ≤ p ∧ p ≤ 30) ∧ Fr [0, 1, 2, 3, 146] M M' ∧ CF M' (gPrice C S p.toNat) ∧ r = .inl (gPrice C S p.toNat).num.sign)) := by
  intro Q hQ
  refine e_Q_price (b_Q_price_0 ⟨hp, fun _ => hQ _ _ (Or.inl ⟨by omega, rfl, rfl⟩), fun _ => ⟨fun _ => ?_, fun _ => hQ _ _ (Or.inl ⟨by omega, rfl, rfl⟩)⟩⟩)
  obtain ⟨P, rfl⟩ : ∃ P : Nat, p = P := ⟨p.toNat, by omega⟩
  rw [Int.toNat_natCast] at hQ
  have R : ∀ (b : Int) (A : Mem), (∀ l, l < 3 → A l = gCh C S b P) → True := fun _ _ _ => trivial
  refine (s_Gchoose (d := d) (b := 0) h h144 h145 ⟨by decide, by decide⟩ (by omega)).cal fun v1 M1 hM1 => ?_
  obtain ⟨f1, g1⟩ := hM1
  have r1 : ∀ l, l < 3 → 0 ≤ M1 146 l ∧ M1 146 l ≤ 30 := fun l hl => by
    rw [g1 l hl]
    have := gCh_r (C := C) (S := S) (b := 0) P l
    omega
  have e144 : M1 144 = C := by rw [f1 144 (by simp)]; exact h144
  have e145 : M1 145 = S := by rw [f1 145 (by simp)]; exact h145
  refine (s_GsumOfPays (d := d + 1) (by rw [e144, e145]; exact h) r1).cal fun v2 M2 hM2 => ?_
  obtain ⟨rfl, rfl⟩ := hM2
  rw [e144, e145, gSum_congr g1]
  refine (s_Gchoose (d := d) (b := 1) h e144 e145 ⟨by decide, by decide⟩ (by omega)).cal fun v3 M3 hM3 => ?_
  obtain ⟨f3, g3⟩ := hM3
  have r3 : ∀ l, l < 3 → 0 ≤ M3 146 l ∧ M3 146 l ≤ 30 := fun l hl => by
    rw [g3 l hl]
    have := gCh_r (C := C) (S := S) (b := 1) P l
    omega
  have e144' : M3 144 = C := by rw [f3 144 (by simp)]; exact e144
  have e145' : M3 145 = S := by rw [f3 145 (by simp)]; exact e145
  refine (s_GsumOfPays (d := d + 1) (by rw [e144', e145']; exact h) r3).cal fun v4 M4 hM4 => ?_
  obtain ⟨rfl, rfl⟩ := hM4
  rw [e144', e145', gSum_congr g3]
  have b0 := gSum_r h (ch := gCh C S 0 P) fun l hl => by
    have := gCh_r (C := C) (S := S) (b := 0) P l
    omega
  have b1 := gSum_r h (ch := gCh C S 1 P) fun l hl => by
    have := gCh_r (C := C) (S := S) (b := 1) P l
    omega
  have hq4 : CF M4 q0 := (hq0.kept f1 (by decide) (by decide) (by decide) (by decide)).kept f3 (by decide) (by decide) (by decide) (by decide)
  unfold gPrice at hQ
  have F : Fr [0, 1, 2, 3, 146] M M4 := (f1.mono (by simp)).tr (f3.mono (by simp))
  refine ⟨⟨by omega, by omega⟩, fun z => ?_, fun z => ?_⟩
  · simp only [if_neg z] at hQ
    obtain ⟨x, hx⟩ : ∃ x : Nat, gSum C S (gCh C S 0 P) = x := ⟨(gSum C S (gCh C S 0 P)).toNat, by omega⟩
    obtain ⟨y, hy⟩ : ∃ y : Nat, gSum C S (gCh C S 1 P) = y := ⟨(gSum C S (gCh C S 1 P)).toNat, by omega⟩
    rw [hx, hy] at hQ ⊢
    rw [Int.toNat_natCast] at hQ
    refine (s_setLongsQ (d := d) (by omega) (by omega) (by omega) hq4.rz0 hq4.rz2).cal fun v5 M5 hM5 => ?_
    obtain ⟨f5, k5, rfl⟩ := hM5
    exact hQ _ _ (Or.inr ⟨by omega, F.tr (f5.mono (by simp)), k5, rfl⟩)
  · simp only [if_pos (Classical.not_not.mp z)] at hQ
    refine (s_setLongsQ (d := d) (x := 1) (y := 1) (by decide) (by decide) (by decide) hq4.rz0 hq4.rz2).cal fun v5 M5 hM5 => ?_
    obtain ⟨f5, k5, rfl⟩ := hM5
    exact hQ _ _ (Or.inr ⟨by omega, F.tr (f5.mono (by simp)), k5, rfl⟩)
/-- no player would be better off in another line -/
def gBal (C S ch : Nat → Int) : Prop := ∀ a b, a < 3 → b < 3 → a ≠ b → 0 < ch a → gPay C S a (ch a) ≤ gPay C S b (ch b + 1)
theorem nbo_7 {d : Nat} {Q : Rs → Mem → Prop} {M : Mem} {a : Nat} (h : gOk (M 144) (M 145)) (hc : ∀ l, l < 3 → 0 ≤ M 146 l ∧ M 146 l ≤ 30) (ha : a < 3) (h0 : ¬ gBal (M 144) (M 145) (M 146) → Q (.inl 0) M)
    (hn : (∀ b, b < 3 → a ≠ b → 0 < M 146 a → gPay (M 144) (M 145) a (M 146 a) ≤ gPay (M 144) (M 145) b (M 146 b + 1)) → ∀ o2, L_G_isNobodyBetterOff_2 (d + 1) Q M ((a : Int) + 1) o2) : ∀ (m b : Nat), b + m = 3 → (∀ c, c < b → a ≠ c → 0 < M 146 a → gPay (M 144) (M 145) a (M 146 a) ≤ gPay (M 144) (M 145) c (M 146 c + 1)) → L_G_isNobodyBetterOff_7 (d + 1) Q M (a : Int) (b : Int)
  | m, b, hb, hok => by
    have ca := hc a ha
    refine b_G_isNobodyBetterOff_7 ⟨⟨by omega, by omega⟩, fun z => ?_, fun z => ?_⟩
    · have e : b = 3 := by omega
      subst e
      exact hn hok _
    · have cb := hc b (by omega)
      cases m with
      | zero => omega
      | succ m =>
        have next : (a ≠ b → 0 < M 146 a → gPay (M 144) (M 145) a (M 146 a) ≤ gPay (M 144) (M 145) b (M 146 b + 1)) → L_G_isNobodyBetterOff_7 (d + 1) Q M (a : Int) ((b : Int) + 1) := fun hh => by
          exact nbo_7 h hc ha h0 hn m (b + 1) (by omega) fun c h1 h2 h3 => by
            by_cases e : c = b
            · subst e; exact hh h2 h3
            · exact hok c (by omega) h2 h3
        rw [Int.toNat_natCast, Int.toNat_natCast]
        refine ⟨⟨by omega, by omega⟩, ⟨by omega, by omega⟩, fun z2 => next fun _ q => absurd q (by omega), fun z2 => ⟨⟨by omega, by omega⟩, fun z3 => next fun q => absurd (by omega) q, fun z3 => ⟨⟨by omega, by omega⟩, ?_⟩⟩⟩
        refine (s_GpayIn (d := d) (show b < 3 by omega)).cal fun v1 M1 hM1 => ?_
        obtain ⟨rfl, rfl⟩ := hM1
        refine (s_GpayIn (d := d) ha).cal fun v1 M1 hM1 => ?_
        obtain ⟨rfl, rfl⟩ := hM1
        have p1 := gPay_r h (show b < 3 by omega) (x := M1 146 b + 1) (by omega)
        have p2 := gPay_r h ha (x := M1 146 a) (by omega)
        refine ⟨⟨by omega, by omega⟩, ⟨by omega, by omega⟩, fun z4 => next fun _ _ => z4, fun z4 => h0 fun y => z4 (y a b ha (by omega) (by omega) (by omega))⟩
theorem s_GisNobody {d : Nat} {M : Mem} (h : gOk (M 144) (M 145)) (hc : ∀ l, l < 3 → 0 ≤ M 146 l ∧ M 146 l ≤ 30) : Post (d + 2) cG_isNobodyBetterOff [oG] M (fun v M' => M' = M ∧ ((v = 1 ∧ gBal (M 144) (M 145) (M 146)) ∨ (v = 0 ∧ ¬ gBal (M 144) (M 145) (M 146)))) := by
  intro Q hQ
  have h0 : ¬ gBal (M 144) (M 145) (M 146) → Q (.inl 0) M := fun z => hQ _ _ ⟨rfl, Or.inr ⟨rfl, z⟩⟩
  have L7 := fun (a : Nat) (ha : a < 3) hn => nbo_7 (d := d) (Q := Q) h hc ha h0 hn 3 0 rfl (fun c hc => absurd hc (Nat.not_lt_zero c))
  refine e_G_isNobodyBetterOff (b_G_isNobodyBetterOff_0 ?_)
  refine b_G_isNobodyBetterOff_2 ⟨⟨by decide, by decide⟩, fun z => absurd z (by decide), fun _ => L7 0 (by decide) fun q0 o2 => ?_⟩
  refine b_G_isNobodyBetterOff_2 ⟨⟨by decide, by decide⟩, fun z => absurd z (by decide), fun _ => L7 1 (by decide) fun q1 o2 => ?_⟩
  refine b_G_isNobodyBetterOff_2 ⟨⟨by decide, by decide⟩, fun z => absurd z (by decide), fun _ => L7 2 (by decide) fun q2 o2 => ?_⟩
  refine b_G_isNobodyBetterOff_2 ⟨⟨by decide, by decide⟩, fun _ => hQ _ _ ⟨rfl, Or.inl ⟨rfl, fun a b ha hb hab hpos => ?_⟩⟩, fun z => absurd (by decide) z⟩
  have : a = 0 ∨ a = 1 ∨ a = 2 := by omega
  rcases this with rfl | rfl | rfl
  · exact q0 b hb hab hpos
  · exact q1 b hb hab hpos
  · exact q2 b hb hab hpos