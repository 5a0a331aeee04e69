/-! isPlay: the jobs of the play, its first row. -/
theorem mtW_ge {n : Nat} {J : Nat → Int} (hV : VJ n J) : ∀ m, m ≤ n → (m : Int) ≤ sumN (mtW J (-1)) m
  | 0, _ => Int.le_refl 0
  | m + 1, h => by
    have := mtW_ge hV m (by omega)
    have hj := hV.2.1 m (by omega)
    unfold jobOk at hj
    show ((m + 1 : Nat) : Int) ≤ sumN (mtW J (-1)) m + mtW J (-1) m
    unfold mtW
    rw [if_pos (Or.inl rfl)]
    unfold mtW at this
    omega
theorem mtQ_div {n : Nat} {J : Nat → Int} {many by_ space wait : Int} {T : Nat} (hV : VJ n J) (h0 : n ≠ 0) : mtQ n J many by_ space wait T (-1) = ((sumN (mtT n J many by_ space wait T (-1)) n : Int) : Rat) / ((sumN (mtW J (-1)) n : Int) : Rat) := by
  have h1 := mtW_ge hV n (Nat.le_refl n)
  unfold mtQ
  rw [if_neg (by omega), Rat.mkRat_eq_div]
  have : (((sumN (mtW J (-1)) n).toNat : Nat) : Rat) = ((sumN (mtW J (-1)) n : Int) : Rat) := by
    rw [← Rat.intCast_natCast, Int.toNat_of_nonneg (by omega)]
  rw [this]
section IP3
variable {d : Nat} {Q : LQ} {C0 : LMem} {j : StJ} {l : StL} {c : StC} {n : StN} {e : StE} {g : StG} {h : StH} {t : StT} {r a b q2 q3 q4 q5 : Nat} {fa fb : Nat → Int} {o4 o5 o18 o19 o20 : Option PV}
theorem ip_244 {E F G N : Nat → Int} {T : Nat} (hV : VJ j.1 j.2) (hfa : ∀ i, i < 4 * j.1 → fa i = j.2 i) (hfb : fb 0 = (j.1 : Int)) (hl : lineOk l.1 l.2.1 l.2.2.1 l.2.2.2) (hT : PT j.1 j.2 l.1 l.2.1 l.2.2.1 l.2.2.2 T)
    (hE : ∀ k, k < j.1 → E k = (sAt j.1 j.2 l.1 l.2.1 l.2.2.1 l.2.2.2 T).2.2.2 0 k ∧ F k = (sAt j.1 j.2 l.1 l.2.1 l.2.2.1 l.2.2.2 T).2.2.2 3 k ∧ G k = (sAt j.1 j.2 l.1 l.2.1 l.2.2.1 l.2.2.2 T).2.2.2 2 k) {i10 : Int}
    (hN2 : ∀ (M : Mem) (C : LMem) (kc : Nat), kc ≤ 900 → IQ j l c n e g h t M → RSq C0 r a b q2 q3 q4 q5 fa fb E F G N C → ∀ o11 o12 o14, L_W_isPlay_397 (d + 130) Q M C kc r a b o4 o5 q2 q3 q4 q5 i10 o11 o12 none o14 none 0 0 o18 o19 o20) :
    ∀ (m k : Nat) (M : Mem) (C : LMem) (kc : Nat) (i11 j12 j14 : Int) (o17 : Option PV), k + m = j.1 → kc + 24 * m ≤ 890 → IQ j l c n e g h t M → RSq C0 r a b q2 q3 q4 q5 fa fb E F G N C → i11 = cntZ E k → j12 = sumN (mtT j.1 j.2 l.1 l.2.1 l.2.2.1 l.2.2.2 T (-1)) k → j14 = sumN (mtW j.2 (-1)) k →
      L_W_isPlay_244 (d + 130) Q M C kc r a b o4 o5 q2 q3 q4 q5 i10 i11 j12 j14 (k : Int) o17 o18 o19 o20 := by
  have h24 := hV.1
  intro m
  induction m with
  | zero =>
    intro k M C kc i11 j12 j14 o17 hk hkc q hs hi hj12 hj14
    obtain rfl : k = j.1 := by omega
    have hb := hs.2.2.1
    refine b_W_isPlay_244 ?_
    simp only [hb, hfb]
    refine ⟨trivial, ⟨by omega, by omega⟩, ⟨by omega, by omega⟩, ⟨by omega, by omega⟩, fun _ => ⟨fun z => hN2 M C _ (by omega) q hs _ _ _, fun z => ⟨by omega, q.mac6 (by omega) (fun U hU => ?_) fun M1 q1 => ⟨by omega, ?_⟩⟩⟩, fun z => absurd (by omega) z⟩
    · rw [hi, ← hT.uniq hU]
      exact cntZ_congr _ fun k hk => (hE k hk).1
    · refine c_mean q1 (a := -1) ⟨by decide, by decide⟩ ⟨by decide, by decide⟩ ⟨by decide, by decide⟩ ⟨by decide, by decide⟩ _ ?_
      rintro v m c' ⟨rfl, q2', U, hU, hcf, hv⟩
      obtain rfl : T = U := hT.uniq hU
      have hb := mt_b (kind := -1) hV hl.1.1 hT j.1 (Nat.le_refl _)
      have hw := mtW_ge hV j.1 (Nat.le_refl _)
      rw [← hj12, ← hj14] at hb
      rw [← hj14] at hw
      have em := mtQ_div (many := l.1) (by_ := l.2.1) (space := l.2.2.1) (wait := l.2.2.2) (T := T) hV (show j.1 ≠ 0 by omega)
      rw [← hj12, ← hj14] at em
      have h0 : j14 ≠ 0 := by omega
      refine ⟨by omega, ?_⟩
      refine s_of (d := d + 2) (by unfold A63; omega) (by unfold A63; omega) h0 _ ?_
      rintro v3 m3 c3 ⟨rfl, q, rfl, hq, hf3, hl3⟩
      refine ⟨by omega, ?_⟩
      rw [Int.toNat_natCast, hv]
      rw [← em] at hl3
      refine s_isCame (d := d) hcf (by rw [em]; exact (Bq_div h0).ok (by omega) (by omega)) hl3 _ ?_
      rintro v4 m4 c4 ⟨rfl, rfl, hf4⟩
      exact ⟨⟨by decide, by decide⟩, fun _ => hN2 m4 c4 _ (by omega) q2' ((hs.off hf3).off hf4) _ _ _, fun z => absurd (by decide) z⟩
  | succ m ih =>
    intro k M C kc i11 j12 j14 o17 hk hkc q hs hi hj12 hj14
    obtain ⟨-, ha, hb, h2, h3, h4, h5, -⟩ := id hs
    have hkn : k < j.1 := by omega
    obtain ⟨e0, e3, e2⟩ := hE k hkn
    obtain ⟨p1, p2, p3, p4⟩ := hT.job hV hl.1.1 hkn
    rw [← e0] at p1
    rw [← e2] at p2
    rw [← e3] at p3
    have hj := hV.2.1 k hkn
    unfold jobOk at hj
    have fk : ∀ s, s < 4 → fa (4 * k + s) = j.2 (4 * k + s) := fun s hs => hfa _ (by omega)
    have z4 : (4 * (k : Int)).toNat = 4 * k := by omega
    have fk0 := fk 0 (by decide)
    rw [Nat.add_zero] at fk0
    -- the end of the round
    have tail : ∀ (M1 : Mem) (kc1 : Nat) (x : Int) (o17 : Option PV), kc1 + 24 * m ≤ 890 → IQ j l c n e g h t M1 → x = cntZ E (k + 1) → L_W_isPlay_337 (d + 130) Q M1 C kc1 r a b o4 o5 q2 q3 q4 q5 i10 x j12 j14 (k : Int) o17 o18 o19 o20 := by
      intro M1 kc1 x o17 hk1 q1 hx
      refine b_W_isPlay_337 ?_
      simp only [h3, ha, Int.toNat_natCast]
      rw [z4, fk0, show (4 * (k : Int) + 3).toNat = 4 * k + 3 by omega, fk 3 (by decide)]
      refine ⟨trivial, ⟨by omega, by omega⟩, trivial, ⟨by omega, by omega⟩, ⟨by omega, by omega⟩, ⟨by omega, by omega⟩, ⟨by omega, by omega⟩, ?_⟩
      refine ih (k + 1) M1 C kc1 _ _ _ o17 (by omega) (by omega) q1 hs hx ?_ ?_
      · show _ = sumN _ k + mtT _ _ _ _ _ _ _ _ k
        rw [hj12]
        unfold mtT
        rw [if_pos (Or.inl rfl)]
        unfold pTime
        rw [e3]
      · show _ = sumN _ k + mtW _ _ k
        rw [hj14]
        unfold mtW
        rw [if_pos (Or.inl rfl)]
    have l303 : ∀ (u s : Nat) (M1 : Mem) (kc1 : Nat), s + u = 4 → kc1 + 3 * u + 24 * m ≤ 890 → IQ j l c n e g h t M1 → L_W_isPlay_303 (d + 130) Q M1 C kc1 r a b o4 o5 q2 q3 q4 q5 i10 i11 j12 j14 (k : Int) (4 + (s : Int)) o18 o19 o20 := by
      intro u
      induction u with
      | zero =>
        intro s M1 kc1 hs4 hk1 q1
        refine b_W_isPlay_303 ⟨⟨by omega, by omega⟩, fun _ => ?_, fun z => absurd (by omega) z⟩
        simp only [h2, Int.toNat_natCast]
        refine ⟨trivial, ⟨by omega, by omega⟩, ⟨by omega, by omega⟩, fun z => ?_, fun z => ?_⟩
        · refine tail M1 kc1 _ _ (by omega) q1 ?_
          show i11 + 0 = cntZ E k + if E k = 0 then 1 else 0
          rw [if_neg z, hi]
        · refine tail M1 kc1 _ _ (by omega) q1 ?_
          show i11 + 1 = cntZ E k + if E k = 0 then 1 else 0
          rw [if_pos (Classical.not_not.mp z), hi]
      | succ u ihu =>
        intro s M1 kc1 hs4 hk1 q1
        refine b_W_isPlay_303 ⟨⟨by omega, by omega⟩, fun z => absurd z (by omega), fun _ => ⟨by omega, ?_⟩⟩
        refine c_jobAt q1 (a := (k : Int)) (b := 4 + (s : Int)) (y := 0) (z := 0) ⟨by omega, by omega⟩ ⟨by omega, by omega⟩ ⟨by decide, by decide⟩ ⟨by decide, by decide⟩ _ ?_
        rintro v m1 c1 ⟨rfl, q9, hv⟩
        have hv := hv T hT
        unfold jobVal at hv
        rw [if_neg (by omega), if_neg (by omega), if_neg (by omega), if_neg (by omega), Int.toNat_natCast, show (4 + (s : Int) - 4).toNat = s by omega] at hv
        simp only [ha]
        rw [show (4 * (k : Int) + (4 + (s : Int)) - 4).toNat = 4 * k + s by omega, fk s (by omega), ← hv]
        have rg : 0 ≤ v ∧ v ≤ 500 := by
          rcases (show s = 0 ∨ s = 1 ∨ s = 2 ∨ s = 3 by omega) with w | w | w | w <;> subst w
          · rw [Nat.add_zero] at hv; omega
          all_goals omega
        refine ⟨trivial, ⟨by omega, by omega⟩, ⟨by omega, by omega⟩, ⟨by omega, by omega⟩, fun _ => ?_, fun z => absurd rfl z⟩
        rw [show 4 + (s : Int) + 1 = 4 + ((s + 1 : Nat) : Int) by omega]
        exact ihu (s + 1) m1 _ (by omega) (by omega) q9
    refine b_W_isPlay_244 ?_
    simp only [hb, hfb]
    refine ⟨trivial, ⟨by omega, by omega⟩, ⟨by omega, by omega⟩, ⟨by omega, by omega⟩, fun z => absurd z (by omega), fun _ => ⟨by omega, ?_⟩⟩
    refine c_jobAt q (a := (k : Int)) (b := 0) (y := 0) (z := 0) ⟨by omega, by omega⟩ ⟨by decide, by decide⟩ ⟨by decide, by decide⟩ ⟨by decide, by decide⟩ _ ?_
    rintro v1 m1 c1 ⟨rfl, q1, hv1⟩
    have hv1 := hv1 T hT
    unfold jobVal at hv1
    rw [if_pos rfl, Int.toNat_natCast, ← e0] at hv1
    simp only [h2, Int.toNat_natCast]
    rw [← hv1] at p1 ⊢
    refine ⟨trivial, ⟨by omega, by omega⟩, ⟨by omega, by omega⟩, ⟨by omega, by omega⟩, fun z => absurd rfl z, fun _ => ⟨by omega, ?_⟩⟩
    refine c_jobAt q1 (a := (k : Int)) (b := 1) (y := 0) (z := 0) ⟨by omega, by omega⟩ ⟨by decide, by decide⟩ ⟨by decide, by decide⟩ ⟨by decide, by decide⟩ _ ?_
    rintro v2 m2 c2 ⟨rfl, q2', hv2⟩
    have hv2 := hv2 T hT
    unfold jobVal at hv2
    rw [if_neg (by decide), if_pos rfl, Int.toNat_natCast, ← e2] at hv2
    simp only [h4]
    rw [← hv2] at p2 ⊢
    refine ⟨trivial, ⟨by omega, by omega⟩, ⟨by omega, by omega⟩, ⟨by omega, by omega⟩, fun z => absurd rfl z, fun _ => ⟨by omega, ?_⟩⟩
    refine c_jobAt q2' (a := (k : Int)) (b := 2) (y := 0) (z := 0) ⟨by omega, by omega⟩ ⟨by decide, by decide⟩ ⟨by decide, by decide⟩ ⟨by decide, by decide⟩ _ ?_
    rintro v3 m3 c3 ⟨rfl, q3', hv3⟩
    have hv3 := hv3 T hT
    unfold jobVal at hv3
    rw [if_neg (by decide), if_neg (by decide), if_pos rfl, Int.toNat_natCast, ← e3] at hv3
    simp only [h3]
    rw [← hv3]
    rw [← hv3] at p3
    refine ⟨trivial, ⟨by omega, by omega⟩, ⟨by omega, by omega⟩, ⟨by omega, by omega⟩, fun z => absurd rfl z, fun _ => ⟨by omega, ?_⟩⟩
    refine c_jobAt q3' (a := (k : Int)) (b := 3) (y := 0) (z := 0) ⟨by omega, by omega⟩ ⟨by decide, by decide⟩ ⟨by decide, by decide⟩ ⟨by decide, by decide⟩ _ ?_
    rintro v4 m4 c4 ⟨rfl, q4', hv4⟩
    have hv4 := hv4 T hT
    unfold jobVal at hv4
    rw [if_neg (by decide), if_neg (by decide), if_neg (by decide), if_pos rfl, Int.toNat_natCast] at hv4
    unfold pTime at hv4
    rw [← e3, ← hv3] at hv4
    simp only [h3, ha, Int.toNat_natCast]
    rw [z4, fk0, ← hv3, ← hv4]
    refine ⟨trivial, ⟨by omega, by omega⟩, trivial, ⟨by omega, by omega⟩, ⟨by omega, by omega⟩, ⟨by omega, by omega⟩, fun _ => ?_, fun z => absurd rfl z⟩
    exact l303 4 0 m4 _ (by omega) (by omega) q4'
end IP3
