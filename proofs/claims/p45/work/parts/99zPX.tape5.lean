/-! isTape: what was told is read. -/
theorem addT_v {f T : Nat → Int} {n : Nat} : ∀ c, (∀ x, x < 4 * n → addT f n T c x = f x) ∧ ∀ y, y < 4 * c → addT f n T c (4 * n + y) = T y
  | 0 => ⟨fun _ _ => rfl, fun y hy => absurd hy (Nat.not_lt_zero y)⟩
  | c + 1 => by
    obtain ⟨h1, h2⟩ := addT_v (f := f) (T := T) (n := n) c
    obtain ⟨p1, p2, p3, p4⟩ := add4_at (f := addT f n T c) (n := n + c) (a := T (4 * c)) (b := T (4 * c + 1)) (c := T (4 * c + 2)) (e := T (4 * c + 3))
    refine ⟨fun x hx => ?_, fun y hy => ?_⟩
    · show add4 _ _ _ _ _ _ x = _
      rw [add4_lo (by omega)]
      exact h1 x hx
    · show add4 (addT f n T c) (n + c) _ _ _ _ (4 * n + y) = _
      by_cases z : y < 4 * c
      · rw [add4_lo (by omega)]
        exact h2 y z
      · rcases (show y = 4 * c ∨ y = 4 * c + 1 ∨ y = 4 * c + 2 ∨ y = 4 * c + 3 by omega) with rfl | rfl | rfl | rfl
        · rw [show 4 * n + 4 * c = 4 * (n + c) by omega]; exact p1
        · rw [show 4 * n + (4 * c + 1) = 4 * (n + c) + 1 by omega]; exact p2
        · rw [show 4 * n + (4 * c + 2) = 4 * (n + c) + 2 by omega]; exact p3
        · rw [show 4 * n + (4 * c + 3) = 4 * (n + c) + 3 by omega]; exact p4
section TPF
variable {d : Nat} {Q : LQ} {M : Mem} {C C0 : LMem} {j j' : StJ} {l : StL} {c : StC} {n : StN} {e : StE} {g : StG} {h : StH} {t : StT} {r a b q1 q3 : Nat} {fa fb fs f : Nat → Int}
theorem IQ.h20 (q : IQ j l c n e g h t M) : h.1 ≤ 20 := q.jb.2.2.2.1.1
theorem c_undoL (q : IQ j' l c n e g (hlen h.1, hcnt h.1 h.2.1 (j.1 : Int), hcnt h.1 h.2.2 j.2) t M) (hu : h.1 ≤ 20) : LPo (d + 1) cW_done [oH, .inl 28, .inl 0, .inl 0, .inl 0, .inl 0] M C (fun v m c' => c' = C ∧ (0 ≤ v ∧ v ≤ 20) ∧ ∃ h', IQ (j.1, bckJ j.2 j'.2) l c n e g h' t m) := by
  have hl : 0 < hlen h.1 ∧ hlen h.1 ≤ 20 := by
    unfold hlen
    by_cases z : h.1 = 20
    · rw [if_pos z]; exact ⟨by decide, by decide⟩
    · rw [if_neg z]; omega
  have e1 : hcnt h.1 h.2.1 (j.1 : Int) (hlen h.1 - 1) = (j.1 : Int) := hlen_top hu
  have e2 : hcnt h.1 h.2.2 j.2 (hlen h.1 - 1) = j.2 := hlen_top hu
  refine (c_undo (m := j.1) q hl.1 e1 (w := 0) (x := 0) (y := 0) (z := 0) ⟨⟨by decide, by decide⟩, by decide, by decide⟩ ⟨by decide, by decide⟩ ⟨by decide, by decide⟩).imp ?_
  rintro v m c' ⟨rfl, rfl, hq⟩
  have hq : IQ (j.1, bckJ (hcnt h.1 h.2.2 j.2 (hlen h.1 - 1)) j'.2) l c n e g (hlen h.1 - 1, hcnt h.1 h.2.1 (j.1 : Int), hcnt h.1 h.2.2 j.2) t m := hq
  rw [e2] at hq
  refine ⟨rfl, ?_, _, hq⟩
  show 0 ≤ ((hlen h.1 - 1 : Nat) : Int) ∧ ((hlen h.1 - 1 : Nat) : Int) ≤ 20
  omega
theorem tp_320 {o1 o4 o5 o6 o7 o10 : Option PV} (hQ : ∀ (M : Mem) (C : LMem) (j : StJ) (h : StH) (t : StT), IQ j l c n e g h t M → LF [r, a, b] C0 C → JCs r a b j l C → Q 1 M C) (q : IQ j' l c n e g (hlen h.1, hcnt h.1 h.2.1 (j.1 : Int), hcnt h.1 h.2.2 j.2) t M) (hu : h.1 ≤ 20) (hn : j.1 ≤ 20) (hfb : fb 0 = (j.1 : Int) ∧ fb 2 = l.2.1) (hfs : ∀ x, x < 4 * j.1 → fs x = j.2 x) {kc : Nat} (hkc : kc ≤ 2000) :
    ∀ (u k : Nat) (C : LMem) (fa : Nat → Int), k + u = 96 → TSq C0 r a b q1 q3 fa fb fs f C → (∀ x, x < k → fa x = fs x) → L_W_isTape_320 (d + 130) Q M C kc o1 a b o4 o5 o6 o7 q3 (k : Int) o10 := by
  intro u
  induction u with
  | zero =>
    intro k C fa hk hs hx
    obtain ⟨hr, ha, hb, -, -, hf, -⟩ := id hs
    refine b_W_isTape_320 ⟨⟨by omega, by omega⟩, fun _ => ⟨by omega, ?_⟩, fun z => absurd (by omega) z⟩
    refine c_undoL q hu _ ?_
    rintro v1 M1 C1 ⟨rfl, hv1, h', hq1⟩
    simp only [hb, hfb.1]
    refine ⟨⟨by omega, by omega⟩, fun z => absurd z (by omega), fun _ => ⟨trivial, ⟨by omega, by omega⟩, by omega, ?_⟩⟩
    refine c_jobNo hq1 (a := (j.1 : Int)) (b := 0) (y := 0) (z := 0) (by show ¬ (0 ≤ (j.1 : Int) ∧ (j.1 : Int) < (j.1 : Int)); omega) ⟨by omega, by omega⟩ ⟨by decide, by decide⟩ ⟨by decide, by decide⟩ ⟨by decide, by decide⟩ _ ?_
    rintro v2 M2 C2 ⟨rfl, hq2, rfl⟩
    refine ⟨⟨by decide, by decide⟩, fun z => absurd rfl z, fun _ => hQ M2 C2 _ h' t hq2 hf ⟨hr, ⟨fa, ha, fun x hx9 => ?_⟩, fb, hb, hfb.1, hfb.2⟩⟩
    show fa x = bckJ j.2 j'.2 x
    have hx9 : x < 4 * j.1 := hx9
    unfold bckJ
    rw [if_pos (by omega), hx x (by omega), hfs x hx9]
  | succ u ih =>
    intro k C fa hk hs hx
    obtain ⟨hr, ha, hb, h3, -, hf, -⟩ := id hs
    refine b_W_isTape_320 ⟨⟨by omega, by omega⟩, fun z => absurd z (by omega), fun _ => ?_⟩
    simp only [h3, ha, cup_of ha, Int.toNat_natCast]
    refine ⟨trivial, ⟨by omega, by omega⟩, trivial, ⟨by omega, by omega⟩, ?_⟩
    exact ih (k + 1) _ _ (by omega) (hs.seta (i := k) (v := fs k)) (fun x hx9 => by
      by_cases z : x = k
      · rw [z, sr_same]
      · rw [sr_ne z]; exact hx x (by omega))
theorem tp_278 {o4 o5 o7 : Option PV} {cnt : Nat} (hQ : ∀ (M : Mem) (C : LMem) (j : StJ) (h : StH) (t : StT), IQ j l c n e g h t M → LF [r, a, b] C0 C → JCs r a b j l C → Q 1 M C) (hu : h.1 ≤ 20) (hn : j.1 ≤ 20) (hcn3 : cnt ≤ 3) (hfb : fb 0 = (j.1 : Int) ∧ fb 2 = l.2.1) (hfs : ∀ x, x < 4 * j.1 → fs x = j.2 x) (hj' : j'.1 = j.1 + cnt) (hJ : ∀ x, x < 4 * (j.1 + cnt) → fa x = j'.2 x) (hs : TSq C0 r a b q1 q3 fa fb fs f C) :
    ∀ (u k : Nat) (M : Mem) (kc : Nat) (o10 : Option PV), k + u = cnt → kc + 12 * u ≤ 1900 → IQ j' l c n e g (hlen h.1, hcnt h.1 h.2.1 (j.1 : Int), hcnt h.1 h.2.2 j.2) t M → L_W_isTape_278 (d + 130) Q M C kc r a b o4 o5 (cnt : Int) o7 q3 ((j.1 + k : Nat) : Int) o10 := by
  obtain ⟨⟨x, hr⟩, ha, hb, h3, -, hf, -⟩ := id hs
  intro u
  induction u with
  | zero =>
    intro k M kc o10 hk hkc q
    refine b_W_isTape_278 ?_
    simp only [hb, hfb.1]
    refine ⟨trivial, ⟨by omega, by omega⟩, ⟨by omega, by omega⟩, ⟨by omega, by omega⟩, fun _ => ⟨by omega, ?_⟩, fun z => absurd (by omega) z⟩
    refine s_nextF hr _ ?_
    rintro v1 M1 C1 ⟨rfl, hv1, hr1, hf1⟩
    have hs1 := hs.rnd hf1 hr1
    obtain ⟨-, ha1, hb1, -, -, hf9, -⟩ := id hs1
    simp only [hb1, cup_of hb1, hfb.1]
    refine ⟨by omega, ⟨by omega, by omega⟩, fun _ => ⟨trivial, ⟨by omega, by omega⟩, ?_⟩, fun _ => ?_⟩
    · obtain ⟨x1, hr1⟩ := hr1
      refine hQ M1 _ j' _ t q (hf9.own (by simp) hb1) ⟨⟨x1, by rw [cst_ne (ne_len hr1 hb1 (by decide))]; exact hr1⟩, ⟨fa, by rw [cst_ne (ne_len ha1 hb1 (by decide))]; exact ha1, fun x hx => hJ x (by omega)⟩, _, cst_self, ?_, ?_⟩
      · rw [sr_same]; omega
      · rw [sr_ne (by decide)]; exact hfb.2
    · exact tp_320 hQ q hu hn hfb hfs (by omega) 96 0 C1 fa (by omega) hs1 (fun x hx => absurd hx (Nat.not_lt_zero x))
  | succ u ih =>
    intro k M kc o10 hk hkc q
    have hV := q.jobR
    obtain ⟨T, hT⟩ := PT_ex (many := l.1) (by_ := l.2.1) (space := l.2.2.1) (wait := l.2.2.2) hV q.ln.1.2.2.2.2.1.1.1
    have l287 : ∀ (w s : Nat) (M : Mem) (kc : Nat), s + w = 4 → kc + 3 * w + 12 * u ≤ 1900 → IQ j' l c n e g (hlen h.1, hcnt h.1 h.2.1 (j.1 : Int), hcnt h.1 h.2.2 j.2) t M → L_W_isTape_287 (d + 130) Q M C kc r a b o4 o5 (cnt : Int) o7 q3 ((j.1 + k : Nat) : Int) (4 + (s : Int)) := by
      intro w
      induction w with
      | zero =>
        intro s M kc hs4 hkc q
        refine b_W_isTape_287 ⟨⟨by omega, by omega⟩, fun _ => ?_, fun z => absurd (by omega) z⟩
        exact ih (k + 1) M kc _ (by omega) (by omega) q
      | succ w ihw =>
        intro s M kc hs4 hkc q
        refine b_W_isTape_287 ⟨⟨by omega, by omega⟩, fun z => absurd z (by omega), fun _ => ⟨by omega, ?_⟩⟩
        refine c_jobAt q (a := ((j.1 + k : Nat) : Int)) (b := 4 + (s : Int)) (y := 0) (z := 0) ⟨by omega, by omega⟩ ⟨by omega, by omega⟩ ⟨by decide, by decide⟩ ⟨by decide, by decide⟩ _ ?_
        rintro v m1 c1 ⟨rfl, q9, hv⟩
        have hv := hv T hT
        unfold jobVal at hv
        rw [if_neg (by omega), if_neg (by omega), if_neg (by omega), if_neg (by omega), Int.toNat_natCast, show (4 + (s : Int) - 4).toNat = s by omega] at hv
        simp only [ha]
        rw [show (4 * ((j.1 + k : Nat) : Int) + (4 + (s : Int)) - 4).toNat = 4 * (j.1 + k) + s by omega, hJ _ (by omega), ← hv]
        have hjob := hV.2.1 (j.1 + k) (by omega)
        unfold jobOk at hjob
        have rg : 0 ≤ v ∧ v ≤ 500 := by
          rcases (show s = 0 ∨ s = 1 ∨ s = 2 ∨ s = 3 by omega) with w | w | w | w <;> subst w
          · rw [Nat.add_zero] at hv; omega
          all_goals omega
        refine ⟨trivial, ⟨by omega, by omega⟩, ⟨by omega, by omega⟩, ⟨by omega, by omega⟩, fun _ => ?_, fun z => absurd rfl z⟩
        rw [show 4 + (s : Int) + 1 = 4 + ((s + 1 : Nat) : Int) by omega]
        exact ihw (s + 1) m1 _ (by omega) (by omega) q9
    refine b_W_isTape_278 ?_
    simp only [hb, hfb.1]
    refine ⟨trivial, ⟨by omega, by omega⟩, ⟨by omega, by omega⟩, ⟨by omega, by omega⟩, fun z => absurd z (by omega), fun _ => ?_⟩
    exact l287 4 0 M kc (by omega) (by omega) q
/-- the text's end -/
theorem tx_fin {U f : Nat → Int} {i st m cls : Nat} {F : (Nat → Int) → Nat → Int} (h : TX f i st m cls F) (hU : ∀ k, k < i → U k = f k) (T : Nat → Int) (y : PX) (hy : pRun U i T y) : y = (st, i, m, F T) := by
  obtain ⟨a, ha⟩ := h U i T hU (Nat.le_refl i) (fun z => absurd z (Nat.lt_irrefl i))
  have hsk : skB U i i = i := rnn_st fun z => absurd z.1 (Nat.lt_irrefl i)
  rw [hsk] at ha
  refine pRun_uniq hy ⟨?_, a, ha⟩
  unfold pFin
  exact fun z => absurd z.1 (Nat.lt_irrefl i)
theorem tp_250 {o7 o9 o10 : Option PV} {cnt i kc : Nat} {tm : Int} (hQ : ∀ (M : Mem) (C : LMem) (j : StJ) (h : StH) (t : StT), IQ j l c n e g h t M → LF [r, a, b] C0 C → JCs r a b j l C → Q 1 M C) (hn : j.1 ≤ 20) (hcn3 : cnt ≤ 3) (hfb : fb 0 = (j.1 : Int) ∧ fb 2 = l.2.1) (hfs : ∀ x, x < 4 * j.1 → fs x = j.2 x) (q : IQ j l c n e g h t M) (hs : TSq C0 r a b q1 q3 fa fb fs f C) (hE : TE j.1 cnt fa f i) (hB : TBq j.1 j.2 cnt fa tm) (hkc : kc ≤ 600) :
    L_W_isTape_250 (d + 130) Q M C kc r a b q1 (i : Int) (cnt : Int) o7 q3 o9 o10 := by
  obtain ⟨⟨x, hr⟩, ha, hb, h3, h1, hf, -⟩ := id hs
  obtain ⟨⟨F, hX, hF⟩, hc9, hi, -⟩ := hE
  obtain ⟨b1, b2, b3, -⟩ := hB
  refine b_W_isTape_250 ⟨by omega, ?_⟩
  refine s_types (d := d + 129) q h1 (by omega) hc9 _ ?_
  rintro v1 M1 C1 ⟨rfl, rfl, U, hU, q1'⟩
  refine ⟨⟨by decide, by decide⟩, fun z => absurd z (by decide), fun _ => ⟨by omega, ?_⟩⟩
  refine d_fault q1' _ ?_
  rintro v2 M2 ⟨q2', T, y, hT, hy, hv2⟩
  have hyf := tx_fin hX hU T y hy
  have hv : v2 = -1 := by rw [hv2, hyf]; rfl
  show R32 v2 ∧ _
  refine ⟨⟨by omega, by omega⟩, fun z => absurd hv z, fun _ => ⟨by omega, ?_⟩⟩
  refine c_read q2' (T9 := fun x => fa (4 * j.1 + x)) (c9 := cnt) (w := 0) (x := 0) (y := 0) (z := 0) (fun T y hT hy => ?_) b2 b3 (by omega) ⟨⟨by decide, by decide⟩, by decide, by decide⟩ ⟨by decide, by decide⟩ ⟨by decide, by decide⟩ _ ?_
  · have := tx_fin hX hU T y hy
    rw [this]
    exact ⟨rfl, rfl, fun z hz => hF T z hz⟩
  · rintro v3 M3 C3 ⟨rfl, rfl, V, hV, q3'⟩
    simp only [hb, hfb.1]
    refine ⟨trivial, ⟨by omega, by omega⟩, ⟨by omega, by omega⟩, ⟨by omega, by omega⟩, fun _ => ?_, fun z => absurd (by omega) z⟩
    obtain ⟨w1, w2⟩ := addT_v (f := j.2) (T := V) (n := j.1) cnt
    refine tp_278 (j := j) (h := h) hQ q.h20 hn hcn3 hfb hfs rfl (fun z hz => ?_) hs cnt 0 M3 _ _ (by omega) (by omega) q3'
    by_cases zz : z < 4 * j.1
    · exact (b1 z zz).trans (w1 z zz).symm
    · have := w2 (z - 4 * j.1) (by omega)
      rw [show 4 * j.1 + (z - 4 * j.1) = z by omega] at this
      show fa z = addT j.2 j.1 V cnt z
      rw [this, hV _ (by omega)]
      show fa z = fa (4 * j.1 + (z - 4 * j.1))
      congr 1
      omega
theorem tp_88e {o10 : Option PV} {cnt i kc : Nat} {tm : Int} (hQ : ∀ (M : Mem) (C : LMem) (j : StJ) (h : StH) (t : StT), IQ j l c n e g h t M → LF [r, a, b] C0 C → JCs r a b j l C → Q 1 M C) (hn : j.1 ≤ 20) (hcn3 : cnt ≤ 3) (hfb : fb 0 = (j.1 : Int) ∧ fb 2 = l.2.1) (hfs : ∀ x, x < 4 * j.1 → fs x = j.2 x) (q : IQ j l c n e g h t M) (hs : TSq C0 r a b q1 q3 fa fb fs f C) (hE : TE j.1 cnt fa f i) (hB : TBq j.1 j.2 cnt fa tm) (hkc : kc ≤ 300) :
    L_W_isTape_88 (d + 130) Q M C kc r a b q1 (i : Int) (cnt : Int) tm q3 (cnt : Int) o10 := by
  obtain ⟨⟨x, hr⟩, ha, hb, h3, h1, hf, -⟩ := id hs
  obtain ⟨-, hc9, hi, htail⟩ := id hE
  refine b_W_isTape_88 ⟨⟨by omega, by omega⟩, ⟨by omega, by omega⟩, fun _ => ⟨fun _ => tp_250 hQ hn hcn3 hfb hfs q hs hE hB (by omega), fun z => ⟨by omega, ?_⟩⟩, fun z => absurd (Int.le_refl _) z⟩
  obtain ⟨i0, st, c8, cls, F, hst, hX⟩ := htail (by omega)
  rw [show (i : Int) - 1 = ((i - 1 : Nat) : Int) by omega]
  refine s_types (d := d + 129) q h1 (by omega) (fun k hk => hc9 k (by omega)) _ ?_
  rintro v1 M1 C1 ⟨rfl, rfl, U, hU, q1'⟩
  refine ⟨⟨by decide, by decide⟩, fun z => absurd z (by decide), fun _ => ⟨by omega, ?_⟩⟩
  refine d_fault q1' _ ?_
  rintro v2 M2 ⟨q2', T, y, hT, hy, hv2⟩
  have key : ∀ T y, pRun U (i - 1) T y → pFault (i - 1) y = ((i - 1 : Nat) : Int) := fun T y hy => by
    rw [tx_fin hX hU T y hy]
    unfold pFault
    rw [if_neg (by show ¬ st = 9; omega), if_neg (by show ¬ st = 0; omega)]
  have hv : v2 = ((i - 1 : Nat) : Int) := by rw [hv2]; exact key T y hy
  show R32 v2 ∧ _
  refine ⟨⟨by omega, by omega⟩, ⟨by omega, by omega⟩, fun z => absurd hv z, fun _ => ⟨by omega, ?_⟩⟩
  refine c_readNo q2' (w := 0) (x := 0) (y := 0) (z := 0) (fun T y hT hy => ?_) ⟨⟨by decide, by decide⟩, by decide, by decide⟩ ⟨by decide, by decide⟩ ⟨by decide, by decide⟩ _ ?_
  · have := key T y hy
    show pFault (i - 1) y ≠ -1
    omega
  · rintro v3 M3 C3 ⟨rfl, rfl, q3'⟩
    exact ⟨⟨by decide, by decide⟩, fun _ => tp_250 hQ hn hcn3 hfb hfs q3' hs hE hB (by omega), fun z => absurd rfl z⟩
end TPF
