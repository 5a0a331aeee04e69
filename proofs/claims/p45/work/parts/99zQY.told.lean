/-! isNet: what is told. -/
theorem zor_nat {s t : Nat} (hs : s < 128) (ht : t < 128) : zor (s : Int) (t : Int) = ((s ||| t : Nat) : Int) := by
  unfold zor
  rw [show ((s : Int) % 4294967296).toNat = s by omega, show ((t : Int) % 4294967296).toNat = t by omega]
theorem p2i : ∀ a, a < 4 → (1 : Int) * 2 ^ a = ((2 ^ a : Nat) : Int) ∧ 2 ^ a ≤ 8 := by decide
theorem or_lt2 {s a n : Nat} (hs : s < 2 ^ n) (ha : a < n) : s ||| 2 ^ a < 2 ^ n := Nat.or_lt_two_pow hs (Nat.pow_lt_pow_right (by decide) ha)
theorem or_bit {s a j : Nat} : (s ||| 2 ^ a).testBit j = (s.testBit j || decide (a = j)) := by rw [Nat.testBit_or, bit_pow]
theorem chain_stop {n : Nat} {S : Nat → Nat → Prop} (hn : n ≤ 3) (mono : ∀ t x, S t x → S (t + 1) x) (next : ∀ t, (∀ x, x < n → S (t + 1) x → S t x) → ∀ x, x < n → S (t + 1 + 1) x → S (t + 1) x) : ∀ x, x < n → S (n + 1) x → S n x := by
  refine Classical.byContradiction fun hno => ?_
  have ex : ∀ t, (¬ ∀ x, x < n → S (t + 1) x → S t x) → ∃ x, x < n ∧ S (t + 1) x ∧ ¬ S t x := fun t h =>
    Classical.byContradiction fun h2 => h fun x hx h3 => Classical.byContradiction fun h4 => h2 ⟨x, hx, h3, h4⟩
  have up : ∀ {t x : Nat} (k : Nat), S t x → S (t + k) x := fun {t x} k h => by
    induction k with
    | zero => exact h
    | succ k ih => exact mono _ _ ih
  have all : ∀ k, k ≤ n → ¬ ∀ x, x < n → S (n - k + 1) x → S (n - k) x := by
    intro k
    induction k with
    | zero => intro _; exact hno
    | succ k ih =>
      intro hk h
      have h1 := next _ h
      rw [show n - (k + 1) + 1 = n - k by omega] at h1
      exact ih (by omega) h1
  have pick : ∀ t, t ≤ n → ∃ x, x < n ∧ S (t + 1) x ∧ ¬ S t x := fun t ht => ex t (by
    have := all (n - t) (by omega)
    rw [show n - (n - t) = t by omega] at this
    exact this)
  have ne : ∀ {t u x y : Nat}, t < u → S (t + 1) x → ¬ S u y → x ≠ y := fun {t u x y} htu h1 h2 e => h2 (by
    rw [← e]
    have := up (u - (t + 1)) h1
    rw [show t + 1 + (u - (t + 1)) = u by omega] at this
    exact this)
  rcases (show n = 0 ∨ n = 1 ∨ n = 2 ∨ n = 3 by omega) with rfl | rfl | rfl | rfl
  · obtain ⟨x, hx, -⟩ := pick 0 (by omega)
    omega
  · obtain ⟨x, hx, x1, x2⟩ := pick 0 (by omega)
    obtain ⟨y, hy, y1, y2⟩ := pick 1 (by omega)
    have := ne (show 0 < 1 by omega) x1 y2
    omega
  · obtain ⟨x, hx, x1, x2⟩ := pick 0 (by omega)
    obtain ⟨y, hy, y1, y2⟩ := pick 1 (by omega)
    obtain ⟨z, hz, z1, z2⟩ := pick 2 (by omega)
    have a1 := ne (show 0 < 1 by omega) x1 y2
    have a2 := ne (show 0 < 2 by omega) x1 z2
    have a3 := ne (show 1 < 2 by omega) y1 z2
    omega
  · obtain ⟨x, hx, x1, x2⟩ := pick 0 (by omega)
    obtain ⟨y, hy, y1, y2⟩ := pick 1 (by omega)
    obtain ⟨z, hz, z1, z2⟩ := pick 2 (by omega)
    obtain ⟨w, hw, w1, w2⟩ := pick 3 (by omega)
    have a1 := ne (show 0 < 1 by omega) x1 y2
    have a2 := ne (show 0 < 2 by omega) x1 z2
    have a3 := ne (show 1 < 2 by omega) y1 z2
    have a4 := ne (show 0 < 3 by omega) x1 w2
    have a5 := ne (show 1 < 3 by omega) y1 w2
    have a6 := ne (show 2 < 3 by omega) z1 w2
    omega
/-- what leads to B within so many rounds -/
def Bk (n : Nat) (E : Nat → Nat → Prop) (B0 B : Nat → Prop) : Nat → Nat → Prop
  | 0, x => B0 x
  | t + 1, x => Bk n E B0 B t x ∨ B x ∨ ∃ c, c < n ∧ E x c ∧ Bk n E B0 B t c
theorem Bk_all {n : Nat} {E E' : Nat → Nat → Prop} {B0 B : Nat → Prop} (hn : n ≤ 3) (hE : ∀ x y, E' x y → x < n ∧ y < n ∧ E x y) {x j : Nat} (hx : x < n) (hr : Rch E' x j) (hj : B j) : Bk n E B0 B (n + 1) x := by
  have st := chain_stop (S := Bk n E B0 B) hn (fun t x h => Or.inl h) (fun t h x hx h2 => by
    rcases h2 with h2 | h2 | ⟨c, c1, c2, c3⟩
    · exact h2
    · exact Or.inr (Or.inl h2)
    · exact Or.inr (Or.inr ⟨c, c1, c2, h c c1 c3⟩))
  have back : ∀ y z, E' y z → Bk n E B0 B (n + 1) z → Bk n E B0 B (n + 1) y := fun y z e h => by
    obtain ⟨e1, e2, e3⟩ := hE y z e
    exact Or.inr (Or.inr ⟨z, e2, e3, st z e2 h⟩)
  have := hr (fun y => Bk n E B0 B (n + 1) y → Bk n E B0 B (n + 1) x) id (fun y z h e hz => h (back y z e hz))
  exact this (Or.inr (Or.inl hj))
theorem Rch.of1 {E : Nat → Nat → Prop} {i k j : Nat} (e : E i k) (h : Rch E k j) : Rch E i j := (Rch.step (Rch.refl i) e).tr h
/-! The law's rows while the net is told. -/
def NFq (C0 : LMem) (r4 r5 r6 n : Nat) (Pp : Nat → Nat) : Prop := (C0 r4).1 = 0 ∧ (C0 r5).1 = 0 ∧ MxF C0 r6 n Pp ∧ r4 ≠ r5 ∧ ∀ i, i < n → r4 ≠ Pp i ∧ r5 ≠ Pp i
def NWq (C0 : LMem) (r r4 r5 r6 n : Nat) (Pp : Nat → Nat) (cm sv : Nat → Int) (Tp : Nat → Nat → Int) (C : LMem) : Prop := CBq C0 r C ∧ NTq C r4 r5 r6 n Pp cm sv Tp ∧ NFq C0 r4 r5 r6 n Pp
section NWS
variable {C0 C C' : LMem} {r r4 r5 r6 n : Nat} {Pp : Nat → Nat} {cm sv : Nat → Int} {Tp : Nat → Nat → Int}
theorem NWq.off (h : NWq C0 r r4 r5 r6 n Pp cm sv Tp C) (hf : LF [] C C') : NWq C0 r r4 r5 r6 n Pp cm sv Tp C' := ⟨h.1.off hf, h.2.1.off hf, h.2.2⟩
theorem NWq.rnd (h : NWq C0 r r4 r5 r6 n Pp cm sv Tp C) (hf : LF [r] C C') (hr : ∃ x, C' r = (1, 1, x)) : NWq C0 r r4 r5 r6 n Pp cm sv Tp C' := by
  obtain ⟨h1, ⟨⟨f, f1, f2⟩, ⟨g, g1, g2⟩, h3⟩, h4, h5, h6, h7⟩ := h
  have hr0 := h1.2.2
  exact ⟨h1.rnd hf hr, ⟨⟨f, hf.at' (k := 0) (nin1 fun z => hr0 (by rw [← z]; exact h4)) f1, f2⟩, ⟨g, hf.at' (k := 0) (nin1 fun z => hr0 (by rw [← z]; exact h5)) g1, g2⟩, h3.rndF hf h6 hr0⟩, h4, h5, h6, h7⟩
theorem NWq.setC {i : Nat} {v : Int} {f : Nat → Int} (h : NWq C0 r r4 r5 r6 n Pp cm sv Tp C) (hf : C r4 = (1, n, f)) : NWq C0 r r4 r5 r6 n Pp (sr cm i v) sv Tp (cst C r4 (1, n, sr f i v)) := by
  obtain ⟨h1, ⟨⟨f', f1, f2⟩, ⟨g, g1, g2⟩, ⟨⟨x, x1, x2⟩, x3, x4⟩⟩, h4, h5, h6, h7, h8⟩ := h
  have ef : f = f' := by rw [hf] at f1; exact congrArg (fun x : LCel => x.2.2) f1
  refine ⟨h1.set h4, ⟨⟨_, cst_self, fun k hk => ?_⟩, ⟨g, by rw [cst_ne (Ne.symm h7)]; exact g1, g2⟩, ⟨⟨x, ?_, x2⟩, fun k hk => ?_, x4⟩⟩, h4, h5, h6, h7, h8⟩
  · by_cases e : k = i
    · rw [e, sr_same, sr_same]
    · rw [sr_ne e, sr_ne e, ef]; exact f2 k hk
  · rw [cst_ne (fun e => ?_)]
    · exact x1
    · rw [e, hf] at x1
      have h9 : (1 : Nat) = 4 := congrArg (fun x : LCel => x.1) x1
      omega
  · obtain ⟨y, y1, y2⟩ := x3 k hk
    exact ⟨y, by rw [cst_ne (Ne.symm (h8 k hk).1)]; exact y1, y2⟩
theorem NWq.setS {i : Nat} {v : Int} {f : Nat → Int} (h : NWq C0 r r4 r5 r6 n Pp cm sv Tp C) (hf : C r5 = (1, n, f)) : NWq C0 r r4 r5 r6 n Pp cm (sr sv i v) Tp (cst C r5 (1, n, sr f i v)) := by
  obtain ⟨h1, ⟨⟨f', f1, f2⟩, ⟨g, g1, g2⟩, ⟨⟨x, x1, x2⟩, x3, x4⟩⟩, h4, h5, h6, h7, h8⟩ := h
  have ef : f = g := by rw [hf] at g1; exact congrArg (fun x : LCel => x.2.2) g1
  refine ⟨h1.set h5, ⟨⟨f', by rw [cst_ne h7]; exact f1, f2⟩, ⟨_, cst_self, fun k hk => ?_⟩, ⟨⟨x, ?_, x2⟩, fun k hk => ?_, x4⟩⟩, h4, h5, h6, h7, h8⟩
  · by_cases e : k = i
    · rw [e, sr_same, sr_same]
    · rw [sr_ne e, sr_ne e, ef]; exact g2 k hk
  · rw [cst_ne (fun e => ?_)]
    · exact x1
    · rw [e, hf] at x1
      have h9 : (1 : Nat) = 4 := congrArg (fun x : LCel => x.1) x1
      omega
  · obtain ⟨y, y1, y2⟩ := x3 k hk
    exact ⟨y, by rw [cst_ne (Ne.symm (h8 k hk).2)]; exact y1, y2⟩
theorem NWq.setT {i j : Nat} {v : Int} {g : Nat → Int} (h : NWq C0 r r4 r5 r6 n Pp cm sv Tp C) (hi : i < n) (hg : C (Pp i) = (1, n, g)) : NWq C0 r r4 r5 r6 n Pp cm sv (upA Tp i j v) (cst C (Pp i) (1, n, sr g j v)) := by
  obtain ⟨h1, ⟨⟨f', f1, f2⟩, ⟨g', g1, g2⟩, h3⟩, h4, h5, h6, h7, h8⟩ := h
  exact ⟨h1.set (h6.2 i hi), ⟨⟨f', by rw [cst_ne (h8 i hi).1]; exact f1, f2⟩, ⟨g', by rw [cst_ne (h8 i hi).2]; exact g1, g2⟩, h3.set hi hg (h3.kne (by decide) hi)⟩, h4, h5, h6, h7, h8⟩
end NWS
/-- the class and the law's rows agree, for the nodes below a -/
def NIv (a n : Nat) (cm sv : Nat → Int) (Tp : Nat → Nat → Int) (Cc Ss : Nat → Int) (Aa : Nat → Nat → Int) : Prop := (∀ i, i < a → (Cc i = cm i ∧ Ss i = sv i) ∧ (0 ≤ cm i ∧ cm i ≤ 8) ∧ 1 ≤ sv i ∧ sv i ≤ 12) ∧ (∀ i, a ≤ i → i < n → Cc i = 0) ∧ ∀ i j, i < n → j < n → Aa i j = 25 * Tp i j
def TIv (a n : Nat) (Tp : Nat → Nat → Int) : Prop := (∀ i j, i < n → j < n → 0 ≤ Tp i j ∧ Tp i j ≤ 4) ∧ (∀ i, i < n → rowS Tp i n ≤ 4) ∧ ∀ i j, a ≤ i → i < n → j < n → Tp i j = 0
theorem rot_in : ∀ n, n < 4 → ∀ a, a < n → ∀ b, b < n → (a + 1 + b) % n < n ∧ ∀ c, c < n → (a + 1 + b) % n = (a + 1 + c) % n → b = c := by decide
theorem row_25 {A T : Nat → Nat → Int} {i : Nat} : ∀ n, (∀ j, j < n → A i j = 25 * T i j) → rowS A i n = 25 * rowS T i n
  | 0, _ => rfl
  | n + 1, h => by
    show rowS A i n + A i n = 25 * (rowS T i n + T i n)
    rw [row_25 n (fun j hj => h j (by omega)), h n (by omega)]
    omega
theorem row_0 {T : Nat → Nat → Int} {i : Nat} : ∀ n, (∀ j, j < n → T i j = 0) → rowS T i n = 0
  | 0, _ => rfl
  | n + 1, h => by
    show rowS T i n + T i n = 0
    rw [row_0 n (fun j hj => h j (by omega)), h n (by omega)]
    rfl
section NET1
variable {d : Nat} {Q : LQ} {C0 : LMem} {j : StJ} {l : StL} {c : StC} {e : StE} {g : StG} {h : StH} {t : StT} {r r4 r5 r6 n : Nat} {Pp : Nat → Nat}
theorem nt_76 (hn : 1 ≤ n ∧ n ≤ 3) {a kc0 : Nat} {i3 : Int} (ha : a < n) (h3 : i3 = 0 ∨ i3 = 1) (hkc0 : kc0 ≤ 400)
    (hN : ∀ (M : Mem) (C : LMem) (kc' : Nat) (cm sv : Nat → Int) (Tp : Nat → Nat → Int) (Cc Ss : Nat → Int) (Aa : Nat → Nat → Int) (o8 o9 o10 : Option PV), kc' ≤ kc0 + 12 → IQ j l c (n, Cc, Ss, Aa) e g h t M → NWq C0 r r4 r5 r6 n Pp cm sv Tp C → NIv (a + 1) n cm sv Tp Cc Ss Aa → TIv (a + 1) n Tp → L_W_isNet_37 (d + 131) Q M C kc' r (n : Int) i3 r4 r5 r6 ((a : Int) + 1) o8 o9 o10 none none none none none none none) :
    ∀ (u b : Nat) (M : Mem) (C : LMem) (kc : Nat) (lf : Int) (cm sv : Nat → Int) (Tp : Nat → Nat → Int) (Cc Ss : Nat → Int) (Aa : Nat → Nat → Int) (o10 : Option PV), b + u = n → kc + 4 * u ≤ kc0 + 12 → IQ j l c (n, Cc, Ss, Aa) e g h t M → NWq C0 r r4 r5 r6 n Pp cm sv Tp C → NIv (a + 1) n cm sv Tp Cc Ss Aa → TIv (a + 1) n Tp → (0 ≤ lf ∧ lf ≤ 4) → rowS Tp a n = 4 - lf → (∀ b', b ≤ b' → b' < n → Tp a ((a + 1 + b') % n) = 0) → L_W_isNet_76 (d + 131) Q M C kc r (n : Int) i3 r4 r5 r6 (a : Int) lf (b : Int) o10 none none none none none none none := by
  intro u
  induction u with
  | zero =>
    intro b M C kc lf cm sv Tp Cc Ss Aa o10 hb hkc q hW hI hT hl hs hz
    obtain rfl : b = n := by omega
    exact b_W_isNet_76 ⟨⟨by omega, by omega⟩, ⟨by omega, by omega⟩, fun _ => hN M C kc cm sv Tp Cc Ss Aa _ _ _ (by omega) q hW hI hT, fun z => absurd (Int.le_refl _) z⟩
  | succ u ih =>
    intro b M C kc lf cm sv Tp Cc Ss Aa o10 hb hkc q hW hI hT hl hs hz
    have hb9 : b < n := by omega
    obtain ⟨to9, inj⟩ := rot_in n (by omega) a ha b hb9
    have e10 : (((a : Int) + 1) + (b : Int)) % (n : Int) = (((a + 1 + b) % n : Nat) : Int) := by
      rw [Int.natCast_emod]
      congr 1
    have hto0 := hz b (Nat.le_refl b) hb9
    generalize hto : (a + 1 + b) % n = to at *
    have h107 : ∀ (M : Mem) (C : LMem) (K : Nat) (v : Int) (o10 : Option PV), K ≤ kc → (0 ≤ v ∧ v ≤ lf) → IQ j l c (n, Cc, Ss, Aa) e g h t M → NWq C0 r r4 r5 r6 n Pp cm sv (upA Tp a to v) C → L_W_isNet_107 (d + 131) Q M C K r (n : Int) i3 r4 r5 r6 (a : Int) lf (b : Int) (to : Int) none none none none none none none := by
      intro M C K v o10 hK hv q hW
      obtain ⟨-, ⟨-, -, ⟨⟨f6, f1, f2⟩, m2, -⟩⟩, -⟩ := id hW
      obtain ⟨gr, g1, g2⟩ := m2 a ha
      have ev : gr to = v := by
        rw [g2 to to9]
        exact if_pos ⟨rfl, rfl⟩
      have hA : ∀ i j, i < n → j < n → Aa i j = 25 * Tp i j := hI.2.2
      have hrow : rowS Aa a n = 25 * (4 - lf) := by rw [row_25 n (fun j hj => hA a j ha hj), hs]
      have hAt : Aa a to = 0 := by rw [hA a to ha to9, hto0]; rfl
      refine b_W_isNet_107 ?_
      simp only [f1, f2 a ha, Int.toNat_natCast, cellAt, g1, ev]
      refine ⟨⟨by decide, by decide⟩, ⟨by omega, by omega⟩, trivial, ⟨by omega, by omega⟩, trivial, ⟨by omega, by omega⟩, by omega, ?_⟩
      refine c_way q (a := (a : Int)) (b := (to : Int)) (x := 25 * v) (z := 0) ⟨⟨by omega, by show (a : Int) < (n : Int); omega⟩, by omega, by show (to : Int) < (n : Int); omega⟩ ⟨⟨by omega, by omega⟩, ?_⟩ ⟨by decide, by decide⟩ _ ?_
      · show rowS Aa (a : Int).toNat n - Aa (a : Int).toNat (to : Int).toNat + 25 * v ≤ 100
        rw [Int.toNat_natCast, Int.toNat_natCast, hrow, hAt]
        omega
      rintro w M1 C1 ⟨rfl, hw, q1⟩
      have hw : w = rowS Aa a n - Aa a to + 25 * v := hw
      have q1 : IQ j l c (n, Cc, Ss, upA Aa a to (25 * v)) e g h t M1 := q1
      rw [hrow, hAt] at hw
      refine ⟨⟨by omega, by omega⟩, fun _ => ?_, fun z => absurd (by omega) z⟩
      rw [show (b : Int) + 1 = ((b + 1 : Nat) : Int) by omega]
      refine ih (b + 1) M1 C1 _ (lf - v) cm sv (upA Tp a to v) Cc Ss (upA Aa a to (25 * v)) _ (by omega) (by omega) q1 hW ⟨hI.1, hI.2.1, fun x y hx hy => ?_⟩ ⟨fun x y hx hy => ?_, fun x hx => ?_, fun x y hx hx9 hy => ?_⟩ ⟨by omega, by omega⟩ ?_ (fun b' h1 h2 => ?_)
      · unfold upA
        by_cases z : x = a ∧ y = to
        · rw [if_pos z, if_pos z]
        · rw [if_neg z, if_neg z]; exact hA x y hx hy
      · unfold upA
        by_cases z : x = a ∧ y = to
        · rw [if_pos z]; omega
        · rw [if_neg z]; exact hT.1 x y hx hy
      · by_cases z : x = a
        · rw [z, rowS_up, if_pos to9, hs, hto0]; omega
        · rw [rowS_off z]; exact hT.2.1 x hx
      · unfold upA
        rw [if_neg (fun z => by omega)]
        exact hT.2.2 x y hx hx9 hy
      · rw [rowS_up, if_pos to9, hs, hto0]; omega
      · unfold upA
        rw [if_neg (fun z => by
          have := inj b' h2 z.2.symm
          omega)]
        exact hz b' (by omega) h2
    obtain ⟨hB, ⟨-, -, ⟨⟨f6, f1, f2⟩, m2, -⟩⟩, -⟩ := id hW
    obtain ⟨x0, hr⟩ := hB.1
    refine b_W_isNet_76 ⟨⟨by omega, by omega⟩, ⟨by omega, by omega⟩, fun z => absurd z (by omega), fun _ => ?_⟩
    simp only [e10, f1, f2 a ha, Int.toNat_natCast, cellAt]
    refine ⟨⟨by omega, by omega⟩, ⟨by omega, by omega⟩, ⟨by decide, by decide⟩, ⟨by omega, by omega⟩, ⟨by omega, by omega⟩, fun z => ⟨by omega, ?_⟩, fun z => ⟨⟨by omega, by omega⟩, fun z2 => ⟨by omega, ?_⟩, fun z2 => ?_⟩⟩
    · refine s_nextF hr _ ?_
      rintro v1 M1 C1 ⟨rfl, hv1, hr1, hf1⟩
      have hW1 := hW.rnd hf1 hr1
      obtain ⟨-, ⟨-, -, ⟨⟨f6', f1', f2'⟩, m2', -⟩⟩, -⟩ := id hW1
      obtain ⟨gr, g1, g2⟩ := m2' a ha
      have a1 := Int.emod_nonneg v1 (show lf + 1 ≠ 0 by omega)
      have a2 := Int.emod_lt_of_pos v1 (show 0 < lf + 1 by omega)
      simp only [g1, cup_of g1]
      exact ⟨by omega, ⟨by omega, by omega⟩, trivial, ⟨by omega, by omega⟩, h107 M1 _ _ _ none (by omega) ⟨a1, by omega⟩ q (hW1.setT ha g1)⟩
    · refine s_nextF hr _ ?_
      rintro v1 M1 C1 ⟨rfl, hv1, hr1, hf1⟩
      have hW1 := hW.rnd hf1 hr1
      obtain ⟨-, ⟨-, -, ⟨⟨f6', f1', f2'⟩, m2', -⟩⟩, -⟩ := id hW1
      obtain ⟨gr, g1, g2⟩ := m2' a ha
      have a1 := Int.emod_nonneg v1 (show lf + 1 ≠ 0 by omega)
      have a2 := Int.emod_lt_of_pos v1 (show 0 < lf + 1 by omega)
      simp only [g1, cup_of g1]
      exact ⟨by omega, ⟨by omega, by omega⟩, trivial, ⟨by omega, by omega⟩, h107 M1 _ _ _ none (by omega) ⟨a1, by omega⟩ q (hW1.setT ha g1)⟩
    · obtain ⟨gr, g1, g2⟩ := m2 a ha
      simp only [g1, cup_of g1]
      exact ⟨trivial, ⟨by omega, by omega⟩, h107 M _ _ _ none (by omega) ⟨hl.1, Int.le_refl _⟩ q (hW.setT ha g1)⟩
theorem nt_37 (hn : 1 ≤ n ∧ n ≤ 3) {i3 : Int} (h3 : i3 = 0 ∨ i3 = 1)
    (hN : ∀ (M : Mem) (C : LMem) (kc' : Nat) (cm sv : Nat → Int) (Tp : Nat → Nat → Int) (Cc Ss : Nat → Int) (Aa : Nat → Nat → Int) (o8 o9 o10 : Option PV), kc' ≤ 100 → IQ j l c (n, Cc, Ss, Aa) e g h t M → NWq C0 r r4 r5 r6 n Pp cm sv Tp C → NIv n n cm sv Tp Cc Ss Aa → TIv n n Tp → L_W_isNet_37 (d + 131) Q M C kc' r (n : Int) i3 r4 r5 r6 (n : Int) o8 o9 o10 none none none none none none none) :
    ∀ (u a : Nat) (M : Mem) (C : LMem) (kc : Nat) (cm sv : Nat → Int) (Tp : Nat → Nat → Int) (Cc Ss : Nat → Int) (Aa : Nat → Nat → Int) (o8 o9 o10 : Option PV), a + u = n → kc + 16 * u ≤ 100 → IQ j l c (n, Cc, Ss, Aa) e g h t M → NWq C0 r r4 r5 r6 n Pp cm sv Tp C → NIv a n cm sv Tp Cc Ss Aa → TIv a n Tp → L_W_isNet_37 (d + 131) Q M C kc r (n : Int) i3 r4 r5 r6 (a : Int) o8 o9 o10 none none none none none none none := by
  intro u
  induction u with
  | zero =>
    intro a M C kc cm sv Tp Cc Ss Aa o8 o9 o10 ha hkc q hW hI hT
    obtain rfl : a = n := by omega
    exact hN M C kc cm sv Tp Cc Ss Aa _ _ _ (by omega) q hW hI hT
  | succ u ih =>
    intro a M C kc cm sv Tp Cc Ss Aa o8 o9 o10 ha hkc q hW hI hT
    have ha9 : a < n := by omega
    obtain ⟨hB, -, -⟩ := id hW
    obtain ⟨x0, hr⟩ := hB.1
    -- behind the two numbers of the node
    have go : ∀ (M : Mem) (C : LMem) (K : Nat) (cv sw : Int) (f : Nat → Int), K ≤ kc → (0 ≤ cv ∧ cv ≤ 8) → (1 ≤ sw ∧ sw ≤ 12) → IQ j l c (n, Cc, Ss, Aa) e g h t M → NWq C0 r r4 r5 r6 n Pp (sr cm a cv) sv Tp C → C r5 = (1, n, f) → ((cst C r5 (1, n, sr f a sw)) r4).1 = 1 ∧ ((0 ≤ (a : Int) ∧ (a : Int) < (((cst C r5 (1, n, sr f a sw)) r4).2.1 : Int)) ∧ (((cst C r5 (1, n, sr f a sw)) r5).1 = 1 ∧ ((0 ≤ (a : Int) ∧ (a : Int) < (((cst C r5 (1, n, sr f a sw)) r5).2.1 : Int)) ∧ (K + 3 ≤ 10000 ∧ lcal (d + 131) cW_done [.inr (.inr (.inr 0)), .inl 14, .inl (a : Int), .inl (((cst C r5 (1, n, sr f a sw)) r4).2.2 a), .inl (((cst C r5 (1, n, sr f a sw)) r5).2.2 a), .inl 0] M (cst C r5 (1, n, sr f a sw)) (fun v3 M3 C3 => R32 v3 ∧ ((v3 = 0 → L_W_isNet_76 (d + 131) Q M3 C3 (K + 3) r (n : Int) i3 r4 r5 r6 (a : Int) 4 0 o10 none none none none none none none) ∧ (¬ v3 = 0 → Q 0 M3 C3))))))) := by
      intro M C K cv sw f hK hcv hsw q hW hf
      have hW1 := hW.setS (i := a) (v := sw) hf
      obtain ⟨-, ⟨⟨f4, a1, a2⟩, ⟨f5, b1, b2⟩, -⟩, -⟩ := id hW1
      have e1 : f4 a = cv := by rw [a2 a ha9, sr_same]
      have e2 : f5 a = sw := by rw [b2 a ha9, sr_same]
      simp only [a1, b1, e1, e2]
      refine ⟨trivial, ⟨by omega, by omega⟩, trivial, ⟨by omega, by omega⟩, by omega, ?_⟩
      refine c_node q (a := (a : Int)) (x := cv) (y := sw) (z := 0) ⟨by omega, by show (a : Int) < (n : Int); omega⟩ ⟨⟨by omega, by omega⟩, by omega, by omega⟩ ⟨by decide, by decide⟩ _ ?_
      rintro v M1 C1 ⟨rfl, hv, q1⟩
      have hv : v = Cc a := hv
      have q1 : IQ j l c (n, sr Cc a cv, sr Ss a sw, Aa) e g h t M1 := q1
      rw [hI.2.1 a (Nat.le_refl a) ha9] at hv
      refine ⟨⟨by omega, by omega⟩, fun _ => ?_, fun z => absurd hv z⟩
      refine nt_76 (kc0 := K + 3) hn ha9 h3 (by omega) (fun M2 C2 kc' cm2 sv2 Tp2 Cc2 Ss2 Aa2 o8 o9 o10 z1 z2 z3 z4 z5 => ?_) n 0 M1 _ _ 4 (sr cm a cv) (sr sv a sw) Tp (sr Cc a cv) (sr Ss a sw) Aa _ (by omega) (by omega) q1 hW1 ⟨fun i hi => ?_, fun i hi hi9 => ?_, hI.2.2⟩ ⟨hT.1, hT.2.1, fun i j hi hi9 hj => hT.2.2 i j (by omega) hi9 hj⟩ ⟨by omega, by omega⟩ ?_ (fun b' _ hb' => ?_)
      · rw [show (a : Int) + 1 = ((a + 1 : Nat) : Int) by omega]
        exact ih (a + 1) M2 C2 kc' cm2 sv2 Tp2 Cc2 Ss2 Aa2 _ _ _ (by omega) (by omega) z2 z3 z4 z5
      · by_cases z : i = a
        · rw [z, sr_same, sr_same, sr_same, sr_same]
          exact ⟨⟨rfl, rfl⟩, hcv, hsw⟩
        · rw [sr_ne z, sr_ne z, sr_ne z, sr_ne z]
          exact hI.1 i (by omega)
      · rw [sr_ne (by omega)]
        exact hI.2.1 i (by omega) hi9
      · rw [row_0 n (fun j hj => hT.2.2 a j (Nat.le_refl a) ha9 hj)]
        rfl
      · exact hT.2.2 a _ (Nat.le_refl a) ha9 (rot_in n (by omega) a ha9 b' hb').1
    refine b_W_isNet_37 ⟨⟨by omega, by omega⟩, ⟨by omega, by omega⟩, fun z => absurd z (by omega), fun _ => ⟨⟨by omega, by omega⟩, fun z => ⟨by omega, ?_⟩, fun z => ?_⟩⟩
    · refine s_nextF hr _ ?_
      rintro v1 M1 C1 ⟨rfl, hv1, hr1, hf1⟩
      have hW1 := hW.rnd hf1 hr1
      obtain ⟨-, ⟨⟨f4, a1, a2⟩, -, -⟩, -⟩ := id hW1
      rw [Int.toNat_natCast]
      simp only [a1, cup_of a1]
      refine ⟨by omega, trivial, ⟨by omega, by omega⟩, by omega, ?_⟩
      have hW2 := hW1.setC (i := a) (v := v1 % 9) a1
      obtain ⟨x2, hr2⟩ := hW2.1.1
      refine s_fromF hr2 (by omega) (by omega) _ ?_
      rintro v2 M2 C2 ⟨rfl, hv2, hr3, hf3⟩
      have hW3 := hW2.rnd hf3 hr3
      obtain ⟨-, ⟨-, ⟨f5, b1, b2⟩, -⟩, -⟩ := id hW3
      simp only [cup_of b1]
      rw [b1]
      exact ⟨rfl, ⟨by omega, by show (a : Int) < (n : Int); omega⟩, go M2 C2 _ _ _ f5 (by omega) ⟨by omega, by omega⟩ hv2 q hW3 b1⟩
    · obtain ⟨-, ⟨⟨f4, a1, a2⟩, -, -⟩, -⟩ := id hW
      rw [Int.toNat_natCast]
      simp only [a1, cup_of a1]
      refine ⟨trivial, ⟨by omega, by omega⟩, by omega, ?_⟩
      have hW2 := hW.setC (i := a) (v := 0) a1
      obtain ⟨x2, hr2⟩ := hW2.1.1
      refine s_fromF hr2 (by omega) (by omega) _ ?_
      rintro v2 M2 C2 ⟨rfl, hv2, hr3, hf3⟩
      have hW3 := hW2.rnd hf3 hr3
      obtain ⟨-, ⟨-, ⟨f5, b1, b2⟩, -⟩, -⟩ := id hW3
      simp only [cup_of b1]
      rw [b1]
      exact ⟨rfl, ⟨by omega, by show (a : Int) < (n : Int); omega⟩, go M2 C2 _ _ _ f5 (by omega) ⟨by omega, by omega⟩ hv2 q hW3 b1⟩
end NET1
