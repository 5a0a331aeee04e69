/-! isReached, whole. -/
section RC6
variable {d : Nat} {Q : LQ} {C0 : LMem} {j : StJ} {l : StL} {nt : StN} {e : StE} {gm : StG} {h : StH} {tp : StT} {r r4 r5 r7 r8 n g : Nat} {b D : Int} {A : Nat → Nat → Int} {P PB : Nat → Nat} {T B : Nat → Nat → Int} {X : Nat → Int} {R R' : Nat → Nat} {x t : Nat → Rat} {M : Mem} {o3 o13 o14 o15 o16 o17 : Option PV}
theorem rc_148 (hn : 1 ≤ n ∧ n ≤ 4) (hb4 : 1 ≤ b ∧ b ≤ 4) (hla : lawful n b A) (hTA : ∀ y x, y < n → x < n → A y x = T y x) (hg : g < n) (hX : RX n g b A X D) (hx : ∀ k, k < n → x k = ((X k : Int) : Rat) / ((D : Int) : Rat)) (ht : ∀ k, k < n → sure n A k g → timV n b A k g (t k)) (q : IQ j l (n, b, A) nt e gm h tp M)
    (hQ : ∀ (M : Mem) (C : LMem), IQ j l (n, b, A) nt e gm h tp M → CBq C0 r C → Q 1 M C) :
    ∀ (u i : Nat) (C : LMem) (kc : Nat) (o10 o11 o12 : Option PV), i + u = n → kc + 30 * u ≤ 600 → CRq C0 r r4 r5 r7 r8 n P T PB B n R x n (fun k => sure n A k g) R' t C → L_W_isReached_148 (d + 130) Q M C kc r r4 o3 (n : Int) b (g : Int) r7 r8 (i : Int) o10 o11 o12 o13 o14 o15 o16 o17 := by
  have hO : cOk n b A := q.ch.1
  have zz : ∀ x : Nat, x ∉ ([] : List Nat) := fun x hx => by cases hx
  intro u
  induction u with
  | zero =>
    intro i C kc o10 o11 o12 hi hkc hV
    obtain rfl : i = n := by omega
    obtain ⟨y, hr⟩ := hV.1.1.1
    refine b_W_isReached_148 ⟨⟨by omega, by omega⟩, ⟨by omega, by omega⟩, fun _ => ⟨by omega, ?_⟩, fun z => absurd (Int.le_refl _) z⟩
    refine s_nextF hr _ ?_
    rintro v1 M1 C1 ⟨rfl, hv1, ⟨y1, hr1⟩, hf1⟩
    have hW1 := hV.1.rnd hf1 ⟨y1, hr1⟩
    refine ⟨by omega, ⟨by omega, by omega⟩, by omega, ?_⟩
    refine s_nextF hr1 _ ?_
    rintro v2 M2 C2 ⟨rfl, hv2, hr2, hf2⟩
    have hW2 := hW1.rnd hf2 hr2
    refine ⟨by omega, ⟨by omega, by omega⟩, by rw [Int.toNat_natCast]; unfold lcost; omega, fun q3 hq3 => ?_⟩
    have e1 := Int.emod_nonneg v1 (show (i : Int) ≠ 0 by omega)
    have e2 := Int.emod_lt_of_pos v1 (show 0 < (i : Int) by omega)
    obtain ⟨f, hf⟩ : ∃ s : Nat, v1 % (i : Int) = (s : Int) := ⟨(v1 % (i : Int)).toNat, by omega⟩
    obtain ⟨s, hs⟩ : ∃ s : Nat, v2 % 7 = (s : Int) := ⟨(v2 % 7).toNat, by omega⟩
    obtain ⟨bn, rfl⟩ : ∃ k : Nat, b = (k : Int) := ⟨b.toNat, by omega⟩
    rw [hf, hs, Int.toNat_natCast, Int.toNat_natCast]
    simp only [cst_self, cup_cst]
    refine ⟨trivial, ⟨by omega, by omega⟩, ?_⟩
    have hz := hW2.1.2.1.free hq3
    refine rc_283 (r := r) (C0 := C0) (P := P) (T := T) hn (by omega) hla hTA hg (show f < i by omega) (show s ≤ 6 by omega) q hQ s 0 _ _ q3 _ _ _ (by omega) (by unfold lcost; omega) ⟨hW2.1.set hz, hW2.2.1.new hq3, hz, _, cst_self, fun k hk => ?_⟩
    show sr (fun _ => 0) f 1 k = ((if k = f then 1 else 0 : Nat) : Int)
    by_cases z : k = f
    · rw [z, sr_same, if_pos rfl]; rfl
    · rw [sr_ne z, if_neg z]; rfl
  | succ u ih =>
    intro i C kc o10 o11 o12 hi hkc hV
    have hi9 : i < n := by omega
    refine b_W_isReached_148 ⟨⟨by omega, by omega⟩, ⟨by omega, by omega⟩, fun z => absurd z (by omega), fun _ => ⟨⟨by omega, by omega⟩, fun z => ⟨by omega, fun q1 hq1 => ?_⟩, fun z => ih (i + 1) C kc _ _ _ (by omega) (by omega) hV⟩⟩
    have hig : i ≠ g := fun w => z (by omega)
    have hb : cst C q1 (2, 2, fun _ => 0) q1 = (2, 2, fun _ => 0) := cst_self
    simp only [cst_self, cup_of hb, cup_cst]
    refine ⟨trivial, ⟨by decide, by decide⟩, trivial, ⟨by decide, by decide⟩, by omega, fun q2 hq2 => ?_⟩
    have hl1 : LF [] C (cst (cst C q1 (2, 2, fun _ => 0)) q1 (2, 2, sr (sr (fun _ => 0) 0 0) 1 1)) := (LF.rf.new hq1).set hq1
    generalize hC1 : cst (cst C q1 (2, 2, fun _ => 0)) q1 (2, 2, sr (sr (fun _ => 0) 0 0) 1 1) = C1 at *
    have hx1 : FL C1 q1 0 := by rw [← hC1]; exact FL.set rfl rfl
    refine ⟨trivial, ⟨by decide, by decide⟩, trivial, ⟨by decide, by decide⟩, ?_⟩
    have hl2 : LF [] C1 (cst C1 q2 (2, 2, sr (sr (fun _ => 0) 0 1) 1 1)) := LF.rf.new hq2
    have hD := hX.1
    have hY : ∃ (Y : Nat → Int) (E : Int), (0 < E ∧ E ≤ 1728) ∧ (∀ k, k < n → 0 ≤ Y k ∧ Y k ≤ 1728) ∧ (sure n A i g → (∀ k, k < n → (k = i ∨ 0 < A i k) → t k = ((Y k : Int) : Rat) / ((E : Int) : Rat)) ∧ b * Y i = b * E + sumT (fun k => A i k * Y k) n) := by
      rcases Classical.em (sure n A i g) with hs | hs
      · obtain ⟨Y, E, y1, y2, y3, y4⟩ := tim_nums hO hla hn.2 hb4.2 hg hi9 hig hs
        refine ⟨Y, E, y1, y2, fun _ => ⟨fun k hk hik => y3 k (t k) hk hik (ht k hk ?_), y4⟩⟩
        rcases hik with w | w
        · rw [w]; exact hs
        · exact hs.step hi9 hk hig w
      · exact ⟨fun _ => 0, 1, ⟨by decide, by decide⟩, fun _ _ => ⟨by show (0 : Int) ≤ 0; decide, by show (0 : Int) ≤ 1728; decide⟩, fun w => absurd w hs⟩
    obtain ⟨Y, E, y1, y2, y3⟩ := hY
    refine rc_179 hn hb4 hO hla hTA hg hX hx ht hi9 hig y1 y2 y3 (kc0 := kc + 2) (by omega) (fun C kc o10 o11 o12 z1 z2 => ih (i + 1) C kc _ _ _ (by omega) (by omega) z2) n 0 _ _ q1 q2 1 (by omega) (by omega) ((hV.off hl1).off hl2) ?_ (FL.set rfl rfl) (fun _ => ?_)
    · have : ((sumT (fun k => A i k * X k) 0 : Int) : Rat) / ((b * D : Int) : Rat) = 0 := by
        show ((0 : Int) : Rat) / _ = 0
        have e0 : ((0 : Int) : Rat) = 0 := rfl
        rw [e0]
        generalize ((b * D : Int) : Rat) = z
        grind
      rw [this]
      exact hx1.kept hl2 (zz _)
    · show (1 : Rat) = ((b * E + 0 : Int) : Rat) / ((b * E : Int) : Rat)
      rw [Int.add_zero]
      have hp : 0 < b * E := Int.mul_pos (by omega) y1.1
      have h1 : ((b * E : Int) : Rat) ≠ 0 := fun z => by have := Rat.intCast_eq_zero_iff.mp z; omega
      generalize ((b * E : Int) : Rat) = z at *
      grind
end RC6
theorem reach_ok (d : Nat) : ReachOK (d + 130) := fun {M C0 C j l nt e gm h tp r r4 r5 n b A P PB T B} hn hb4 hla q hTA hBr hW Q hQ => by
  have hO : cOk n b A := q.ch.1
  have hQ' : ∀ (M' : Mem) (C' : LMem), IQ j l (n, b, A) nt e gm h tp M' → CBq C0 r C' → Q 1 M' C' := fun M' C' h1 h2 => hQ 1 M' C' ⟨rfl, h1, h2⟩
  obtain ⟨y, hr⟩ := hW.1.1
  refine e_W_isReached (b_W_isReached_0 ⟨by omega, ?_⟩)
  refine s_nextF hr _ ?_
  rintro v1 M1 C1 ⟨rfl, hv1, hr1, hf1⟩
  have hW1 := hW.rnd hf1 hr1
  have e1 := Int.emod_nonneg v1 (show (n : Int) ≠ 0 by omega)
  have e2 := Int.emod_lt_of_pos v1 (show 0 < (n : Int) by omega)
  obtain ⟨g, hg⟩ : ∃ s : Nat, v1 % (n : Int) = (s : Int) := ⟨(v1 % (n : Int)).toNat, by omega⟩
  rw [hg, Int.toNat_natCast]
  have hg9 : g < n := by omega
  refine ⟨by omega, ⟨by omega, by omega⟩, ⟨by omega, by omega⟩, by unfold lcost; omega, fun q2 hq2 => ⟨by unfold lcost; omega, fun q3 hq3 => ?_⟩⟩
  have hW2 := hW1.new (x := (6, n, fun _ => 0)) hq2
  have hW3 := hW2.new (x := (6, n, fun _ => 0)) hq3
  have n32 : q3 ≠ q2 := fun z => by rw [z, cst_self] at hq3; cases hq3
  obtain ⟨X, D, hX, hXv⟩ := rch_nums hO hla hn.2 hb4.2 hg9
  refine rc_13 hn hb4 hla hg9 hBr hX hXv (fun M C kc R R' x t o10 o11 z1 q9 hV hx ht => ?_) n 0 M1 _ _ (fun _ => 0) (fun _ => 0) (fun _ => 0) (fun _ => 0) _ _ (by omega) (by unfold lcost; omega) q ⟨hW3, ⟨hW1.1.2.1.free hq2, hW2.1.2.1.free hq3, Ne.symm n32⟩, ⟨_, by rw [cst_ne (Ne.symm n32)]; exact cst_self, fun i hi => absurd hi (Nat.not_lt_zero i)⟩, ⟨_, cst_self, fun i hi => absurd hi (Nat.not_lt_zero i)⟩⟩ (fun k hk => absurd hk (Nat.not_lt_zero k)) (fun k hk => absurd hk (Nat.not_lt_zero k))
  have zz : ∀ x : Nat, x ∉ ([] : List Nat) := fun x hx => by cases hx
  obtain ⟨f7, f1, f2⟩ := hV.2.2.1
  obtain ⟨a1, a2⟩ := f2 g hg9
  refine b_W_isReached_13 ⟨⟨by omega, by omega⟩, ⟨by omega, by omega⟩, fun _ => ?_, fun z => absurd (Int.le_refl _) z⟩
  simp only [f1, a1, Int.toNat_natCast]
  refine ⟨⟨by decide, by decide⟩, ⟨by omega, by omega⟩, by omega, fun q1 hq1 => ?_⟩
  have hb : cst C q1 (2, 2, fun _ => 0) q1 = (2, 2, fun _ => 0) := cst_self
  simp only [cst_self, cup_of hb, cup_cst]
  refine ⟨trivial, ⟨by decide, by decide⟩, trivial, ⟨by decide, by decide⟩, by omega, ?_⟩
  have hl5 : LF [] C (cst (cst C q1 (2, 2, fun _ => 0)) q1 (2, 2, sr (sr (fun _ => 0) 0 1) 1 1)) := (LF.rf.new hq1).set hq1
  have ev : x g = 1 := (x_num hX.1.1 (hx g hg9)).2.2.mpr hX.2.2.1
  have a3 := a2.kept hl5 (zz _)
  rw [ev] at a3
  refine s_isLike (d := d + 129) (y := 1) a3 (FL.set rfl rfl) ⟨by unfold A63; decide, by decide⟩ ⟨by unfold A63; decide, by decide⟩ _ ?_
  rintro v2 M2 C2 ⟨rfl, rfl, ⟨rfl, -⟩ | ⟨-, z9⟩⟩
  · have hV5 := hV.off hl5
    generalize cst (cst C q1 (2, 2, fun _ => 0)) q1 (2, 2, sr (sr (fun _ => 0) 0 1) 1 1) = C6 at *
    have hsg : sure n A g g := fun j hj w _ => absurd rfl w
    obtain ⟨f8, g1, g2⟩ := hV5.2.2.2
    obtain ⟨g3, g4⟩ := (g2 g hg9).1 hsg
    have et : t g = 0 := by
      rcases ht g hg9 hsg with ⟨-, z⟩ | ⟨z, -⟩
      · exact z
      · exact absurd rfl z
    rw [et] at g4
    obtain ⟨gt, y1, y2, y3⟩ := g4
    have y2 : gt 0 = 0 := y2
    refine ⟨⟨by decide, by decide⟩, fun z => absurd z (by decide), fun _ => ?_⟩
    simp only [g1, g3, Int.toNat_natCast, cellAt, y1, y2]
    refine ⟨⟨by decide, by decide⟩, ⟨by omega, by omega⟩, trivial, ⟨by decide, by decide⟩, ⟨by decide, by decide⟩, fun _ => ?_, fun z => absurd trivial z⟩
    exact rc_148 hn hb4 hla hTA hg9 hX hx ht q9 hQ' n 0 C6 _ _ _ _ (by omega) (by omega) hV5
  · exact absurd rfl z9
