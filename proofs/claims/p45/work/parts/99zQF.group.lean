/-! isChain: the groups, the shares. -/
abbrev cEE (n : Nat) (A : Nat → Nat → Int) : Nat → Nat → Prop := cE n A (-1)
def VQ (C : LMem) (q n m : Nat) (R : Nat → Nat) (w : Nat → Rat) : Prop := ∃ f, C q = (6, n, f) ∧ ∀ i, i < m → f i = ((R i + 1 : Nat) : Int) ∧ FL C (R i) (w i)
section VQS
variable {C C' : LMem} {q n m r : Nat} {R : Nat → Nat} {w : Nat → Rat}
theorem VQ.off (h : VQ C q n m R w) (hf : LF [] C C') : VQ C' q n m R w := by
  obtain ⟨f, h1, h2⟩ := h
  have z : ∀ x : Nat, x ∉ ([] : List Nat) := fun x hx => by cases hx
  exact ⟨f, hf.at' (k := 5) (z _) h1, fun i hi => ⟨(h2 i hi).1, (h2 i hi).2.kept hf (z _)⟩⟩
theorem VQ.set {x : Rat} {q' : Nat} {f : Nat → Int} (h : VQ C q n m R w) (hq : C q = (6, n, f)) (hx : FL C q' x) : VQ (cst C q (6, n, sr f m ((q' + 1 : Nat) : Int))) q n (m + 1) (fun i => if i = m then q' else R i) (fun i => if i = m then x else w i) := by
  obtain ⟨f', h1, h2⟩ := h
  have ef : f' = f := by rw [h1] at hq; exact congrArg (fun x : LCel => x.2.2) hq
  have kn : ∀ {y : Nat} {v : Rat}, FL C y v → y ≠ q := fun {y v} hy e => by
    obtain ⟨g, g1, -⟩ := hy
    rw [e, hq] at g1
    have h9 : (6 : Nat) = 2 := congrArg (fun x : LCel => x.1) g1
    omega
  have kp : ∀ {y : Nat} {v : Rat}, FL C y v → FL (cst C q (6, n, sr f m ((q' + 1 : Nat) : Int))) y v := fun {y v} hy => by
    obtain ⟨g, g1, g2⟩ := id hy
    exact ⟨g, by rw [cst_ne (kn hy)]; exact g1, g2⟩
  refine ⟨_, cst_self, fun i hi => ?_⟩
  show sr f m _ i = (((if i = m then q' else R i) + 1 : Nat) : Int) ∧ FL _ (if i = m then q' else R i) (if i = m then x else w i)
  by_cases e : i = m
  · rw [if_pos e, if_pos e, e, sr_same]
    exact ⟨rfl, kp hx⟩
  · rw [if_neg e, if_neg e, sr_ne e, ← ef]
    obtain ⟨a1, a2⟩ := h2 i (by omega)
    refine ⟨a1, ?_⟩
    rw [ef]
    exact kp a2
end VQS
def SHq (n : Nat) (b : Int) (A : Nat → Nat → Int) (i : Nat) (w : Rat) : Prop := (¬ inGrp n (cEE n A) i ∧ w = 0) ∨ (inGrp n (cEE n A) i ∧ ∃ s, isSet n (cEE n A) i s ∧ isGrp n (cEE n A) s ∧ w = ((gNum b A s n i : Int) : Rat) / ((sumT (gNum b A s n) n : Int) : Rat))
theorem rch_lt {n : Nat} {A : Nat → Nat → Int} {i k : Nat} (h : Rch (cEE n A) i k) (hi : i < n) : k < n := h (fun x => x < n) hi fun _ _ _ e => e.2.2.1
theorem SHq.of {n i : Nat} {b : Int} {A : Nat → Nat → Int} {w : Rat} (hO : cOk n b A) (hla : lawful n b A) (hn : n ≤ 4) (hb4 : b ≤ 4) (hi : i < n) (h : shrV n b A i w) : SHq n b A i w := by
  rcases h with ⟨h1, h2⟩ | ⟨h1, s, h2, h3⟩
  · exact Or.inl ⟨h1, h2⟩
  · have hG := isGrp.of h2 h1 hi
    obtain ⟨-, -, -, g4, -⟩ := grp_nums hO hla hn hb4 hG
    exact Or.inr ⟨h1, s, h2, hG, by rw [h3]; exact g4 i hi ((h2.2 i).mpr ⟨hi, Rch.refl i⟩)⟩
theorem SHq.sgn {n i : Nat} {b : Int} {A : Nat → Nat → Int} {w : Rat} (hO : cOk n b A) (hla : lawful n b A) (hn : n ≤ 4) (hb4 : b ≤ 4) (hi : i < n) (h : SHq n b A i w) : ok63 w ∧ (0 < w.num ↔ inGrp n (cEE n A) i) ∧ 0 ≤ w.num ∧ w.num ≤ 1728 := by
  rcases h with ⟨h1, rfl⟩ | ⟨h1, s, h2, hG, h3⟩
  · refine ⟨⟨by unfold A63; decide, by decide⟩, ⟨fun z => absurd z (by decide), fun z => absurd z h1⟩, by decide, by decide⟩
  · obtain ⟨g1, g2, g3, g4, g5⟩ := grp_nums hO hla hn hb4 hG
    have hbit := (h2.2 i).mpr ⟨hi, Rch.refl i⟩
    have hN := g1 i hi hbit
    have hN2 := g2 i hi
    have hD : sumT (gNum b A s n) n ≤ (n : Int) * 1728 := (sumT_r (f := gNum b A s n) (B := 1728) n g2).2
    have hD2 : sumT (gNum b A s n) n ≤ 6912 := Int.le_trans hD (by omega)
    have hB := Bq_div (a := gNum b A s n i) (b := sumT (gNum b A s n) n) (by omega)
    rw [← h3] at hB
    have hc := cross_x g3 h3
    have hd : 0 < (w.den : Int) := by have := w.den_pos; omega
    have hp : 0 < w.num * sumT (gNum b A s n) n := by rw [hc]; exact Int.mul_pos hN hd
    have hnum : 0 < w.num := by
      rcases Int.lt_or_le 0 w.num with z | z
      · exact z
      · have := Int.mul_le_mul_of_nonneg_right z (Int.le_of_lt g3)
        rw [Int.zero_mul] at this
        omega
    obtain ⟨u1, u2⟩ := id hB
    exact ⟨hB.ok (by omega) (by omega), ⟨fun _ => h1, fun _ => hnum⟩, Int.le_of_lt hnum, by omega⟩
section GRP
variable {d : Nat} {Q : LQ} {C0 : LMem} {j : StJ} {l : StL} {nt : StN} {e : StE} {g : StG} {h : StH} {t : StT} {r r4 r5 r7 n : Nat} {b : Int} {A : Nat → Nat → Int} {P PB : Nat → Nat} {T B : Nat → Nat → Int}
def CVq (C0 : LMem) (r r4 r5 r7 n : Nat) (P : Nat → Nat) (T : Nat → Nat → Int) (PB : Nat → Nat) (B : Nat → Nat → Int) (m : Nat) (R : Nat → Nat) (w : Nat → Rat) (C : LMem) : Prop := CWq C0 r r4 r5 n P T PB B C ∧ (C0 r7).1 = 0 ∧ VQ C r7 n m R w
theorem CVq.off {m : Nat} {R : Nat → Nat} {w : Nat → Rat} {C C' : LMem} (h : CVq C0 r r4 r5 r7 n P T PB B m R w C) (hf : LF [] C C') : CVq C0 r r4 r5 r7 n P T PB B m R w C' := ⟨h.1.off hf, h.2.1, h.2.2.off hf⟩
theorem CVq.set {m : Nat} {R : Nat → Nat} {w : Nat → Rat} {C : LMem} {x : Rat} {q' : Nat} {f : Nat → Int} (h : CVq C0 r r4 r5 r7 n P T PB B m R w C) (hq : C r7 = (6, n, f)) (hx : FL C q' x) : CVq C0 r r4 r5 r7 n P T PB B (m + 1) (fun i => if i = m then q' else R i) (fun i => if i = m then x else w i) (cst C r7 (6, n, sr f m ((q' + 1 : Nat) : Int))) := by
  obtain ⟨⟨h1, h2, h3, h4, h5⟩, h6, h7⟩ := h
  exact ⟨⟨h1.set h6, h2.okd (k' := 5) hq (by decide) (by decide), h3, h4.okd (k' := 5) hq (by decide) (by decide), h5⟩, h6, h7.set hq hx⟩
theorem ch_284 (hn : 1 ≤ n ∧ n ≤ 4) (hb4 : 1 ≤ b ∧ b ≤ 4) (hla : lawful n b A) {i : Nat} (hi : i < n) {M : Mem} {C : LMem} {kc : Nat} {R : Nat → Nat} {w : Nat → Rat} {i6 i9 x : Int} {o10 : Option PV} (hkc : kc ≤ 1900) (q : IQ j l (n, b, A) nt e g h t M) (hV : CVq C0 r r4 r5 r7 n P T PB B i R w C) (hw : ∀ k, k < i → SHq n b A k (w k)) (h9 : tv (inGrp n (cEE n A) i) i9) (hx : gIs n (cEE n A) (i : Int) x) (hxr : R32 x)
    (hN : ∀ (M : Mem) (C : LMem) (kc' : Nat) (R : Nat → Nat) (w : Nat → Rat) (o9 o10 o11 : Option PV), kc' ≤ kc + 9 → IQ j l (n, b, A) nt e g h t M → CVq C0 r r4 r5 r7 n P T PB B (i + 1) R w C → (∀ k, k < i + 1 → SHq n b A k (w k)) → L_W_isChain_220 (d + 130) Q M C kc' r (n : Int) b r4 r5 i6 r7 ((i : Int) + 1) o9 o10 o11) :
    L_W_isChain_284 (d + 130) Q M C kc r (n : Int) b r4 r5 i6 r7 (i : Int) i9 o10 x := by
  have hO := q.ch.1
  refine b_W_isChain_284 ⟨by omega, ?_⟩
  refine c_group q (a := (i : Int)) (x := 0) (y := 0) (z := 0) (Or.inr ⟨by omega, by show (i : Int) < (n : Int); omega⟩) hla ⟨by decide, by decide⟩ ⟨by decide, by decide⟩ ⟨by decide, by decide⟩ _ ?_
  rintro v1 M1 C1 ⟨rfl, q1, hv1⟩
  have e1 : v1 = x := gIs.uniq hv1 hx
  refine ⟨by rw [e1]; exact hxr, hxr, fun _ => ⟨by omega, ?_⟩, fun z => absurd e1 z⟩
  refine c_share q1 (a := (i : Int)) (x := 0) (y := 0) (z := 0) ⟨by omega, by show (i : Int) < (n : Int); omega⟩ hla ⟨by decide, by decide⟩ ⟨by decide, by decide⟩ ⟨by decide, by decide⟩ _ ?_
  rintro v2 M2 C2 ⟨rfl, q2, y, hy, hcf, hv2⟩
  rw [Int.toNat_natCast] at hy
  have hy : shrV n b A i y := hy
  have hS := SHq.of hO hla hn.2 hb4.2 hi hy
  obtain ⟨ok, hsg, hnn, hle⟩ := hS.sgn hO hla hn.2 hb4.2 hi
  rw [hv2]
  refine ⟨by omega, ?_⟩
  refine s_came (d := d + 1) hcf ok _ ?_
  rintro v3 M3 C3 ⟨rfl, q', rfl, hq', hf3, hl3⟩
  have hV3 := hV.off hf3
  obtain ⟨f, f1, f2⟩ := hV3.2.2
  obtain ⟨gf, k1, k2, k3⟩ := id hl3
  have hV4 := hV3.set f1 hl3
  have hne : q' ≠ r7 := fun z => by
    rw [z, f1] at k1
    have h9 : (6 : Nat) = 2 := congrArg (fun x : LCel => x.1) k1
    omega
  have kk : cst C3 r7 (6, n, sr f i ((q' + 1 : Nat) : Int)) q' = (2, 2, gf) := by rw [cst_ne hne]; exact k1
  have e9 := h9.bit
  simp only [f1, cup_of f1, cst_self, Int.toNat_natCast, sr_same, cellAt, kk, k2, codeOk, elK, k1]
  have fin : ∀ kc', kc' ≤ kc + 9 → L_W_isChain_220 (d + 130) Q M3 (cst C3 r7 (6, n, sr f i ((q' + 1 : Nat) : Int))) kc' r (n : Int) b r4 r5 i6 r7 ((i : Int) + 1) (some (.inl i9)) o10 (some (.inl x)) := fun kc' hk => hN M3 _ kc' _ _ _ _ _ hk q2 hV4 (fun k hk => by
    show SHq n b A k (if k = i then y else w k)
    by_cases z : k = i
    · rw [if_pos z, z]; exact hS
    · rw [if_neg z]; exact hw k (by omega))
  refine ⟨⟨by decide, by decide⟩, ⟨by omega, by omega⟩, trivial, ⟨by decide, by decide⟩, ⟨by omega, by omega⟩, fun z => absurd z (Nat.succ_ne_zero q'), fun _ => ⟨trivial, ⟨by decide, by decide⟩, ⟨by omega, by omega⟩, fun z => ⟨⟨by omega, by omega⟩, fun _ => fin _ (by omega), fun z2 => ?_⟩, fun z => ⟨⟨by omega, by omega⟩, fun _ => fin _ (by omega), fun z2 => ?_⟩⟩⟩
  · exact absurd (hsg.mpr (h9.yes.mp z2)) (by omega)
  · have := h9.yes.mpr (hsg.mp (by omega))
    omega
end GRP
