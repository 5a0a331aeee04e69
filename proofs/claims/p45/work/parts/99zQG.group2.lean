/-! isChain: the numbers of the groups. -/
theorem inGrp.go {n : Nat} {A : Nat → Nat → Int} {i l : Nat} (h : inGrp n (cEE n A) i) (hil : Rch (cEE n A) i l) (hi : i < n) : inGrp n (cEE n A) l := fun k hk hlk => (h k hk (hil.tr hlk)).tr hil
section GRP2
variable {d : Nat} {Q : LQ} {C0 : LMem} {j : StJ} {l : StL} {nt : StN} {e : StE} {g : StG} {h : StH} {t : StT} {r r4 r5 r7 n : Nat} {b : Int} {A : Nat → Nat → Int} {P PB : Nat → Nat} {T B : Nat → Nat → Int}
theorem ch_231 (hn : 1 ≤ n ∧ n ≤ 4) (hb4 : 1 ≤ b ∧ b ≤ 4) (hla : lawful n b A) (hBr : ∀ y x, y < n → x < n → tv (Rch (cEE n A) y x) (B y x)) {i : Nat} (hi : i < n) {M : Mem} {C : LMem} {kc : Nat} {R : Nat → Nat} {w : Nat → Rat} {c : Nat} (hkc : kc ≤ 1800) (q : IQ j l (n, b, A) nt e g h t M) (hV : CVq C0 r r4 r5 r7 n P T PB B i R w C) (hw : ∀ k, k < i → SHq n b A k (w k)) (hc : Cn (isLst n (cEE n A)) i c)
    (hN : ∀ (M : Mem) (C : LMem) (kc' c : Nat) (R : Nat → Nat) (w : Nat → Rat) (o9 o10 o11 : Option PV), kc' ≤ kc + 12 → IQ j l (n, b, A) nt e g h t M → CVq C0 r r4 r5 r7 n P T PB B (i + 1) R w C → (∀ k, k < i + 1 → SHq n b A k (w k)) → Cn (isLst n (cEE n A)) (i + 1) c → L_W_isChain_220 (d + 130) Q M C kc' r (n : Int) b r4 r5 (c : Int) r7 ((i : Int) + 1) o9 o10 o11) :
    ∀ (m : Nat) (i9 : Int) (lst : Nat), m ≤ n → tv (∀ k, m ≤ k → k < n → Rch (cEE n A) i k → Rch (cEE n A) k i) i9 → ((lst = n ∧ ∀ k, m ≤ k → k < n → ¬ Rch (cEE n A) i k) ∨ (m ≤ lst ∧ lst < n ∧ Rch (cEE n A) i lst ∧ ∀ k, m ≤ k → k < lst → ¬ Rch (cEE n A) i k)) → L_W_isChain_231 (d + 130) Q M C kc r (n : Int) b r4 r5 (c : Int) r7 (i : Int) i9 (lst : Int) ((m : Int) - 1) := by
  have hcl := Cn.le hc
  intro m
  induction m with
  | zero =>
    intro i9 lst hm h9 hl
    have hl : lst < n ∧ Rch (cEE n A) i lst ∧ ∀ k, k < lst → ¬ Rch (cEE n A) i k := by
      rcases hl with ⟨-, h2⟩ | ⟨-, h2, h3, h4⟩
      · exact absurd (Rch.refl i) (h2 i (Nat.zero_le i) hi)
      · exact ⟨h2, h3, fun k hk => h4 k (Nat.zero_le k) hk⟩
    have h9 : tv (inGrp n (cEE n A) i) i9 := h9.cg ⟨fun z k hk => z k (Nat.zero_le k) hk, fun z k _ hk => z k hk⟩
    have e9 := h9.bit
    have hli : lst ≤ i := Nat.not_lt.mp fun z => hl.2.2 i z (Rch.refl i)
    -- no group, or another one's
    have no : ∀ o10, ¬ isLst n (cEE n A) i → ∀ x M C kc', kc' ≤ kc + 3 → IQ j l (n, b, A) nt e g h t M → CVq C0 r r4 r5 r7 n P T PB B i R w C → gIs n (cEE n A) (i : Int) x → R32 x → L_W_isChain_284 (d + 130) Q M C kc' r (n : Int) b r4 r5 (c : Int) r7 (i : Int) i9 o10 x := fun o10 hno x M C kc' hk q hV hx hxr =>
      ch_284 hn hb4 hla hi (by omega) q hV hw h9 hx hxr fun M C kc2 R w o9 o10 o11 z1 z2 z3 z4 => hN M C kc2 c R w _ _ _ (by omega) z2 z3 z4 ⟨c, hc, Or.inr ⟨hno, rfl⟩⟩
    have l274 : ¬ isLst n (cEE n A) i → L_W_isChain_274 (d + 130) Q M C kc r (n : Int) b r4 r5 (c : Int) r7 (i : Int) i9 (lst : Int) (-1) := fun hno => by
      refine b_W_isChain_274 ⟨⟨by omega, by omega⟩, fun z => ?_, fun z => ⟨by omega, ?_⟩⟩
      · have hng : ¬ inGrp n (cEE n A) i := fun w => h9.yes.mpr w z
        refine no _ hno (-1) M C kc (by omega) q hV (Or.inr (Or.inl ⟨by omega, ?_, rfl⟩)) ⟨by decide, by decide⟩
        rw [Int.toNat_natCast]; exact hng
      · have hg := h9.yes.mp z
        refine c_group q (a := (lst : Int)) (x := 0) (y := 0) (z := 0) (Or.inr ⟨by omega, by show (lst : Int) < (n : Int); omega⟩) hla ⟨by decide, by decide⟩ ⟨by decide, by decide⟩ ⟨by decide, by decide⟩ _ ?_
        rintro v1 M1 C1 ⟨rfl, q1, hv1⟩
        have hv1 : gIs n (cEE n A) (lst : Int) v1 := hv1
        have hgl := hg.go hl.2.1 hi
        have back := hg lst hl.1 hl.2.1
        have hv : gIs n (cEE n A) (i : Int) v1 ∧ R32 v1 := by
          rcases hv1 with ⟨z, -⟩ | ⟨-, z, -⟩ | ⟨-, -, l9, c9, a1, a2, rfl, a3⟩
          · omega
          · rw [Int.toNat_natCast] at z
            exact absurd hgl z
          · rw [Int.toNat_natCast] at a1 a2
            have hcl9 := Cn.le a3
            have hl9 : l9 ≤ lst := Nat.not_lt.mp fun z => a2 lst z (Rch.refl lst)
            refine ⟨Or.inr (Or.inr ⟨by omega, ?_, l9, c9, ?_, fun k hk w => a2 k hk ?_, rfl, a3⟩), ⟨by omega, by omega⟩⟩
            · rw [Int.toNat_natCast]; exact hg
            · rw [Int.toNat_natCast]; exact hl.2.1.tr a1
            · rw [Int.toNat_natCast] at w; exact back.tr w
        exact no _ hno v1 M1 C1 _ (by omega) q1 hV hv.1 hv.2
    refine b_W_isChain_231 ⟨⟨by omega, by omega⟩, fun _ => ⟨⟨by omega, by omega⟩, fun z => l274 fun w => ?_, fun z => ⟨⟨by omega, by omega⟩, ⟨by omega, by omega⟩, fun z2 => l274 fun w => ?_, fun z2 => ?_⟩⟩, fun z => absurd (by omega) z⟩
    · exact h9.yes.mpr w.1 z
    · exact w.2 lst (by omega) hl.2.1
    · have hg := h9.yes.mp z
      have el : lst = i := by omega
      have hlst : isLst n (cEE n A) i := ⟨hg, fun k hk => hl.2.2 k (by omega)⟩
      refine ch_284 hn hb4 hla hi (by omega) q hV hw h9 (x := (c : Int)) (Or.inr (Or.inr ⟨by omega, ?_, i, c, ?_, ?_, rfl, hc⟩)) ⟨by omega, by omega⟩ fun M C kc2 R w o9 o10 o11 z1 z2 z3 z4 => hN M C kc2 (c + 1) R w _ _ _ (by omega) z2 z3 z4 ⟨c, hc, Or.inl ⟨hlst, rfl⟩⟩
      · rw [Int.toNat_natCast]; exact hg
      · rw [Int.toNat_natCast]; exact Rch.refl i
      · rw [Int.toNat_natCast]; exact hlst.2
  | succ m ih =>
    intro i9 lst hm h9 hl
    obtain ⟨⟨-, -, -, ⟨⟨fB, b1, b2⟩, b3, -⟩, -⟩, -, -⟩ := id hV
    obtain ⟨gi, g1, g2⟩ := b3 i hi
    obtain ⟨gm, g3, g4⟩ := b3 m (by omega)
    have vim := hBr i m hi (by omega)
    have vmi := hBr m i (by omega) hi
    have bim := vim.bit
    have bmi := vmi.bit
    have e9 := h9.bit
    have em : (((m + 1 : Nat) : Int) - 1) = (m : Int) := by omega
    rw [em]
    have l251 : ∀ x, tv (∀ k, m ≤ k → k < n → Rch (cEE n A) i k → Rch (cEE n A) k i) x → L_W_isChain_251 (d + 130) Q M C kc r (n : Int) b r4 r5 (c : Int) r7 (i : Int) x (lst : Int) (m : Int) := fun x hx => by
      refine b_W_isChain_251 ?_
      simp only [b1, b2 i hi, Int.toNat_natCast, cellAt, g1, g2 m (by omega)]
      rw [show (m : Int) + (-1) = (m : Int) - 1 by omega]
      refine ⟨⟨by decide, by decide⟩, ⟨by omega, by omega⟩, trivial, ⟨by omega, by omega⟩, ⟨by omega, by omega⟩, fun z => ?_, fun z => ?_⟩
      · have hno : ¬ Rch (cEE n A) i m := fun w => vim.yes.mpr w z
        refine ih x lst (by omega) hx ?_
        rcases hl with ⟨a1, a2⟩ | ⟨a1, a2, a3, a4⟩
        · refine Or.inl ⟨a1, fun k hk hk2 => ?_⟩
          by_cases y : k = m
          · rw [y]; exact hno
          · exact a2 k (by omega) hk2
        · refine Or.inr ⟨by omega, a2, a3, fun k hk hk2 => ?_⟩
          by_cases y : k = m
          · rw [y]; exact hno
          · exact a4 k (by omega) hk2
      · exact ih x m (by omega) hx (Or.inr ⟨Nat.le_refl m, by omega, vim.yes.mp z, fun k hk hk2 => by omega⟩)
    refine b_W_isChain_231 ⟨⟨by omega, by omega⟩, fun z => absurd z (by omega), fun _ => ?_⟩
    simp only [b1, b2 i hi, b2 m (by omega), Int.toNat_natCast, cellAt, g1, g2 m (by omega), g3, g4 i hi]
    have keep : ∀ {x}, x = i9 → (Rch (cEE n A) i m → Rch (cEE n A) m i) → tv (∀ k, m ≤ k → k < n → Rch (cEE n A) i k → Rch (cEE n A) k i) x := fun {x} hx hm2 => by
      rw [hx]
      refine h9.cg ⟨fun z k hk hk2 => ?_, fun z k hk hk2 => z k (by omega) hk2⟩
      by_cases y : k = m
      · rw [y]; exact hm2
      · exact z k (by omega) hk2
    refine ⟨⟨by decide, by decide⟩, ⟨by omega, by omega⟩, trivial, ⟨by omega, by omega⟩, ⟨by omega, by omega⟩, fun z => l251 _ (keep (zand01 e9) fun w => absurd w fun w => vim.yes.mpr w z), fun z => ⟨⟨by omega, by omega⟩, trivial, ⟨by omega, by omega⟩, ⟨by omega, by omega⟩, fun z2 => l251 _ (Or.inr ⟨zand0 _, fun w => ?_⟩), fun z2 => l251 _ (keep (zand01 e9) fun _ => vmi.yes.mp z2)⟩⟩
    exact vmi.yes.mpr (w m (Nat.le_refl m) (by omega) (vim.yes.mp z)) z2
theorem ch_220 (hn : 1 ≤ n ∧ n ≤ 4) (hb4 : 1 ≤ b ∧ b ≤ 4) (hla : lawful n b A) (hBr : ∀ y x, y < n → x < n → tv (Rch (cEE n A) y x) (B y x))
    (hN : ∀ (M : Mem) (C : LMem) (kc' : Nat) (R : Nat → Nat) (w : Nat → Rat) (o6 o9 o10 o11 : Option PV), kc' ≤ 300 → IQ j l (n, b, A) nt e g h t M → CVq C0 r r4 r5 r7 n P T PB B n R w C → (∀ k, k < n → SHq n b A k (w k)) → L_W_isChain_341 (d + 130) Q M C kc' r (n : Int) b r4 r5 o6 r7 0 o9 o10 o11) :
    ∀ (u i : Nat) (M : Mem) (C : LMem) (kc c : Nat) (R : Nat → Nat) (w : Nat → Rat) (o9 o10 o11 : Option PV), i + u = n → kc + 12 * u ≤ 290 → IQ j l (n, b, A) nt e g h t M → CVq C0 r r4 r5 r7 n P T PB B i R w C → (∀ k, k < i → SHq n b A k (w k)) → Cn (isLst n (cEE n A)) i c → L_W_isChain_220 (d + 130) Q M C kc r (n : Int) b r4 r5 (c : Int) r7 (i : Int) o9 o10 o11 := by
  intro u
  induction u with
  | zero =>
    intro i M C kc c R w o9 o10 o11 hi hkc q hV hw hc
    obtain rfl : i = n := by omega
    have hcl := Cn.le hc
    refine b_W_isChain_220 ⟨⟨by omega, by omega⟩, ⟨by omega, by omega⟩, fun _ => ⟨by omega, ?_⟩, fun z => absurd (Int.le_refl _) z⟩
    refine c_group q (a := -1) (x := 0) (y := 0) (z := 0) (Or.inl rfl) hla ⟨by decide, by decide⟩ ⟨by decide, by decide⟩ ⟨by decide, by decide⟩ _ ?_
    rintro v1 M1 C1 ⟨rfl, q1, hv1⟩
    have hv1 : gIs i (cEE i A) (-1) v1 := hv1
    have ev : v1 = (c : Int) := by
      rcases hv1 with ⟨-, c9, rfl, h9⟩ | ⟨z, -⟩ | ⟨z, -⟩
      · rw [h9.uniq hc]
      · exact absurd z (by decide)
      · exact absurd z (by decide)
    exact ⟨⟨by omega, by omega⟩, ⟨by omega, by omega⟩, fun _ => hN M1 C1 _ R w _ _ _ _ (by omega) q1 hV hw, fun z => absurd ev z⟩
  | succ u ih =>
    intro i M C kc c R w o9 o10 o11 hi hkc q hV hw hc
    refine b_W_isChain_220 ⟨⟨by omega, by omega⟩, ⟨by omega, by omega⟩, fun z => absurd z (by omega), fun _ => ?_⟩
    exact ch_231 hn hb4 hla hBr (by omega) (by omega) q hV hw hc (fun M C kc' c R w o9 o10 o11 z1 z2 z3 z4 z5 => ih (i + 1) M C kc' c R w _ _ _ (by omega) (by omega) z2 z3 z4 z5) n 1 n (Nat.le_refl n) (Or.inl ⟨rfl, fun k hk hk2 => by omega⟩) (Or.inl ⟨rfl, fun k hk hk2 => by omega⟩)
end GRP2
