/-! isChain: what leads to what. -/
def CWq (C0 : LMem) (r r4 r5 n : Nat) (P : Nat → Nat) (T : Nat → Nat → Int) (PB : Nat → Nat) (B : Nat → Nat → Int) (C : LMem) : Prop := CBq C0 r C ∧ MxQ 3 0 C r4 n n P T ∧ MxF C0 r4 n P ∧ MxQ 4 2 C r5 n n PB B ∧ MxF C0 r5 n PB
theorem MxQ.okd {kk k q n m z k' m' : Nat} {C : LMem} {P : Nat → Nat} {A : Nat → Nat → Int} {f : Nat → Int} {x : LCel} (h : MxQ kk k C q n m P A) (hz : C z = (k' + 1, m', f)) (h1 : k' ≠ kk) (h2 : k' ≠ k) : MxQ kk k (cst C z x) q n m P A := by
  obtain ⟨⟨f1, e1, e2⟩, h3, h4⟩ := h
  refine ⟨⟨f1, ?_, e2⟩, fun i hi => ?_, h4⟩
  · rw [cst_ne (fun w => ?_)]
    · exact e1
    · rw [w, hz] at e1
      have h9 : k' + 1 = kk + 1 := congrArg (fun x : LCel => x.1) e1
      omega
  · obtain ⟨g, g1, g2⟩ := h3 i hi
    refine ⟨g, ?_, g2⟩
    rw [cst_ne (fun w => ?_)]
    · exact g1
    · rw [w, hz] at g1
      have h9 : k' + 1 = k + 1 := congrArg (fun x : LCel => x.1) g1
      omega
section CWS
variable {C0 C C' : LMem} {r r4 r5 n : Nat} {P PB : Nat → Nat} {T B : Nat → Nat → Int}
theorem CWq.setB {i j : Nat} {v : Int} {g : Nat → Int} (h : CWq C0 r r4 r5 n P T PB B C) (hi : i < n) (hg : C (PB i) = (3, n, g)) : CWq C0 r r4 r5 n P T PB (upA B i j v) (cst C (PB i) (3, n, sr g j v)) := by
  obtain ⟨h1, h2, h3, h4, h5⟩ := h
  exact ⟨h1.set (h5.2 i hi), h2.okd (k' := 2) hg (by decide) (by decide), h3, h4.set hi hg (h4.kne (by decide) hi), h5⟩
theorem CWq.rnd (h : CWq C0 r r4 r5 n P T PB B C) (hf : LF [r] C C') (hr : ∃ x, C' r = (1, 1, x)) : CWq C0 r r4 r5 n P T PB B C' := by
  obtain ⟨h1, h2, h3, h4, h5⟩ := h
  exact ⟨h1.rnd hf hr, h2.rndF hf h3 h1.2.2, h3, h4.rndF hf h5 h1.2.2, h5⟩
theorem CWq.off (h : CWq C0 r r4 r5 n P T PB B C) (hf : LF [] C C') : CWq C0 r r4 r5 n P T PB B C' := by
  obtain ⟨h1, h2, h3, h4, h5⟩ := h
  exact ⟨h1.off hf, h2.off0 hf, h3, h4.off0 hf, h5⟩
theorem CWq.new {z : Nat} {x : LCel} (h : CWq C0 r r4 r5 n P T PB B C) (hz : (C z).1 = 0) : CWq C0 r r4 r5 n P T PB B (cst C z x) := by
  obtain ⟨h1, h2, h3, h4, h5⟩ := h
  exact ⟨h1.set (h1.2.1.free hz), h2.new hz, h3, h4.new hz, h5⟩
end CWS
theorem zor0 {x : Int} (h : x = 0 ∨ x = 1) : zor x 0 = x := by rcases h with rfl | rfl <;> decide
theorem zor1 {x : Int} (h : x = 0 ∨ x = 1) : zor x 1 = 1 := by rcases h with rfl | rfl <;> decide
/-- a truth, as the law holds it -/
def tv (p : Prop) (x : Int) : Prop := (x = 1 ∧ p) ∨ (x = 0 ∧ ¬ p)
theorem tv.bit {p : Prop} {x : Int} (h : tv p x) : x = 0 ∨ x = 1 := h.elim (fun z => Or.inr z.1) (fun z => Or.inl z.1)
theorem tv.cg {p q : Prop} {x : Int} (h : tv p x) (e : p ↔ q) : tv q x := h.imp (fun z => ⟨z.1, e.mp z.2⟩) (fun z => ⟨z.1, fun w => z.2 (e.mpr w)⟩)
theorem tv.yes {p : Prop} {x : Int} (h : tv p x) : ¬ x = 0 ↔ p := by
  rcases h with ⟨rfl, hp⟩ | ⟨rfl, hp⟩
  · exact ⟨fun _ => hp, fun _ => by decide⟩
  · exact ⟨fun z => absurd rfl z, fun z => absurd z hp⟩
section CWL
variable {d : Nat} {Q : LQ} {M : Mem} {C0 : LMem} {r r4 r5 n : Nat} {b : Int} {P PB : Nat → Nat} {T : Nat → Nat → Int} {kc : Nat}
/-- rows below i, and the places below k of row i, are told -/
theorem ch_145 (hn : n ≤ 4) {i : Nat} (hi : i < n) (hT : ∀ y x, y < n → x < n → -1000 ≤ T y x ∧ T y x ≤ 1000)
    (hN : ∀ (C : LMem) (B : Nat → Nat → Int) (o7 o8 o9 o10 o11 : Option PV), CWq C0 r r4 r5 n P T PB B C → (∀ y x, y < i + 1 → x < n → tv (y = x ∨ 0 < T y x) (B y x)) → L_W_isChain_140 (d + 130) Q M C kc r (n : Int) b r4 r5 ((i : Int) + 1) o7 o8 o9 o10 o11) :
    ∀ (u k : Nat) (C : LMem) (B : Nat → Nat → Int) (o8 o9 o10 o11 : Option PV), k + u = n → CWq C0 r r4 r5 n P T PB B C → (∀ y x, y < i → x < n → tv (y = x ∨ 0 < T y x) (B y x)) → (∀ x, x < k → tv (i = x ∨ 0 < T i x) (B i x)) → L_W_isChain_145 (d + 130) Q M C kc r (n : Int) b r4 r5 (i : Int) (k : Int) o8 o9 o10 o11 := by
  intro u
  induction u with
  | zero =>
    intro k C B o8 o9 o10 o11 hk hW h1 h2
    obtain rfl : k = n := by omega
    refine b_W_isChain_145 ⟨⟨by omega, by omega⟩, ⟨by omega, by omega⟩, fun _ => hN C B _ _ _ _ _ hW (fun y x hy hx => ?_), fun z => absurd (Int.le_refl _) z⟩
    by_cases e : y = i
    · rw [e]; exact h2 x hx
    · exact h1 y x (by omega) hx
  | succ u ih =>
    intro k C B o8 o9 o10 o11 hk hW h1 h2
    obtain ⟨-, ⟨⟨f, f1, f2⟩, m2, -⟩, -, ⟨⟨fB, b1, b2⟩, b3, -⟩, -⟩ := id hW
    obtain ⟨gr, g1, g2⟩ := m2 i hi
    obtain ⟨gB, g3, g4⟩ := b3 i hi
    have hTk := hT i k hi (by omega)
    have go : ∀ v : Int, tv (i = k ∨ 0 < T i k) v → L_W_isChain_145 (d + 130) Q M (cst C (PB i) (3, n, sr gB k v)) kc r (n : Int) b r4 r5 (i : Int) ((k : Int) + 1) o8 o9 o10 o11 := by
      intro v hv
      refine ih (k + 1) _ (upA B i k v) o8 o9 o10 o11 (by omega) (hW.setB hi g3) (fun y x hy hx => ?_) (fun x hx => ?_)
      · unfold upA
        rw [if_neg (fun w => by omega)]
        exact h1 y x hy hx
      · unfold upA
        by_cases e : x = k
        · rw [if_pos ⟨rfl, e⟩, e]; exact hv
        · rw [if_neg (fun w => e w.2)]; exact h2 x (by omega)
    refine b_W_isChain_145 ⟨⟨by omega, by omega⟩, ⟨by omega, by omega⟩, fun z => absurd z (by omega), fun _ => ?_⟩
    simp only [f1, f2 i hi, b1, b2 i hi, Int.toNat_natCast, cellAt, g1, g2 k (by omega), g3, cup_of g3]
    refine ⟨⟨by decide, by decide⟩, ⟨by omega, by omega⟩, ⟨by omega, by omega⟩, fun z => ⟨trivial, ⟨by omega, by omega⟩, go 1 (Or.inl ⟨rfl, Or.inl (by omega)⟩)⟩, fun z => ⟨⟨by decide, by decide⟩, ⟨by omega, by omega⟩, trivial, ⟨by omega, by omega⟩, ⟨by omega, by omega⟩, fun w => ⟨trivial, ⟨by omega, by omega⟩, go 0 (Or.inr ⟨rfl, fun v => by omega⟩)⟩, fun w => ⟨trivial, ⟨by omega, by omega⟩, go 1 (Or.inl ⟨rfl, Or.inr (by omega)⟩)⟩⟩⟩
theorem ch_140 (hn : n ≤ 4) (hT : ∀ y x, y < n → x < n → -1000 ≤ T y x ∧ T y x ≤ 1000)
    (hN : ∀ (C : LMem) (B : Nat → Nat → Int) (o7 o8 o9 o10 o11 : Option PV), CWq C0 r r4 r5 n P T PB B C → (∀ y x, y < n → x < n → tv (y = x ∨ 0 < T y x) (B y x)) → L_W_isChain_171 (d + 130) Q M C kc r (n : Int) b r4 r5 0 o7 o8 o9 o10 o11) :
    ∀ (u i : Nat) (C : LMem) (B : Nat → Nat → Int) (o7 o8 o9 o10 o11 : Option PV), i + u = n → CWq C0 r r4 r5 n P T PB B C → (∀ y x, y < i → x < n → tv (y = x ∨ 0 < T y x) (B y x)) → L_W_isChain_140 (d + 130) Q M C kc r (n : Int) b r4 r5 (i : Int) o7 o8 o9 o10 o11 := by
  intro u
  induction u with
  | zero =>
    intro i C B o7 o8 o9 o10 o11 hi hW h1
    obtain rfl : i = n := by omega
    exact b_W_isChain_140 ⟨⟨by omega, by omega⟩, ⟨by omega, by omega⟩, fun _ => hN C B _ _ _ _ _ hW h1, fun z => absurd (Int.le_refl _) z⟩
  | succ u ih =>
    intro i C B o7 o8 o9 o10 o11 hi hW h1
    refine b_W_isChain_140 ⟨⟨by omega, by omega⟩, ⟨by omega, by omega⟩, fun z => absurd z (by omega), fun _ => ?_⟩
    exact ch_145 hn (by omega) hT (fun C B o7 o8 o9 o10 o11 w1 w2 => ih (i + 1) C B _ _ _ _ _ (by omega) w1 w2) n 0 C B _ _ _ _ (by omega) hW h1 (fun x hx => absurd hx (Nat.not_lt_zero x))
/-- one place more of the closing -/
def wst (E : Nat → Nat → Prop) (n K i k : Nat) (B : Nat → Nat → Int) : Prop := ∀ y x, y < n → x < n → tv (if y < i ∨ (y = i ∧ x < k) then Wk E (K + 1) y x else Wk E K y x) (B y x)
theorem wst.at {E : Nat → Nat → Prop} {n K i k y x : Nat} {B : Nat → Nat → Int} (h : wst E n K i k B) (hy : y < n) (hx : x < n) (e : Wk E (K + 1) y x ↔ Wk E K y x) : tv (Wk E K y x) (B y x) := by
  have := h y x hy hx
  by_cases z : y < i ∨ (y = i ∧ x < k)
  · rw [if_pos z] at this; exact this.cg e
  · rw [if_neg z] at this; exact this
theorem wst.up {E : Nat → Nat → Prop} {n K i k : Nat} {B : Nat → Nat → Int} {v : Int} (h : wst E n K i k B) (hv : tv (Wk E (K + 1) i k) v) : wst E n K i (k + 1) (upA B i k v) := fun y x hy hx => by
  unfold upA
  by_cases z : y = i ∧ x = k
  · rw [if_pos z, if_pos (Or.inr ⟨z.1, by omega⟩), z.1, z.2]
    exact hv
  · rw [if_neg z]
    have := h y x hy hx
    by_cases w : y < i ∨ (y = i ∧ x < k)
    · rw [if_pos w] at this
      rw [if_pos (by omega)]
      exact this
    · rw [if_neg w] at this
      rw [if_neg (by omega)]
      exact this
theorem ch_181 {E : Nat → Nat → Prop} (hn : n ≤ 4) {K i : Nat} (hK : K < n) (hi : i < n)
    (hN : ∀ (C : LMem) (B : Nat → Nat → Int) (o8 o9 o10 o11 : Option PV), CWq C0 r r4 r5 n P T PB B C → wst E n K (i + 1) 0 B → L_W_isChain_176 (d + 130) Q M C kc r (n : Int) b r4 r5 (K : Int) ((i : Int) + 1) o8 o9 o10 o11) :
    ∀ (u k : Nat) (C : LMem) (B : Nat → Nat → Int) (o9 o10 o11 : Option PV), k + u = n → CWq C0 r r4 r5 n P T PB B C → wst E n K i k B → L_W_isChain_181 (d + 130) Q M C kc r (n : Int) b r4 r5 (K : Int) (i : Int) (k : Int) o9 o10 o11 := by
  intro u
  induction u with
  | zero =>
    intro k C B o9 o10 o11 hk hW h1
    obtain rfl : k = n := by omega
    refine b_W_isChain_181 ⟨⟨by omega, by omega⟩, ⟨by omega, by omega⟩, fun _ => hN C B _ _ _ _ hW (fun y x hy hx => ?_), fun z => absurd (Int.le_refl _) z⟩
    have := h1 y x hy hx
    by_cases w : y < i ∨ (y = i ∧ x < k)
    · rw [if_pos w] at this
      rw [if_pos (by omega)]
      exact this
    · rw [if_neg w] at this
      rw [if_neg (by omega)]
      exact this
  | succ u ih =>
    intro k C B o9 o10 o11 hk hW h1
    obtain ⟨-, -, -, ⟨⟨fB, b1, b2⟩, b3, -⟩, -⟩ := id hW
    obtain ⟨gi, g1, g2⟩ := b3 i hi
    obtain ⟨gK, g3, g4⟩ := b3 K hK
    have hk9 : k < n := by omega
    have vik := h1 i k hi hk9
    rw [if_neg (by omega)] at vik
    have viK := h1.at hi hK Wk.toSelf
    have vKk := h1.at hK hk9 Wk.self
    have go : ∀ v : Int, tv (Wk E (K + 1) i k) v → L_W_isChain_181 (d + 130) Q M (cst C (PB i) (3, n, sr gi k v)) kc r (n : Int) b r4 r5 (K : Int) (i : Int) ((k : Int) + 1) o9 o10 o11 := fun v hv => ih (k + 1) _ (upA B i k v) o9 o10 o11 (by omega) (hW.setB hi g1) (h1.up hv)
    have bik := vik.bit
    have biK := viK.bit
    have bKk := vKk.bit
    refine b_W_isChain_181 ⟨⟨by omega, by omega⟩, ⟨by omega, by omega⟩, fun z => absurd z (by omega), fun _ => ?_⟩
    simp only [b1, b2 i hi, b2 K hK, Int.toNat_natCast, cellAt, g1, g2 k hk9, g2 K hK, g3, g4 k hk9, cup_of g1, zor0 bik, zor1 bik]
    refine ⟨⟨by decide, by decide⟩, ⟨by omega, by omega⟩, trivial, ⟨by omega, by omega⟩, trivial, ⟨by omega, by omega⟩, ⟨by omega, by omega⟩, fun z => ⟨trivial, ⟨by omega, by omega⟩, bik, go _ (vik.cg ⟨fun w => Or.inl w, fun w => w.elim id fun w => absurd w.1 (fun q => viK.yes.mpr q z)⟩)⟩, fun z => ⟨⟨by omega, by omega⟩, trivial, ⟨by omega, by omega⟩, ⟨by omega, by omega⟩, fun w => ⟨trivial, ⟨by omega, by omega⟩, bik, go _ (vik.cg ⟨fun v => Or.inl v, fun v => v.elim id fun v => absurd v.2 (fun q => vKk.yes.mpr q w)⟩)⟩, fun w => ⟨trivial, ⟨by omega, by omega⟩, Or.inr trivial, go 1 (Or.inl ⟨rfl, Or.inr ⟨viK.yes.mp z, vKk.yes.mp w⟩⟩)⟩⟩⟩
theorem ch_176 {E : Nat → Nat → Prop} (hn : n ≤ 4) {K : Nat} (hK : K < n)
    (hN : ∀ (C : LMem) (B : Nat → Nat → Int) (o7 o8 o9 o10 o11 : Option PV), CWq C0 r r4 r5 n P T PB B C → (∀ y x, y < n → x < n → tv (Wk E (K + 1) y x) (B y x)) → L_W_isChain_171 (d + 130) Q M C kc r (n : Int) b r4 r5 ((K : Int) + 1) o7 o8 o9 o10 o11) :
    ∀ (u i : Nat) (C : LMem) (B : Nat → Nat → Int) (o8 o9 o10 o11 : Option PV), i + u = n → CWq C0 r r4 r5 n P T PB B C → wst E n K i 0 B → L_W_isChain_176 (d + 130) Q M C kc r (n : Int) b r4 r5 (K : Int) (i : Int) o8 o9 o10 o11 := by
  intro u
  induction u with
  | zero =>
    intro i C B o8 o9 o10 o11 hi hW h1
    obtain rfl : i = n := by omega
    refine b_W_isChain_176 ⟨⟨by omega, by omega⟩, ⟨by omega, by omega⟩, fun _ => hN C B _ _ _ _ _ hW (fun y x hy hx => ?_), fun z => absurd (Int.le_refl _) z⟩
    have := h1 y x hy hx
    rw [if_pos (Or.inl hy)] at this
    exact this
  | succ u ih =>
    intro i C B o8 o9 o10 o11 hi hW h1
    refine b_W_isChain_176 ⟨⟨by omega, by omega⟩, ⟨by omega, by omega⟩, fun z => absurd z (by omega), fun _ => ?_⟩
    exact ch_181 hn hK (by omega) (fun C B o8 o9 o10 o11 w1 w2 => ih (i + 1) C B _ _ _ _ (by omega) w1 w2) n 0 C B _ _ _ (by omega) hW h1
theorem ch_171 {E : Nat → Nat → Prop} (hn : n ≤ 4) (hkc : kc ≤ 1000)
    (hN : ∀ (C : LMem) (B : Nat → Nat → Int) (q7 : Nat) (o9 o10 o11 : Option PV), CWq C0 r r4 r5 n P T PB B C → (C q7).1 = 0 → (∀ y x, y < n → x < n → tv (Wk E n y x) (B y x)) → L_W_isChain_220 (d + 130) Q M (cst C q7 (6, n, fun _ => 0)) (kc + lcost n) r (n : Int) b r4 r5 0 q7 0 o9 o10 o11) :
    ∀ (u K : Nat) (C : LMem) (B : Nat → Nat → Int) (o7 o8 o9 o10 o11 : Option PV), K + u = n → CWq C0 r r4 r5 n P T PB B C → (∀ y x, y < n → x < n → tv (Wk E K y x) (B y x)) → L_W_isChain_171 (d + 130) Q M C kc r (n : Int) b r4 r5 (K : Int) o7 o8 o9 o10 o11 := by
  intro u
  induction u with
  | zero =>
    intro K C B o7 o8 o9 o10 o11 hK hW h1
    obtain rfl : K = n := by omega
    refine b_W_isChain_171 ⟨⟨by omega, by omega⟩, ⟨by omega, by omega⟩, fun _ => ⟨⟨by omega, by omega⟩, by rw [Int.toNat_natCast]; unfold lcost; omega, fun q7 hq7 => ?_⟩, fun z => absurd (Int.le_refl _) z⟩
    rw [Int.toNat_natCast]
    exact hN C B q7 _ _ _ hW hq7 h1
  | succ u ih =>
    intro K C B o7 o8 o9 o10 o11 hK hW h1
    refine b_W_isChain_171 ⟨⟨by omega, by omega⟩, ⟨by omega, by omega⟩, fun z => absurd z (by omega), fun _ => ?_⟩
    refine ch_176 hn (by omega) (fun C B o7 o8 o9 o10 o11 w1 w2 => ih (K + 1) C B _ _ _ _ _ (by omega) w1 w2) n 0 C B _ _ _ _ (by omega) hW (fun y x hy hx => ?_)
    rw [if_neg (by omega)]
    exact h1 y x hy hx
end CWL
