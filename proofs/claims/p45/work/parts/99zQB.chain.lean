/-! isChain: the chances are told. -/
def CBq (C0 : LMem) (r : Nat) (C : LMem) : Prop := (∃ x, C r = (1, 1, x)) ∧ LF [r] C0 C ∧ (C0 r).1 ≠ 0
def MxF (C0 : LMem) (q n : Nat) (P : Nat → Nat) : Prop := (C0 q).1 = 0 ∧ ∀ i, i < n → (C0 (P i)).1 = 0
section CHA
variable {kk k q n m r : Nat} {C C' C0 : LMem} {P : Nat → Nat} {A : Nat → Nat → Int}
theorem MxF.ne (h : MxF C0 q n P) (hr : (C0 r).1 ≠ 0) : q ≠ r ∧ ∀ i, i < n → P i ≠ r := ⟨fun z => hr (by rw [← z]; exact h.1), fun i hi z => hr (by rw [← z]; exact h.2 i hi)⟩
theorem MxQ.rndF (h : MxQ kk k C q n m P A) (hf : LF [r] C C') (hF : MxF C0 q n P) (hr : (C0 r).1 ≠ 0) : MxQ kk k C' q n m P A := h.off hf (nin1 (hF.ne hr).1) fun i hi => nin1 ((hF.ne hr).2 i hi)
theorem CBq.rnd (h : CBq C0 r C) (hf : LF [r] C C') (hr : ∃ x, C' r = (1, 1, x)) : CBq C0 r C' := ⟨hr, h.2.1.tr hf, h.2.2⟩
theorem CBq.set {z : Nat} {x : LCel} (h : CBq C0 r C) (hz : (C0 z).1 = 0) : CBq C0 r (cst C z x) := by
  obtain ⟨⟨y, h1⟩, h2, h3⟩ := h
  exact ⟨⟨y, by rw [cst_ne (fun w => h3 (by rw [w]; exact hz))]; exact h1⟩, h2.set hz, h3⟩
theorem CBq.off (h : CBq C0 r C) (hf : LF [] C C') : CBq C0 r C' := by
  obtain ⟨⟨y, h1⟩, h2, h3⟩ := h
  exact ⟨⟨y, hf.at' (k := 0) (fun z => by cases z) h1⟩, h2.tr hf.nil, h3⟩
end CHA
theorem rot_inj : ∀ n, n < 5 → ∀ s, s < n → ∀ a, a < n → ∀ b, b < n → (a + s) % n = (b + s) % n → a = b := by decide
theorem rot_sur : ∀ n, n < 5 → ∀ s, s < n → ∀ x, x < n → ∃ k, k < n ∧ (k + s) % n = x := by decide
theorem rot_sum {A B : Nat → Nat → Int} {i n s : Nat} (hn : n < 5) (hs : s < n) (h : ∀ k, k < n → A i ((k + s) % n) = B i k) : rowS A i n = rowS B i n := by
  have h0 := h 0
  have h1 := h 1
  have h2 := h 2
  have h3 := h 3
  rcases (show n = 1 ∨ n = 2 ∨ n = 3 ∨ n = 4 by omega) with rfl | rfl | rfl | rfl
  · obtain rfl : s = 0 := by omega
    have h0 : A i 0 = B i 0 := h0 (by decide)
    show 0 + A i 0 = 0 + B i 0
    omega
  · show 0 + A i 0 + A i 1 = 0 + B i 0 + B i 1
    rcases (show s = 0 ∨ s = 1 by omega) with rfl | rfl
    · have h0 : A i 0 = B i 0 := h0 (by decide)
      have h1 : A i 1 = B i 1 := h1 (by decide)
      omega
    · have h0 : A i 1 = B i 0 := h0 (by decide)
      have h1 : A i 0 = B i 1 := h1 (by decide)
      omega
  · show 0 + A i 0 + A i 1 + A i 2 = 0 + B i 0 + B i 1 + B i 2
    rcases (show s = 0 ∨ s = 1 ∨ s = 2 by omega) with rfl | rfl | rfl
    · have h0 : A i 0 = B i 0 := h0 (by decide)
      have h1 : A i 1 = B i 1 := h1 (by decide)
      have h2 : A i 2 = B i 2 := h2 (by decide)
      omega
    · have h0 : A i 1 = B i 0 := h0 (by decide)
      have h1 : A i 2 = B i 1 := h1 (by decide)
      have h2 : A i 0 = B i 2 := h2 (by decide)
      omega
    · have h0 : A i 2 = B i 0 := h0 (by decide)
      have h1 : A i 0 = B i 1 := h1 (by decide)
      have h2 : A i 1 = B i 2 := h2 (by decide)
      omega
  · show 0 + A i 0 + A i 1 + A i 2 + A i 3 = 0 + B i 0 + B i 1 + B i 2 + B i 3
    rcases (show s = 0 ∨ s = 1 ∨ s = 2 ∨ s = 3 by omega) with rfl | rfl | rfl | rfl
    · have h0 : A i 0 = B i 0 := h0 (by decide)
      have h1 : A i 1 = B i 1 := h1 (by decide)
      have h2 : A i 2 = B i 2 := h2 (by decide)
      have h3 : A i 3 = B i 3 := h3 (by decide)
      omega
    · have h0 : A i 1 = B i 0 := h0 (by decide)
      have h1 : A i 2 = B i 1 := h1 (by decide)
      have h2 : A i 3 = B i 2 := h2 (by decide)
      have h3 : A i 0 = B i 3 := h3 (by decide)
      omega
    · have h0 : A i 2 = B i 0 := h0 (by decide)
      have h1 : A i 3 = B i 1 := h1 (by decide)
      have h2 : A i 0 = B i 2 := h2 (by decide)
      have h3 : A i 1 = B i 3 := h3 (by decide)
      omega
    · have h0 : A i 3 = B i 0 := h0 (by decide)
      have h1 : A i 0 = B i 1 := h1 (by decide)
      have h2 : A i 1 = B i 2 := h2 (by decide)
      have h3 : A i 2 = B i 3 := h3 (by decide)
      omega
theorem rowS_cg {A B : Nat → Nat → Int} {i : Nat} : ∀ k, (∀ j, j < k → A i j = B i j) → rowS A i k = rowS B i k
  | 0, _ => rfl
  | k + 1, h => by
    show rowS A i k + A i k = rowS B i k + B i k
    rw [rowS_cg k (fun j hj => h j (by omega)), h k (by omega)]
section CHB
variable {d : Nat} {Q : LQ} {C0 : LMem} {j : StJ} {l : StL} {nt : StN} {e : StE} {g : StG} {h : StH} {t : StT} {r r4 n : Nat} {b : Int} {o6 o7 o8 o9 o10 o11 : Option PV}
def DoneR (n : Nat) (b : Int) (i : Nat) (A T : Nat → Nat → Int) : Prop := ∀ y, y < i → (∀ x, x < n → A y x = T y x ∧ 0 ≤ T y x ∧ T y x ≤ b) ∧ rowS T y n = b
theorem ch_110 (hn : 1 ≤ n ∧ n ≤ 4) {C : LMem} {P : Nat → Nat} {T : Nat → Nat → Int} (hM : MxQ 3 0 C r4 n n P T) {i : Nat} (hi : i < n) (hT : ∀ x, x < n → 0 ≤ T i x ∧ T i x ≤ b) (hS : rowS T i n = b) {kc0 : Nat} (hkc0 : kc0 ≤ 400) (hb4 : 1 ≤ b ∧ b ≤ 4)
    (hN : ∀ (M : Mem) (kc : Nat) (A : Nat → Nat → Int) (o8 o9 o10 : Option PV), kc ≤ kc0 + 12 → IQ j l (n, b, A) nt e g h t M → DoneR n b (i + 1) A T → L_W_isChain_27 (d + 130) Q M C kc r (n : Int) b r4 ((i : Int) + 1) o6 o7 o8 o9 o10 o11) :
    ∀ (u k : Nat) (M : Mem) (kc : Nat) (A : Nat → Nat → Int) (i9 : Int) (o8 : Option PV), k + u = n → kc + 3 * u ≤ kc0 + 12 → IQ j l (n, b, A) nt e g h t M → (∀ x, x < k → A i x = T i x) → DoneR n b i A T → (0 < k → i9 = rowS A i n) → (k = 0 → i9 = 0) → L_W_isChain_110 (d + 130) Q M C kc r (n : Int) b r4 (i : Int) o6 o7 o8 i9 (k : Int) o11 := by
  intro u
  induction u with
  | zero =>
    intro k M kc A i9 o8 hk hkc q hA hD h9 h90
    obtain rfl : k = n := by omega
    have e9 : i9 = b := by rw [h9 (by omega), rowS_cg k (fun x hx => hA x hx), hS]
    refine b_W_isChain_110 ⟨⟨by omega, by omega⟩, ⟨by omega, by omega⟩, fun _ => ⟨⟨by omega, by omega⟩, ⟨by omega, by omega⟩, fun _ => hN M kc A _ _ _ (by omega) q ?_, fun z => absurd e9 z⟩, fun z => absurd (Int.le_refl _) z⟩
    intro y hy
    by_cases e : y = i
    · rw [e]; exact ⟨fun x hx => ⟨hA x hx, hT x hx⟩, hS⟩
    · exact hD y (by omega)
  | succ u ih =>
    intro k M kc A i9 o8 hk hkc q hA hD h9 h90
    obtain ⟨⟨f, f1, f2⟩, m2, m3⟩ := id hM
    obtain ⟨gr, g1, g2⟩ := m2 i hi
    refine b_W_isChain_110 ⟨⟨by omega, by omega⟩, ⟨by omega, by omega⟩, fun z => absurd z (by omega), fun _ => ?_⟩
    simp only [f1, f2 i hi, Int.toNat_natCast, cellAt, g1, g2 k (by omega)]
    refine ⟨⟨by decide, by decide⟩, ⟨by omega, by omega⟩, trivial, ⟨by omega, by omega⟩, by omega, ?_⟩
    refine c_chance q (a := (i : Int)) (b := (k : Int)) (x := T i k) (z := 0) ⟨⟨by omega, by show (i : Int) < (n : Int); omega⟩, by omega, by show (k : Int) < (n : Int); omega⟩ (hT k (by omega)) ⟨by decide, by decide⟩ _ ?_
    rintro v M2 C2 ⟨rfl, hv, hq2⟩
    rw [Int.toNat_natCast, Int.toNat_natCast] at hv hq2
    refine ih (k + 1) M2 _ (upA A i k (T i k)) v _ (by omega) (by omega) hq2 (fun x hx => ?_) (fun y hy => ?_) (fun _ => hv) (fun z => by cases z)
    · unfold upA
      by_cases e : x = k
      · rw [if_pos ⟨rfl, e⟩, e]
      · rw [if_neg (fun z => e z.2)]; exact hA x (by omega)
    · obtain ⟨d1, d2⟩ := hD y hy
      refine ⟨fun x hx => ⟨?_, (d1 x hx).2⟩, d2⟩
      unfold upA
      rw [if_neg (fun z => by omega)]
      exact (d1 x hx).1
theorem ch_85 (hn : 1 ≤ n ∧ n ≤ 4) (hb4 : 1 ≤ b ∧ b ≤ 4) {M : Mem} {A : Nat → Nat → Int} {P : Nat → Nat} {T : Nat → Nat → Int} {i q2 s kc : Nat} (hi : i < n) (hs : s < n) (hT : ∀ x, x < n → 0 ≤ T i x ∧ T i x ≤ b) (hS : rowS T i n = b) (q : IQ j l (n, b, A) nt e g h t M) (hD : DoneR n b i A T) (hF : MxF C0 r4 n P) (hq2 : (C0 q2).1 = 0) (hkc : kc ≤ 380)
    (hN : ∀ (M : Mem) (C : LMem) (kc' : Nat) (P : Nat → Nat) (T A : Nat → Nat → Int) (o6 o7 o8 o9 o10 o11 : Option PV), kc' ≤ kc + 12 → CBq C0 r C → MxQ 3 0 C r4 n n P T → MxF C0 r4 n P → IQ j l (n, b, A) nt e g h t M → DoneR n b (i + 1) A T → L_W_isChain_27 (d + 130) Q M C kc' r (n : Int) b r4 ((i : Int) + 1) o6 o7 o8 o9 o10 o11) :
    ∀ (u k : Nat) (C : LMem) (gq : Nat → Int), k + u = n → CBq C0 r C → MxQ 3 0 C r4 n n P T → C q2 = (1, n, gq) → (∀ y, y < n → q2 ≠ P y) → q2 ≠ r4 → (∀ x, x < k → gq ((x + s) % n) = T i x) → L_W_isChain_85 (d + 130) Q M C kc r (n : Int) b r4 (i : Int) o6 (s : Int) q2 (k : Int) o10 o11 := by
  intro u
  induction u with
  | zero =>
    intro k C gq hk hB hM hq hne hne4 hg
    obtain rfl : k = n := by omega
    obtain ⟨⟨f, f1, f2⟩, m2, m3⟩ := id hM
    refine b_W_isChain_85 ⟨⟨by omega, by omega⟩, ⟨by omega, by omega⟩, fun _ => ?_, fun z => absurd (Int.le_refl _) z⟩
    simp only [f1, hq, cup_of f1, Int.toNat_natCast]
    refine ⟨⟨by decide, by decide⟩, ⟨by omega, by omega⟩, rfl, ?_⟩
    have hM' := hM.row (i := i) hi f1 hq hne4 hne (by decide)
    have hgS : rowS (fun a c => if a = i then gq c else T a c) i k = b := by
      rw [← hS]
      refine rot_sum (s := s) (by omega) hs fun x hx => ?_
      show (if i = i then gq ((x + s) % k) else T i ((x + s) % k)) = T i x
      rw [if_pos rfl]
      exact hg x hx
    have hgT : ∀ x, x < k → 0 ≤ (if i = i then gq x else T i x) ∧ (if i = i then gq x else T i x) ≤ b := fun x hx => by
      rw [if_pos rfl]
      obtain ⟨y, y1, y2⟩ := rot_sur k (by omega) s hs x hx
      rw [← y2, hg y y1]
      exact hT y y1
    have hD' : DoneR k b i A (fun a c => if a = i then gq c else T a c) := fun y hy => by
      obtain ⟨d1, d2⟩ := hD y hy
      refine ⟨fun x hx => ?_, ?_⟩
      · show A y x = (if y = i then gq x else T y x) ∧ _ ≤ (if y = i then gq x else T y x) ∧ (if y = i then gq x else T y x) ≤ b
        rw [if_neg (by omega)]
        exact d1 x hx
      · rw [← d2]
        refine rowS_cg k fun x hx => ?_
        show (if y = i then gq x else T y x) = T y x
        rw [if_neg (by omega)]
    have hF' : MxF C0 r4 k (fun a => if a = i then q2 else P a) := ⟨hF.1, fun y hy => by
      show (C0 (if y = i then q2 else P y)).1 = 0
      by_cases e : y = i
      · rw [if_pos e]; exact hq2
      · rw [if_neg e]; exact hF.2 y hy⟩
    exact ch_110 hn hM' hi hgT hgS (kc0 := kc) (by omega) hb4 (fun M kc' A o8 o9 o10 z1 z2 z3 => hN M _ kc' _ _ A _ _ _ _ _ _ (by omega) (hB.set hF.1) hM' hF' z2 z3) k 0 M kc A 0 _ (by omega) (by omega) q (fun x hx => absurd hx (Nat.not_lt_zero x)) hD' (fun z => absurd z (Nat.lt_irrefl 0)) (fun _ => rfl)
  | succ u ih =>
    intro k C gq hk hB hM hq hne hne4 hg
    obtain ⟨⟨f, f1, f2⟩, m2, m3⟩ := id hM
    obtain ⟨gr, g1, g2⟩ := m2 i hi
    have hmod : ((k : Int) + (s : Int)) % (n : Int) = (((k + s) % n : Nat) : Int) := by rw [Int.natCast_emod, Int.natCast_add]
    have hlt : (k + s) % n < n := Nat.mod_lt _ (by omega)
    refine b_W_isChain_85 ⟨⟨by omega, by omega⟩, ⟨by omega, by omega⟩, fun z => absurd z (by omega), fun _ => ?_⟩
    simp only [f1, f2 i hi, Int.toNat_natCast, cellAt, g1, g2 k (by omega), hq, cup_of hq, hmod]
    refine ⟨⟨by omega, by omega⟩, ⟨by omega, by omega⟩, ⟨by decide, by decide⟩, ⟨by omega, by omega⟩, trivial, ⟨by omega, by omega⟩, trivial, ⟨by omega, by omega⟩, ?_⟩
    refine ih (k + 1) _ (sr gq ((k + s) % n) (T i k)) (by omega) (hB.set hq2) ⟨⟨f, by rw [cst_ne (Ne.symm hne4)]; exact f1, f2⟩, fun y hy => ?_, m3⟩ cst_self hne hne4 (fun x hx => ?_)
    · obtain ⟨g3, g4, g5⟩ := m2 y hy
      exact ⟨g3, by rw [cst_ne (Ne.symm (hne y hy))]; exact g4, g5⟩
    · by_cases e : x = k
      · rw [e, sr_same]
      · rw [sr_ne (fun z => e (rot_inj n (by omega) s hs x (by omega) k (by omega) z))]
        exact hg x (by omega)
end CHB
