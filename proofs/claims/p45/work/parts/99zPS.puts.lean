/-! puts and types: signs of a row, onto the tape. -/
section PUT
variable {d : Nat} {M : Mem} {C : LMem} {r0 r2 t3 : Nat}
theorem s_puts {f f2 : Nat → Int} {i : Nat} (h0 : C r0 = (1, 200, f)) (h2 : C r2 = (1, 1, f2)) (hi : i + 1 + (txL (t3 + 1)).length ≤ 200) :
    LPo (d + 2) cW_puts [.inr (.inr (.inl (r0 + 1))), .inl (i : Int), .inr (.inr (.inl (r2 + 1))), .inr (.inr (.inr (t3 + 1)))] M C (fun v m c' => m = M ∧ LF [r0, r2] C c' ∧ (∃ g, c' r2 = (1, 1, g)) ∧ ∃ b : Nat, b ≤ 1 ∧ v = ((i + b + (txL (t3 + 1)).length : Nat) : Int) ∧ ∃ g, c' r0 = (1, 200, g) ∧ (∀ k, k < i → g k = f k) ∧ (b = 1 → g i = 32) ∧ ∀ k, k < (txL (t3 + 1)).length → g (i + b + k) = (txL (t3 + 1)).getD k 0) := fun Q hQ => by
  have n02 : r0 ≠ r2 := fun z => by
    rw [z, h2] at h0
    have h9 : (1 : Nat) = 200 := congrArg (fun x : LCel => x.2.1) h0
    omega
  refine e_W_puts (b_W_puts_0 ⟨by omega, ?_⟩)
  refine s_nextF h2 _ ?_
  rintro v1 M1 C1 ⟨rfl, hv1, ⟨f3, h23⟩, hf1⟩
  have h01 := hf1.at' (k := 0) (nin1 n02) h0
  refine ⟨by omega, ?_⟩
  have l18 : ∀ (u k b : Nat) (C2 : LMem) (g : Nat → Int) (o1 o2 : Option PV), k + u = (txL (t3 + 1)).length → b ≤ 1 → LF [r0, r2] C C2 → (∃ g, C2 r2 = (1, 1, g)) → C2 r0 = (1, 200, g) → (∀ x, x < i → g x = f x) → (b = 1 → g i = 32) → (∀ x, x < k → g (i + b + x) = (txL (t3 + 1)).getD x 0) → L_W_puts_18 (d + 1) Q M1 C2 (0 + 0) r0 o1 o2 t3 ((i + b + k : Nat) : Int) (k : Int) := by
    intro u
    induction u with
    | zero =>
      intro k b C2 g o1 o2 hk hb hf hr hg h1 h3 h4
      refine b_W_puts_18 ⟨⟨by omega, by omega⟩, ⟨by omega, by omega⟩, fun _ => ?_, fun z => absurd (by omega) z⟩
      rw [show k = (txL (t3 + 1)).length by omega]
      refine hQ _ _ _ ⟨rfl, hf, hr, b, hb, rfl, g, hg, h1, h3, fun x hx => h4 x (by omega)⟩
    | succ u ih =>
      intro k b C2 g o1 o2 hk hb hf hr hg h1 h3 h4
      refine b_W_puts_18 ⟨⟨by omega, by omega⟩, ⟨by omega, by omega⟩, fun z => absurd z (by omega), fun _ => ⟨⟨by omega, by omega⟩, ?_⟩⟩
      simp only [hg, cup_of hg, Int.toNat_natCast]
      obtain ⟨g2, hr⟩ := hr
      refine ⟨trivial, ⟨by omega, by omega⟩, ?_⟩
      have key := ih (k + 1) b (cst C2 r0 (1, 200, sr g (i + b + k) ((txL (t3 + 1)).getD k 0))) (sr g (i + b + k) ((txL (t3 + 1)).getD k 0)) o1 o2 (by omega) hb (hf.own (by simp) hg) ⟨g2, by rw [cst_ne (Ne.symm n02)]; exact hr⟩ cst_self (fun x hx => by rw [sr_ne (by omega)]; exact h1 x hx) (fun z => by rw [sr_ne (by omega)]; exact h3 z) (fun x hx => by
        by_cases e : x = k
        · subst e; exact sr_same
        · rw [sr_ne (by omega)]; exact h4 x (by omega))
      exact key
  have m2 : ∀ a, a ∈ [r2] → a ∈ [r0, r2] := fun a ha => List.mem_cons_of_mem _ ha
  rcases (show v1 % 2 = 0 ∨ v1 % 2 = 1 by omega) with hv | hv
  · rw [hv]
    refine b_W_puts_7 ⟨⟨by decide, by decide⟩, fun _ => ?_, fun z => absurd (Int.le_refl 0) z⟩
    exact l18 _ 0 0 C1 f _ _ (Nat.zero_add _) (by decide) (hf1.mono m2) ⟨f3, h23⟩ h01 (fun _ _ => rfl) (fun z => by cases z) (fun x hx => absurd hx (Nat.not_lt_zero x))
  · rw [hv]
    refine b_W_puts_7 ⟨⟨by decide, by decide⟩, fun z => absurd z (by decide), fun _ => ?_⟩
    simp only [h01, cup_of h01, Int.toNat_natCast]
    refine ⟨trivial, ⟨by omega, by omega⟩, ?_⟩
    refine b_W_puts_7 ⟨⟨by decide, by decide⟩, fun _ => ?_, fun z => absurd (by decide) z⟩
    exact l18 _ 0 1 (cst C1 r0 (1, 200, sr f i 32)) (sr f i 32) _ _ (Nat.zero_add _) (by decide) ((hf1.mono m2).own (by simp) h01) ⟨f3, by rw [cst_ne (Ne.symm n02)]; exact h23⟩ cst_self (fun x hx => sr_ne (by omega)) (fun _ => sr_same) (fun x hx => absurd hx (Nat.not_lt_zero x))
end PUT
/-- signs packed, the first one highest -/
def pkI (f : Nat → Int) (s : Nat) : Nat → Int
  | 0 => 0
  | m + 1 => pkI f s m * 256 + f (s + m)
theorem pk_r {f : Nat → Int} {s : Nat} : ∀ m, (∀ k, k < m → 0 ≤ f (s + k) ∧ f (s + k) < 256) → 0 ≤ pkI f s m ∧ pkI f s m < 256 ^ m
  | 0, _ => ⟨Int.le_refl 0, by show (0 : Int) < 256 ^ 0; decide⟩
  | m + 1, h => by
    have h1 := pk_r m (fun k hk => h k (by omega))
    have h2 := h m (by omega)
    show 0 ≤ pkI f s m * 256 + f (s + m) ∧ pkI f s m * 256 + f (s + m) < 256 ^ (m + 1)
    rw [Int.pow_succ]
    omega
theorem pkI_div {f : Nat → Int} {s : Nat} : ∀ k m, (∀ x, x < m → 0 ≤ f (s + x) ∧ f (s + x) < 256) → k ≤ m → pkI f s m / 2 ^ (8 * k) = pkI f s (m - k)
  | 0, m, _, _ => by
    show pkI f s m / 1 = _
    rw [Int.ediv_one]
    rfl
  | k + 1, m, h, hk => by
    have ih := pkI_div k m h (by omega)
    have e : (2 : Int) ^ (8 * (k + 1)) = 2 ^ (8 * k) * 256 := by
      rw [show 8 * (k + 1) = 8 * k + 8 by omega, Int.pow_add]
      rfl
    rw [e, ← Int.ediv_ediv_of_nonneg (Int.le_of_lt (Int.pow_pos (by decide))), ih]
    obtain ⟨u, hu⟩ : ∃ u, m - k = u + 1 := ⟨m - k - 1, by omega⟩
    rw [hu, show m - (k + 1) = u by omega]
    have h2 := h u (by omega)
    show (pkI f s u * 256 + f (s + u)) / 256 = pkI f s u
    omega
theorem byt_pk {f : Nat → Int} {s m k : Nat} {j : Int} (hj : j % 18446744073709551616 = pkI f s m) (h : ∀ x, x < m → 0 ≤ f (s + x) ∧ f (s + x) < 256) : byt j k = if k < m then f (s + (m - 1 - k)) else 0 := by
  unfold byt
  rw [hj]
  by_cases z : k < m
  · rw [pkI_div k m h (by omega), if_pos z]
    obtain ⟨u, hu⟩ : ∃ u, m - k = u + 1 := ⟨m - k - 1, by omega⟩
    rw [hu, show m - 1 - k = u by omega]
    have h2 := h u (by omega)
    show (pkI f s u * 256 + f (s + u)) % 256 = _
    omega
  · rw [if_neg z]
    have e : (2 : Int) ^ (8 * k) = 2 ^ (8 * m) * 2 ^ (8 * (k - m)) := by rw [← Int.pow_add, show 8 * m + 8 * (k - m) = 8 * k by omega]
    rw [e, ← Int.ediv_ediv_of_nonneg (Int.le_of_lt (Int.pow_pos (by decide))), pkI_div m m h (Nat.le_refl m), Nat.sub_self]
    show (0 : Int) / _ % 256 = 0
    rw [Int.zero_ediv]
    rfl
theorem pb_hi {j : Int} {m : Nat} (h : ∀ k, m ≤ k → byt j k = 0) : ∀ (e : Nat) (g : Nat → Int) (n : Nat), pb j (m + e) g n = pb j m g n
  | 0, _, _ => rfl
  | e + 1, g, n => by
    show (if byt j (m + e) = 0 then pb j (m + e) g n else _) = _
    rw [if_pos (h _ (by omega))]
    exact pb_hi h e g n
theorem cnt_hi {j : Int} {m : Nat} (h : ∀ k, m ≤ k → byt j k = 0) : ∀ e : Nat, cntB j (m + e) = cntB j m
  | 0 => rfl
  | e + 1 => by
    show cntB j (m + e) + (if byt j (m + e) = 0 then 0 else 1) = _
    rw [if_pos (h _ (by omega)), cnt_hi h e]
    rfl
theorem cnt_lo {j : Int} : ∀ m : Nat, (∀ k, k < m → byt j k ≠ 0) → cntB j m = m
  | 0, _ => rfl
  | m + 1, h => by
    show cntB j m + (if byt j m = 0 then 0 else 1) = _
    rw [if_neg (h m (by omega)), cnt_lo m (fun k hk => h k (by omega))]
theorem pb_lo {f : Nat → Int} {s m : Nat} {j : Int} (hb : ∀ k, k < m → byt j k = f (s + (m - 1 - k)) ∧ byt j k ≠ 0) : ∀ k, k ≤ m → ∀ (g : Nat → Int) (n : Nat), (∀ x, x < n → pb j k g n x = g x) ∧ ∀ x, x < k → pb j k g n (n + x) = f (s + (m - k + x))
  | 0, _, g, n => ⟨fun _ _ => rfl, fun x hx => absurd hx (Nat.not_lt_zero x)⟩
  | k + 1, hk, g, n => by
    obtain ⟨b1, b2⟩ := hb k (by omega)
    have e : pb j (k + 1) g n = pb j k (sr g n (byt j k)) (n + 1) := by
      show (if byt j k = 0 then _ else _) = _
      rw [if_neg b2]
    obtain ⟨i1, i2⟩ := pb_lo hb k (by omega) (sr g n (byt j k)) (n + 1)
    rw [e]
    refine ⟨fun x hx => by rw [i1 x (by omega), sr_ne (by omega)], fun x hx => ?_⟩
    rcases x with _ | x
    · rw [show n + 0 = n from Nat.add_zero n, i1 n (by omega), sr_same, b1]
      congr 1
      omega
    · rw [show n + (x + 1) = n + 1 + x by omega, i2 x (by omega)]
      congr 1
      omega
section TYP
variable {d : Nat} {M : Mem} {C : LMem} {j : StJ} {l : StL} {c : StC} {n : StN} {e : StE} {g : StG} {h : StH} {t : StT}
theorem d_type {x : Int} {f : Nat → Int} {s m : Nat} (q : IQ j l c n e g h t M) (hm : m ≤ 8) (h9 : t.1 + m ≤ 900) (hx : x % 18446744073709551616 = pkI f s m) (hc : ∀ k, k < m → 32 ≤ f (s + k) ∧ f (s + k) ≤ 126) : Post 12 cQ_type [oQ, .inr (.inl x)] M (fun v m9 => v = ((t.1 + m : Nat) : Int) ∧ ∃ U : Nat → Int, (∀ k, k < t.1 → U k = t.2 k) ∧ (∀ k, k < m → U (t.1 + k) = f (s + k)) ∧ IQ j l c n e g h (t.1 + m, U) m9) := fun Q hQ => by
  obtain ⟨hT, h91, h92⟩ := q.tp
  have hb := fun k => byt_pk (k := k) hx (fun y hy => ⟨by have := hc y hy; omega, by have := hc y hy; omega⟩)
  have hlo : ∀ k, k < m → byt x k = f (s + (m - 1 - k)) ∧ byt x k ≠ 0 := fun k hk => by
    have := hc (m - 1 - k) (by omega)
    rw [hb k, if_pos hk]
    exact ⟨rfl, by omega⟩
  have hhi : ∀ k, m ≤ k → byt x k = 0 := fun k hk => by rw [hb k, if_neg (by omega)]
  have hcnt : cntB x 8 = m := by
    rw [show 8 = m + (8 - m) by omega, cnt_hi hhi, cnt_lo m fun k hk => (hlo k hk).2]
  have hok : ∀ k, k < 8 → bytOk x k := fun k _ => by
    by_cases z : k < m
    · have := hc (m - 1 - k) (by omega)
      exact Or.inr (by rw [(hlo k z).1]; exact this)
    · exact Or.inl (hhi k (by omega))
  refine (s_Qtype (d := 10) hT.1 hT.2.1) Q ?_
  rintro r m9 ⟨f9, f6, ⟨z, -⟩ | ⟨-, z, -⟩ | ⟨-, z, rfl, h93, hm91⟩⟩
  · exact absurd hok z
  · rw [hcnt] at z; omega
  · rw [hcnt] at h93 ⊢
    obtain ⟨p1, p2⟩ := pb_lo hlo m (Nat.le_refl m) (M 91) t.1
    have hpb : pb x 8 (M 91) t.1 = pb x m (M 91) t.1 := by
      rw [show 8 = m + (8 - m) by omega]
      exact pb_hi hhi _ _ _
    refine hQ _ _ ⟨rfl, m9 91, fun k hk => ?_, fun k hk => ?_, q.tape f9 (by decide) ⟨⟨h93, h9, by rw [hm91]; exact pb_R32 8 _ _ hT.2.2⟩, rfl, by rw [f9 92 (by decide)]; exact h92⟩⟩
    · rw [hm91, hpb, p1 k hk, h91]
    · rw [hm91, hpb, p2 k hk]
      congr 1
      omega
theorem zor_pk {x v : Int} {f : Nat → Int} {s m : Nat} (hx : x % 18446744073709551616 = pkI f s m) (hm : m < 8) (hc : ∀ k, k < m + 1 → 0 ≤ f (s + k) ∧ f (s + k) < 256) (hv : v = f (s + m)) : zorL (x * 2 ^ 8) v % 18446744073709551616 = pkI f s (m + 1) := by
  have h1 := pk_r m (fun k hk => hc k (by omega))
  have h2 := hc m (by omega)
  have h3 : (256 : Int) ^ m ≤ 256 ^ 7 := pw_mono (by decide) (by omega)
  have h4 : (256 : Int) ^ 7 = 72057594037927936 := by decide
  have h5 : (2 : Int) ^ 8 = 256 := by decide
  have e1 : (x * 2 ^ 8 % 18446744073709551616).toNat = 2 ^ 8 * (pkI f s m).toNat := by
    rw [h5, show (2 : Nat) ^ 8 = 256 by decide]
    omega
  have e2 : (v % 18446744073709551616).toNat = (f (s + m)).toNat := by rw [hv]; omega
  unfold zorL
  rw [e1, e2, ← Nat.two_pow_add_eq_or_of_lt (by rw [show (2 : Nat) ^ 8 = 256 by decide]; omega)]
  show _ = pkI f s m * 256 + f (s + m)
  rw [show (2 : Nat) ^ 8 = 256 by decide]
  omega
theorem s_types {r1 len : Nat} {f : Nat → Int} (q : IQ j l c n e g h t M) (hr : C r1 = (1, 200, f)) (hl : len ≤ 200) (hc : ∀ k, k < len → 32 ≤ f k ∧ f k ≤ 126) : LPo (d + 1) cW_types [oH, .inr (.inr (.inl (r1 + 1))), .inl (len : Int)] M C (fun v m9 c' => c' = C ∧ v = 1 ∧ ∃ U : Nat → Int, (∀ k, k < len → U k = f k) ∧ IQ j l c n e g h (len, U) m9) := fun Q hQ => by
  refine e_W_types (b_W_types_0 ⟨by omega, ?_⟩)
  refine d_wipe q _ ?_
  rintro v0 M0 hq0
  have l7 : ∀ (u p s : Nat) (M1 : Mem) (U : Nat → Int) (kc : Nat) (o5 o6 o7 : Option PV), (p = 8 * s ∨ (p = len ∧ len ≤ 8 * s)) → p ≤ len → s + u = 26 → kc + u ≤ 200 → IQ j l c n e g h (p, U) M1 → (∀ k, k < p → U k = f k) → L_W_types_7 d Q M1 C kc r1 (len : Int) (p : Int) ((8 * s : Nat) : Int) o5 o6 o7 := by
    intro u
    induction u with
    | zero =>
      intro p s M1 U kc o5 o6 o7 h1 h2 h3 hk hq hU
      have hp : p = len := by omega
      refine b_W_types_7 ⟨⟨by omega, by omega⟩, ⟨by omega, by omega⟩, fun _ => ⟨⟨by omega, by omega⟩, fun z => absurd (by omega) z, fun _ => ?_⟩, fun z => absurd (by omega) z⟩
      subst hp
      exact hQ _ _ _ ⟨rfl, rfl, U, hU, hq⟩
    | succ u ih =>
      intro p s M1 U kc o5 o6 o7 h1 h2 h3 hk hq hU
      refine b_W_types_7 ⟨⟨by omega, by omega⟩, ⟨by omega, by omega⟩, fun z => ?_, fun z => ?_⟩
      · have hp : p = len := by omega
        refine ⟨⟨by omega, by omega⟩, fun w => absurd (by omega) w, fun _ => ?_⟩
        subst hp
        exact hQ _ _ _ ⟨rfl, rfl, U, hU, hq⟩
      · have hp : p = 8 * s := by omega
        have hc' : ∀ m, 8 * s + m ≤ len → ∀ k, k < m → 0 ≤ f (8 * s + k) ∧ f (8 * s + k) < 256 := fun m hm k hk => by have := hc (8 * s + k) (by omega); omega
        -- the call
        have fin : ∀ (m : Nat) (x : Int) (o : Option PV), m ≤ 8 → 8 * s + m ≤ len → (m = 8 ∨ 8 * s + m = len) → x % 18446744073709551616 = pkI f (8 * s) m → cald 12 cQ_type [oQ, .inr (.inl x)] M1 (fun r M1 => Rl r (fun v1 => L_W_types_7 d Q M1 C (kc + 1) r1 (len : Int) v1 (((8 * s : Nat) : Int) + 8) (some (.inr (.inl x))) none o)) := by
          intro m x o hm8 hml hend hx
          refine d_type (f := f) (s := 8 * s) (m := m) hq hm8 (by show p + m ≤ 900; omega) hx (fun k hk => hc _ (by omega)) _ ?_
          rintro v M2 ⟨rfl, U2, u1, u2, hq2⟩
          show L_W_types_7 d Q M2 C (kc + 1) r1 (len : Int) ((p + m : Nat) : Int) (((8 * s : Nat) : Int) + 8) (some (.inr (.inl x))) none o
          rw [show ((8 * s : Nat) : Int) + 8 = ((8 * (s + 1) : Nat) : Int) by omega]
          refine ih (p + m) (s + 1) M2 U2 (kc + 1) _ _ _ (by omega) (by omega) (by omega) (by omega) hq2 fun k hk => ?_
          by_cases w : k < p
          · rw [u1 k w]; exact hU k w
          · have := u2 (k - p) (by omega)
            rw [show p + (k - p) = k by omega, show 8 * s + (k - p) = k by omega] at this
            exact this
        have l14 : ∀ (w m : Nat) (x : Int) (o3 : Option PV), m + w = 8 → 8 * s + m ≤ len → x % 18446744073709551616 = pkI f (8 * s) m → L_W_types_14 d Q M1 C kc r1 (len : Int) o3 ((8 * s : Nat) : Int) x ((8 * s + m : Nat) : Int) := by
          intro w
          induction w with
          | zero =>
            intro m x o3 hm hml hx
            refine b_W_types_14 ⟨⟨by omega, by omega⟩, ⟨by omega, by omega⟩, fun _ => ⟨by omega, ?_⟩, fun z => absurd (by omega) z⟩
            exact fin m x _ (by omega) hml (Or.inl (by omega)) hx
          | succ w ihw =>
            intro m x o3 hm hml hx
            refine b_W_types_14 ⟨⟨by omega, by omega⟩, ⟨by omega, by omega⟩, fun z => absurd z (by omega), fun _ => ⟨⟨by omega, by omega⟩, fun z => ⟨by omega, ?_⟩, fun z => ?_⟩⟩
            · exact fin m x _ (by omega) hml (Or.inr (by omega)) hx
            · simp only [hr, Int.toNat_natCast]
              have hch := hc (8 * s + m) (by omega)
              refine ⟨trivial, ⟨by omega, by omega⟩, ⟨by omega, by omega⟩, ?_⟩
              exact ihw (m + 1) _ _ (by omega) (by omega) (zor_pk hx (by omega) (hc' (m + 1) (by omega)) rfl)
        exact l14 8 0 0 _ (by omega) (by omega) rfl
  exact l7 26 0 0 M0 t.2 (0 + 0) none none none (Or.inl rfl) (Nat.zero_le _) (by omega) (by omega) hq0 (fun k hk => absurd hk (Nat.not_lt_zero k))
end TYP
