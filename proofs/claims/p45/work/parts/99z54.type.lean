/-! type, wipe, signAt. -/
def byt (j : Int) (k : Nat) : Int := (j % 18446744073709551616) / 2 ^ (8 * k) % 256
theorem byt_r (j : Int) (k : Nat) : 0 ≤ byt j k ∧ byt j k < 256 := by unfold byt; omega
theorem and255 (n : Nat) : n &&& 255 = n % 256 := Nat.and_two_pow_sub_one_eq_mod n 8
theorem zand255 {x : Int} : zand x 255 = x % 256 := by
  unfold zand
  rw [show ((255 : Int) % 4294967296).toNat = 255 by decide, and255]
  omega
theorem zandL255 {x : Int} : zandL x 255 = x % 256 := by
  unfold zandL
  rw [show ((255 : Int) % 18446744073709551616).toNat = 255 by decide, and255]
  omega
theorem bytQ {j : Int} {k : Nat} : zand (zushL j ((8 * k : Nat) : Int)) 255 = byt j k := by
  rw [zand255]
  unfold zushL byt
  rw [Int.toNat_natCast]
theorem bytM {j : Int} {k : Nat} : zandL (zushL j (8 * (k : Int))) 255 = byt j k := by
  rw [zandL255, show 8 * (k : Int) = ((8 * k : Nat) : Int) by omega]
  unfold zushL byt
  rw [Int.toNat_natCast]
/-- how many of the lowest bytes aren't 0 -/
def cntB (j : Int) : Nat → Nat
  | 0 => 0
  | k + 1 => cntB j k + if byt j k = 0 then 0 else 1
def bytOk (j : Int) (k : Nat) : Prop := byt j k = 0 ∨ (32 ≤ byt j k ∧ byt j k ≤ 126)
theorem cntB_le (j : Int) : ∀ k, cntB j k ≤ k
  | 0 => Nat.le_refl 0
  | k + 1 => by
    have := cntB_le j k
    show cntB j k + (if byt j k = 0 then 0 else 1) ≤ k + 1
    by_cases e : byt j k = 0
    · rw [if_pos e]; omega
    · rw [if_neg e]; omega
/-- the bytes put, the highest first -/
def pb (j : Int) : Nat → (Nat → Int) → Nat → (Nat → Int)
  | 0, f, _ => f
  | k + 1, f, n => if byt j k = 0 then pb j k f n else pb j k (sr f n (byt j k)) (n + 1)
theorem pb_agree {j : Int} : ∀ (k : Nat) (f g : Nat → Int) (n : Nat), (∀ i, i < n → f i = g i) → ∀ i, i < n + cntB j k → pb j k f n i = pb j k g n i
  | 0, _, _, _, h, i, hi => h i hi
  | k + 1, f, g, n, h, i, hi => by
    unfold cntB at hi
    unfold pb
    by_cases e : byt j k = 0
    · rw [if_pos e] at hi
      rw [if_pos e, if_pos e]
      exact pb_agree k f g n h i hi
    · rw [if_neg e] at hi
      rw [if_neg e, if_neg e]
      refine pb_agree k _ _ (n + 1) (fun m hm => ?_) i (by omega)
      by_cases q : m = n
      · subst q; rw [sr_same, sr_same]
      · rw [sr_ne q, sr_ne q]; exact h m (by omega)
theorem pb_sign {j : Int} : ∀ (k : Nat) (f : Nat → Int) (n : Nat), (∀ i, i < k → bytOk j i) → (∀ i, i < n → 32 ≤ f i ∧ f i ≤ 126) → ∀ i, i < n + cntB j k → 32 ≤ pb j k f n i ∧ pb j k f n i ≤ 126
  | 0, _, _, _, h, i, hi => h i hi
  | k + 1, f, n, hb, h, i, hi => by
    unfold cntB at hi
    unfold pb
    by_cases e : byt j k = 0
    · rw [if_pos e] at hi
      rw [if_pos e]
      exact pb_sign k f n (fun i hi => hb i (by omega)) h i hi
    · rw [if_neg e] at hi
      rw [if_neg e]
      refine pb_sign k _ (n + 1) (fun i hi => hb i (by omega)) (fun m hm => ?_) i (by omega)
      by_cases q : m = n
      · subst q
        rw [sr_same]
        rcases hb k (by omega) with z | z
        · exact absurd z e
        · exact z
      · rw [sr_ne q]; exact h m (by omega)
theorem tyQ2 {d : Nat} {Q : Rs → Mem → Prop} {j : Int} : ∀ (k n : Nat) (M : Mem) (o3 o5 : Option PV), k ≤ 8 → M 93 1 = n → n + cntB j k ≤ 900 →
    (∀ M', Fr [91, 93] M M' → M' 93 1 = ((n + cntB j k : Nat) : Int) → M' 91 = pb j k (M 91) n → (∀ s, s ≠ 1 → M' 93 s = M 93 s) → Q (.inl ((n + cntB j k : Nat) : Int)) M') → L_Q_type_42 (d + 1) Q M j o3 (8 * (k : Int) - 8) o5
  | 0, n, M, o3, o5, hk, hn, h9, hQ => by
    refine b_Q_type_42 ⟨⟨by omega, by omega⟩, fun _ => ?_, fun h => absurd (by omega) h⟩
    rw [hn]
    exact hQ M Fr.rfl' hn rfl fun _ _ => rfl
  | k + 1, n, M, o3, o5, hk, hn, h9, hQ => by
    rw [show 8 * ((k + 1 : Nat) : Int) - 8 = ((8 * k : Nat) : Int) by omega]
    unfold cntB pb at hQ
    unfold cntB at h9
    have hr := byt_r j k
    refine b_Q_type_42 ⟨⟨by omega, by omega⟩, fun h => absurd h (by omega), fun _ => ⟨⟨by omega, by omega⟩, ?_⟩⟩
    rw [bytQ, show ((8 * k : Nat) : Int) + -8 = 8 * (k : Int) - 8 by omega]
    refine ⟨⟨by omega, by omega⟩, fun h => ?_, fun h => ?_⟩
    · rw [if_pos h] at h9
      rw [if_pos h] at hQ
      simp only [if_pos h] at hQ
      exact tyQ2 k n M _ _ (by omega) hn h9 hQ
    · rw [if_neg h] at h9
      rw [if_neg h] at hQ
      simp only [if_neg h] at hQ
      refine (s_put (d := d) hn (by omega)).cal fun v2 M2 hM2 => ?_
      subst hM2
      refine tyQ2 k (n + 1) _ _ _ (by omega) (by rw [u2_same]; omega) (by omega) fun M' f1 f2 f3 f4 => ?_
      rw [show n + 1 + cntB j k = n + (cntB j k + 1) by omega] at f2 ⊢
      refine hQ M' (((Fr.rfl'.u2 (by simp)).u2 (by simp)).tr f1) f2 ?_ fun s hs => ?_
      · rw [f3, u2_off (by decide), u2_row]
      · rw [f4 s hs, u2_ne hs, u2_off (by decide)]
theorem tyQ1 {d : Nat} {Q : Rs → Mem → Prop} {j : Int} {n : Nat} {M : Mem} (hn : M 93 1 = n) (hn9 : n ≤ 900)
    (hbad : (¬ ∀ k, k < 8 → bytOk j k) → Q (.inr 2) M) (hlong : (∀ k, k < 8 → bytOk j k) → 900 < n + cntB j 8 → Q (.inr 3) M) (hgo : (∀ k, k < 8 → bytOk j k) → n + cntB j 8 ≤ 900 → ∀ o3 o5, L_Q_type_42 d Q M j o3 56 o5) :
    ∀ (k : Nat) (o5 : Option PV), k ≤ 8 → (∀ i, k ≤ i → i < 8 → bytOk j i) → L_Q_type_4 d Q M j ((cntB j 8 : Nat) - (cntB j k : Nat) : Int) (8 * (k : Int) - 8) o5
  | 0, o5, hk, hok => by
    have h8 := cntB_le j 8
    refine b_Q_type_4 ⟨⟨by omega, by omega⟩, fun _ => ?_, fun h => absurd (by omega) h⟩
    rw [hn]
    have : (cntB j 0 : Nat) = 0 := rfl
    have ok : ∀ k, k < 8 → bytOk j k := fun k hk => hok k (by omega) hk
    exact ⟨⟨by omega, by omega⟩, fun h => hgo ok (by omega) _ _, fun h => hlong ok (by omega)⟩
  | k + 1, o5, hk, hok => by
    rw [show 8 * ((k + 1 : Nat) : Int) - 8 = ((8 * k : Nat) : Int) by omega]
    have hr := byt_r j k
    have ec : cntB j (k + 1) = cntB j k + if byt j k = 0 then 0 else 1 := rfl
    have ih := fun (h : bytOk j k) (o5 : Option PV) => tyQ1 (d := d) hn hn9 hbad hlong hgo k o5 (by omega) (fun i h1 h2 => by
      by_cases e : i = k
      · subst e; exact h
      · exact hok i (by omega) h2)
    refine b_Q_type_4 ⟨⟨by omega, by omega⟩, fun h => absurd h (by omega), fun _ => ⟨⟨by omega, by omega⟩, ?_⟩⟩
    rw [bytQ, show ((8 * k : Nat) : Int) + -8 = 8 * (k : Int) - 8 by omega]
    refine ⟨⟨by omega, by omega⟩, fun h => ⟨fun _ => ?_, fun h2 => absurd h h2⟩, fun h => ⟨fun h2 => hbad fun q => ?_, fun h2 => ⟨fun h3 => ⟨fun h4 => absurd h4 h, fun _ => ?_⟩, fun h3 => hbad fun q => ?_⟩⟩⟩
    · rw [ec, if_pos h]
      have := ih (Or.inl h) (some (.inl (byt j k)))
      rw [Nat.add_zero, Int.add_zero]
      exact this
    · rcases q k (by omega) with z | z
      · exact h z
      · omega
    · rw [ec, if_neg h]
      have := ih (Or.inr ⟨by omega, h3⟩) (some (.inl (byt j k)))
      rw [show ((cntB j 8 : Nat) : Int) - ((cntB j k + 1 : Nat) : Int) + 1 = (cntB j 8 : Nat) - (cntB j k : Nat) by omega]
      exact this
    · rcases q k (by omega) with z | z
      · exact h z
      · omega
theorem s_Qtype {d : Nat} {M : Mem} {j : Int} {n : Nat} (hn : M 93 1 = n) (hn9 : n ≤ 900) :
    PostE (d + 2) cQ_type [oQ, .inr (.inl j)] M (fun r M' => Fr [91, 93] M M' ∧ (∀ s, s ≠ 1 → M' 93 s = M 93 s) ∧ ((¬ (∀ k, k < 8 → bytOk j k) ∧ r = .inr 2 ∧ M' = M) ∨ ((∀ k, k < 8 → bytOk j k) ∧ 900 < n + cntB j 8 ∧ r = .inr 3 ∧ M' = M) ∨
      ((∀ k, k < 8 → bytOk j k) ∧ n + cntB j 8 ≤ 900 ∧ r = .inl ((n + cntB j 8 : Nat) : Int) ∧ M' 93 1 = ((n + cntB j 8 : Nat) : Int) ∧ M' 91 = pb j 8 (M 91) n))) := by
  intro Q hQ
  refine e_Q_type (b_Q_type_0 ?_)
  have := tyQ1 (d := d + 1) (Q := Q) (j := j) (M := M) hn hn9 (fun h => hQ _ _ ⟨Fr.rfl', fun _ _ => rfl, Or.inl ⟨h, rfl, rfl⟩⟩) (fun h h2 => hQ _ _ ⟨Fr.rfl', fun _ _ => rfl, Or.inr (Or.inl ⟨h, h2, rfl, rfl⟩)⟩) (fun h h2 o3 o5 => ?_) 8 none (Nat.le_refl 8) (fun i h1 h2 => absurd h2 (by omega))
  · rw [show ((cntB j 8 : Nat) - (cntB j 8 : Nat) : Int) = 0 by omega] at this
    exact this
  · exact tyQ2 (d := d) 8 n M o3 o5 (Nat.le_refl 8) hn h2 fun M' f1 f2 f3 f4 => hQ _ _ ⟨f1, f4, Or.inr (Or.inr ⟨h, h2, rfl, f2, f3⟩)⟩
theorem s_Qwipe {d : Nat} {M : Mem} : Post (d + 1) cQ_wipe [oQ] M (fun x M' => M' = upd2 M 93 1 0 ∧ x = M 93 1) := fun Q hQ => e_Q_wipe (b_Q_wipe_0 (hQ _ _ ⟨rfl, rfl⟩))
theorem s_QsignAt {d : Nat} {M : Mem} {i : Int} {n : Nat} (hn : M 93 1 = n) (hn9 : n ≤ 900) (hi : R32 i) : PostE (d + 1) cQ_signAt [oQ, .inl i] M (fun r M' => M' = M ∧ r = if 0 ≤ i ∧ i < n then .inl (M 91 i.toNat) else .inr 4) := by
  intro Q hQ
  refine e_Q_signAt (b_Q_signAt_0 ⟨hi, fun h => hQ _ _ ⟨rfl, by rw [if_neg (by omega)]⟩, fun h => ?_⟩)
  rw [hn]
  exact ⟨⟨by omega, by omega⟩, fun h2 => ⟨⟨by omega, by omega⟩, hQ _ _ ⟨rfl, by rw [if_pos ⟨by omega, by omega⟩]⟩⟩, fun h2 => hQ _ _ ⟨rfl, by rw [if_neg (by omega)]⟩⟩