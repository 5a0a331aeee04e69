/-! Least rest first has the least sum. -/
theorem sumN_one {f g : Nat → Int} {m : Nat} : ∀ n, m < n → (∀ k, k < n → k ≠ m → f k = g k) → sumN f n = sumN g n + (f m - g m)
  | n + 1, hm, h => by
    show sumN f n + f n = sumN g n + g n + (f m - g m)
    by_cases e : m = n
    · subst e
      rw [sumN_congr m fun k hk => h k (by omega) (by omega)]
      omega
    · rw [sumN_one n (by omega) fun k hk hk2 => h k (by omega) hk2, h n (by omega) (fun z => e z.symm)]
      omega
theorem sumN_nn {f : Nat → Int} : ∀ n, (∀ k, k < n → 0 ≤ f k) → 0 ≤ sumN f n
  | 0, _ => Int.le_refl 0
  | n + 1, h => by
    have := sumN_nn n fun k hk => h k (by omega)
    have := h n (by omega)
    show 0 ≤ sumN f n + f n
    omega
theorem sumN_z {f : Nat → Int} : ∀ n, (∀ k, k < n → 0 ≤ f k) → sumN f n ≤ 0 → ∀ k, k < n → f k = 0
  | n + 1, h, h0, k, hk => by
    have h1 := sumN_nn n fun k hk => h k (by omega)
    have h2 := h n (by omega)
    have h0 : sumN f n + f n ≤ 0 := h0
    by_cases e : k = n
    · subst e; omega
    · exact sumN_z n (fun k hk => h k (by omega)) (by omega) k (by omega)
def szS (S : Nat → Bool) (n : Nat) : Int := sumN (fun k => if S k = true then 1 else 0) n
def otS (S : Nat → Bool) (r : Nat → Int) (n : Nat) : Int := sumN (fun k => if S k = true then 0 else r k) n
def upS (S : Nat → Bool) (m : Nat) (b : Bool) : Nat → Bool := fun k => if k = m then b else S k
def Dm (n : Nat) (r r' : Nat → Int) : Prop := ∀ S, ∃ S', szS S' n ≤ szS S n ∧ otS S' r n ≤ otS S r' n
theorem szS_up {S : Nat → Bool} {m n : Nat} {b : Bool} (hm : m < n) : szS (upS S m b) n = szS S n + ((if b = true then 1 else 0) - if S m = true then 1 else 0) := by
  have := sumN_one (f := fun k => if upS S m b k = true then (1 : Int) else 0) (g := fun k => if S k = true then (1 : Int) else 0) (m := m) n hm (fun k _ hk => by
    show (if (if k = m then b else S k) = true then (1 : Int) else 0) = _
    rw [if_neg hk])
  unfold szS
  rw [this]
  have e : upS S m b m = b := if_pos rfl
  simp only [e]
theorem otS_up {S : Nat → Bool} {r : Nat → Int} {m n : Nat} {b : Bool} (hm : m < n) : otS (upS S m b) r n = otS S r n + ((if b = true then 0 else r m) - if S m = true then 0 else r m) := by
  have := sumN_one (f := fun k => if upS S m b k = true then (0 : Int) else r k) (g := fun k => if S k = true then (0 : Int) else r k) (m := m) n hm (fun k _ hk => by
    show (if (if k = m then b else S k) = true then (0 : Int) else r k) = _
    rw [if_neg hk])
  unfold otS
  rw [this]
  have e : upS S m b m = b := if_pos rfl
  simp only [e]
theorem otS_sr {S : Nat → Bool} {r : Nat → Int} {m n : Nat} {v : Int} (hm : m < n) : otS S (sr r m v) n = otS S r n + if S m = true then 0 else v - r m := by
  have := sumN_one (f := fun k => if S k = true then (0 : Int) else sr r m v k) (g := fun k => if S k = true then (0 : Int) else r k) (m := m) n hm (fun k _ hk => by
    rw [sr_ne hk])
  unfold otS
  rw [this]
  simp only [sr_same]
  by_cases q : S m = true
  · rw [if_pos q, if_pos q, if_pos q]; omega
  · rw [if_neg q, if_neg q, if_neg q]
theorem otS_nn {S : Nat → Bool} {r : Nat → Int} {n : Nat} (h : ∀ k, k < n → 0 ≤ r k) : 0 ≤ otS S r n := sumN_nn n fun k hk => by
  split
  · exact Int.le_refl 0
  · exact h k hk
theorem Dm_arr {n k : Nat} {r r' : Nat → Int} {p : Int} (h : Dm n r r') (hk : k < n) (h0 : r k = 0) (h1 : r' k = 0) (hp : 0 ≤ p) : Dm n (sr r k p) (sr r' k p) := fun S => by
  by_cases q : S k = true
  · obtain ⟨S', a, b⟩ := h (upS S k false)
    rw [szS_up hk, if_neg (by decide), if_pos q] at a
    rw [otS_up hk, if_neg (by decide), if_pos q, h1] at b
    refine ⟨upS S' k true, ?_, ?_⟩
    · rw [szS_up hk, if_pos rfl]
      split <;> omega
    · have e : upS S' k true k = true := if_pos rfl
      rw [otS_sr hk, otS_sr hk, if_pos e, if_pos q, otS_up hk, if_pos rfl, h0]
      split <;> omega
  · obtain ⟨S', a, b⟩ := h S
    refine ⟨S', a, ?_⟩
    rw [otS_sr hk, otS_sr hk, if_neg q, h0, h1]
    split <;> omega
theorem Dm_idle {n : Nat} {r r' : Nat → Int} (h0 : ∀ k, k < n → r k = 0) (h1 : ∀ k, k < n → 0 ≤ r' k) : Dm n r r' := fun S => ⟨fun _ => false, by
    have : szS (fun _ => false) n = 0 := by
      unfold szS
      have : ∀ m, sumN (fun _ => if false = true then (1 : Int) else 0) m = 0 := by
        intro m
        induction m with
        | zero => rfl
        | succ m ih => show _ + (if false = true then (1 : Int) else 0) = 0; rw [ih]; rfl
      exact this n
    rw [this]
    exact sumN_nn n fun k _ => by split <;> decide, by
    have e : otS (fun _ => false) r n = 0 := by
      unfold otS
      have key : ∀ m, m ≤ n → sumN (fun k => if false = true then (0 : Int) else r k) m = 0 := by
        intro m
        induction m with
        | zero => intro _; rfl
        | succ m ih =>
          intro hm
          show _ + (if false = true then (0 : Int) else r m) = 0
          rw [ih (by omega), if_neg (by decide), h0 m (by omega)]
          rfl
      exact key n (Nat.le_refl n)
    rw [e]
    exact otS_nn h1⟩
theorem Dm_srv {n a b : Nat} {r r' : Nat → Int} (h : Dm n r r') (hr : ∀ k, k < n → 0 ≤ r k) (hr' : ∀ k, k < n → 0 ≤ r' k) (ha : a < n) (hb : b < n) (ha0 : 0 < r a) (hb0 : 0 < r' b) (hmin : ∀ c, c < n → 0 < r c → r a ≤ r c) : Dm n (sr r a (r a - 1)) (sr r' b (r' b - 1)) := fun S => by
  obtain ⟨S', p, q⟩ := h S
  rw [otS_sr hb]
  by_cases w : S b = true
  · rw [if_pos w]
    refine ⟨S', p, ?_⟩
    rw [otS_sr ha]
    split <;> omega
  · rw [if_neg w]
    by_cases w2 : S' a = true
    · by_cases w3 : otS S' r n ≤ otS S r' n - 1
      · refine ⟨S', p, ?_⟩
        rw [otS_sr ha, if_pos w2]
        omega
      · have hpos : 1 ≤ otS S r' n := by
          have h1 : otS (upS S b true) r' n = otS S r' n + (0 - r' b) := by rw [otS_up hb, if_pos rfl, if_neg w]
          have h2 := otS_nn (S := upS S b true) hr'
          omega
        obtain ⟨c, hc, hc0, hcS⟩ : ∃ c, c < n ∧ 0 < r c ∧ ¬ S' c = true := by
          by_cases z : ∃ c, c < n ∧ 0 < r c ∧ ¬ S' c = true
          · exact z
          · exfalso
            have : otS S' r n ≤ 0 := by
              have key : ∀ m, m ≤ n → sumN (fun k => if S' k = true then (0 : Int) else r k) m ≤ 0 := by
                intro m
                induction m with
                | zero => intro _; exact Int.le_refl 0
                | succ m ih =>
                  intro hm
                  have h1 := ih (by omega)
                  show sumN (fun k => if S' k = true then (0 : Int) else r k) m + (if S' m = true then (0 : Int) else r m) ≤ 0
                  by_cases e : S' m = true
                  · rw [if_pos e]; omega
                  · rw [if_neg e]
                    have : ¬ 0 < r m := fun y => z ⟨m, by omega, y, e⟩
                    omega
              exact key n (Nat.le_refl n)
            omega
        have hac : a ≠ c := fun e => hcS (by rw [← e]; exact w2)
        refine ⟨upS (upS S' a false) c true, ?_, ?_⟩
        · have e1 : upS S' a false c = S' c := if_neg (Ne.symm hac)
          rw [szS_up hc, szS_up ha, e1, if_pos rfl, if_neg hcS, if_neg (by decide), if_pos w2]
          omega
        · have e1 : upS S' a false c = S' c := if_neg (Ne.symm hac)
          have e2 : upS (upS S' a false) c true a = false := by
            show (if a = c then true else if a = a then false else S' a) = false
            rw [if_neg hac, if_pos rfl]
          rw [otS_sr ha, e2, if_neg (by decide), otS_up hc, e1, if_pos rfl, if_neg hcS, otS_up ha, if_neg (by decide), if_pos w2]
          have := hmin c hc hc0
          omega
    · refine ⟨S', p, ?_⟩
      rw [otS_sr ha, if_neg w2]
      omega
def numR (r : Nat → Int) (n : Nat) : Int := sumN (fun k => if 0 < r k then 1 else 0) n
theorem Dm_num {n : Nat} {r r' : Nat → Int} (h : Dm n r r') (hr : ∀ k, k < n → 0 ≤ r k) (hr' : ∀ k, k < n → 0 ≤ r' k) : numR r n ≤ numR r' n := by
  obtain ⟨S', p, q⟩ := h (fun k => decide (0 < r' k))
  have e1 : otS (fun k => decide (0 < r' k)) r' n = 0 := by
    have key : ∀ m, m ≤ n → sumN (fun k => if decide (0 < r' k) = true then (0 : Int) else r' k) m = 0 := by
      intro m
      induction m with
      | zero => intro _; rfl
      | succ m ih =>
        intro hm
        show _ + (if decide (0 < r' m) = true then (0 : Int) else r' m) = 0
        rw [ih (by omega)]
        by_cases e : 0 < r' m
        · rw [if_pos (decide_eq_true e)]; rfl
        · rw [if_neg (by rw [decide_eq_false e]; decide)]
          have := hr' m (by omega)
          omega
    exact key n (Nat.le_refl n)
  have e2 : szS (fun k => decide (0 < r' k)) n = numR r' n := sumN_congr n fun k _ => by
    by_cases e : 0 < r' k
    · rw [if_pos (decide_eq_true e), if_pos e]
    · rw [if_neg (fun z => e (of_decide_eq_true z)), if_neg e]
  rw [e1] at q
  rw [e2] at p
  have hz := sumN_z n (f := fun k => if S' k = true then (0 : Int) else r k) (fun k hk => by
    split
    · exact Int.le_refl 0
    · exact hr k hk) q
  refine Int.le_trans (sumN_le n fun k hk => ?_) p
  show (if 0 < r k then (1 : Int) else 0) ≤ if S' k = true then 1 else 0
  have h1 := hz k hk
  by_cases e : S' k = true
  · rw [if_pos e]; split <;> omega
  · rw [if_neg e] at h1 ⊢
    rw [if_neg (by omega)]
    exact Int.le_refl 0
/-! the plays -/
def rxS (x : SG) (k : Nat) : Int := if k < x.2.2.1 ∧ x.2.2.2 0 k = 3 then x.2.2.2 1 k else 0
section SRPT
variable {n : Nat} {J : Nat → Int} {many t by_ : Int} {x : SG}
theorem rx_on {k : Nat} (h : k < x.2.2.1) (h3 : x.2.2.2 0 k = 3) : rxS x k = x.2.2.2 1 k := if_pos ⟨h, h3⟩
theorem rx_nn (hp : PVi n many t x) (k : Nat) : 0 ≤ rxS x k ∧ (0 < rxS x k ↔ k ∈ x.1 ++ x.2.1) := by
  unfold rxS
  by_cases q : k < x.2.2.1 ∧ x.2.2.2 0 k = 3
  · rw [if_pos q]
    have hm := (hp.2.2.2.2.1 k q.1).1.mp q.2
    have := hp.2.2.2.2.2.1 k hm
    exact ⟨by omega, fun _ => hm, fun _ => by omega⟩
  · rw [if_neg q]
    refine ⟨Int.le_refl 0, fun z => absurd z (by decide), fun z => ?_⟩
    exact absurd ⟨hp.2.2.1 k z, (hp.2.2.2.2.1 k (hp.2.2.1 k z)).1.mpr z⟩ q
theorem rx_num (hp : PVi n many t x) : sNum x = numR (rxS x) n := by
  have : numR (rxS x) n = sumN (fun k => if k ∈ x.1 ++ x.2.1 then 1 else 0) n := sumN_congr n fun k _ => by
    by_cases q : k ∈ x.1 ++ x.2.1
    · rw [if_pos q, if_pos ((rx_nn hp k).2.mpr q)]
    · rw [if_neg q, if_neg (fun z => q ((rx_nn hp k).2.mp z))]
  rw [this, sumN_ind _ n hp.2.1 (fun j hj => by have := hp.2.2.1 j hj; have := hp.1; omega), List.length_append]
  unfold sNum
  omega
theorem go_none (hV : VJ n J) (hI : AtI n J 1 t x) : sGo J 999 t x = x := by
  have hr := (remS_r hV hI.1).1
  have hn : ∀ j, j ∈ x.1 → gonD J 999 t x.2.2.2 j = false := fun j hj => by
    unfold gonD
    refine decide_eq_false fun z => ?_
    have hx := hI.1.2.2.1 j (List.mem_append_left _ hj)
    have := hI.2.2.2 j hx ((hI.1.2.2.2.2.1 j hx).1.mpr (List.mem_append_left _ hj)) z.1
    omega
  unfold sGo
  have h1 : x.1.filter (fun j => !gonD J 999 t x.2.2.2 j) = x.1 := List.filter_eq_self.mpr fun j hj => by rw [hn j hj]; rfl
  have h2 : goF J 999 t x.1 x.2.2.2 = x.2.2.2 := by
    funext c k
    unfold goF
    rw [if_neg (fun z => by rw [hn k z.1] at z; exact absurd z.2 (by decide))]
  rw [h1, h2]
/-- all who come are let in -/
theorem in_all (hV : VJ n J) (ht : 0 ≤ t) : ∀ (f : Nat) (y : SG), PVi n 1 t y → ∀ k, rxS (sIn n J (1 + 24) t f y) k = if k < y.2.2.1 then rxS y k else if k < (sIn n J (1 + 24) t f y).2.2.1 then J (4 * k + 1) else 0
  | 0, y, hp, k => by
    show rxS y k = if k < y.2.2.1 then rxS y k else if k < y.2.2.1 then _ else 0
    by_cases q : k < y.2.2.1
    · rw [if_pos q]
    · rw [if_neg q, if_neg q]
      unfold rxS
      rw [if_neg (fun z => q z.1)]
  | f + 1, y, hp, k => by
    unfold sIn
    by_cases q : y.2.2.1 < n ∧ J (4 * y.2.2.1) ≤ t
    · rw [if_pos q]
      have hn1 : (sIn1 J (1 + 24) t y).2.2.1 = y.2.2.1 + 1 := by unfold sIn1; split <;> rfl
      have hroom : (y.1.length : Int) + y.2.1.length < 1 + 24 := by
        have := hp.2.2.2.2.2.2.2.1
        have := hV.1
        omega
      have ih := in_all hV ht f (sIn1 J (1 + 24) t y) (sIn1_pvi ht hV hp q.1) k
      rw [ih, hn1]
      have e : sIn1 J (1 + 24) t y = (y.1 ++ [y.2.2.1], y.2.1, y.2.2.1 + 1, upd2 (inF J t y.2.2.1 y.2.2.2) 0 y.2.2.1 3) := by unfold sIn1; rw [if_pos hroom]
      have hge : y.2.2.1 + 1 ≤ (sIn n J (1 + 24) t f (sIn1 J (1 + 24) t y)).2.2.1 := by
        have key : ∀ (g : Nat) (z : SG), z.2.2.1 ≤ (sIn n J (1 + 24) t g z).2.2.1 := by
          intro g
          induction g with
          | zero => intro z; exact Nat.le_refl _
          | succ g ihg =>
            intro z
            unfold sIn
            split
            · have h1 : (sIn1 J (1 + 24) t z).2.2.1 = z.2.2.1 + 1 := by unfold sIn1; split <;> rfl
              have := ihg (sIn1 J (1 + 24) t z)
              omega
            · exact Nat.le_refl _
        have := key f (sIn1 J (1 + 24) t y)
        omega
      by_cases e1 : k = y.2.2.1
      · subst e1
        rw [if_pos (by omega), if_neg (by omega), if_pos (by omega)]
        have hF := fun v c => in_F (J := J) (t := t) (x := y) (v := v) (k := y.2.2.1) (c := c)
        have e9 : upd2 (inF J t y.2.2.1 y.2.2.2) 0 y.2.2.1 3 0 y.2.2.1 = 3 := u2_same
        rw [e, rx_on (by show y.2.2.1 < y.2.2.1 + 1; omega) e9]
        show upd2 (inF J t y.2.2.1 y.2.2.2) 0 y.2.2.1 3 1 y.2.2.1 = _
        rw [hF, if_pos rfl, if_neg (by decide), if_pos rfl]
      · by_cases e2 : k < y.2.2.1
        · rw [if_pos (by omega), if_pos e2]
          have hF := fun c => (sIn1_F (J := J) (cap := 1 + 24) (t := t) (x := y)).2.2 c k e1
          unfold rxS
          rw [hn1, hF 0, hF 1]
          by_cases w : k < y.2.2.1 ∧ y.2.2.2 0 k = 3
          · rw [if_pos w, if_pos ⟨by omega, w.2⟩]
          · rw [if_neg w, if_neg (fun z => w ⟨e2, z.2⟩)]
        · rw [if_neg (by omega), if_neg e2]
    · rw [if_neg q]
      by_cases w : k < y.2.2.1
      · rw [if_pos w]
      · rw [if_neg w, if_neg w]
        unfold rxS
        rw [if_neg (fun z => w z.1)]
theorem rx_seat (f : Nat) (y : SG) (k : Nat) : rxS (sSeat J many by_ t f y) k = rxS y k := by
  obtain ⟨h1, h2⟩ := seat_F (J := J) (many := many) (by_ := by_) (t := t) f y
  unfold rxS
  rw [h1, h2 0 k (by decide), h2 1 k (by decide)]
theorem rx_work (hp : PVi n many t x) (k : Nat) : rxS (sWork by_ t x) k = if k ∈ x.2.1 then rxS x k - 1 else rxS x k := by
  have hnd : x.2.1.Nodup := (List.nodup_append.mp hp.2.1).2.1
  have h3 : ∀ i, i ∈ x.2.1 → x.2.2.2 0 i = 3 := fun i hi => (hp.2.2.2.2.1 i (hp.2.2.1 i (List.mem_append_right _ hi))).1.mpr (List.mem_append_right _ hi)
  obtain ⟨g1, g2⟩ := wk_F (by_ := by_) (t := t) x.2.1 (x.1, [], x.2.2.1, x.2.2.2) hnd h3
  have g1 : (sWork by_ t x).2.2.1 = x.2.2.1 := g1
  by_cases q : k ∈ x.2.1
  · rw [if_pos q]
    have hk := hp.2.2.1 k (List.mem_append_right _ q)
    have h1 := (hp.2.2.2.2.2.1 k (List.mem_append_right _ q)).1
    obtain ⟨a, b, c⟩ := (g2 k).2 q
    have a : (sWork by_ t x).2.2.2 1 k = x.2.2.2 1 k - 1 := a
    have c : (sWork by_ t x).2.2.2 0 k = 3 ↔ ¬ x.2.2.2 1 k - 1 ≤ 0 := c
    rw [rx_on hk (h3 k q)]
    unfold rxS
    rw [g1, a]
    by_cases w : x.2.2.2 1 k - 1 ≤ 0
    · rw [if_neg (fun z => c.mp z.2 w)]
      omega
    · rw [if_pos ⟨hk, c.mpr w⟩]
  · rw [if_neg q]
    have g := (g2 k).1 q
    have e0 : (sWork by_ t x).2.2.2 0 k = x.2.2.2 0 k := g 0
    have e1 : (sWork by_ t x).2.2.2 1 k = x.2.2.2 1 k := g 1
    unfold rxS
    rw [g1, e0, e1]
end SRPT
