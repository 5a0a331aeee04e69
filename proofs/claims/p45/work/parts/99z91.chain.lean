/-! Chains: states, chance, whether lawful: both sides. -/
abbrev oC : PV := .inr (.inr (.inl 130))
theorem wra125 : ∀ i, i < 7 → wRa 125 i = 118 + i ∧ wAk (118 + i) = 1 ∧ wAl (118 + i) = 7 := by decide +kernel
def cOk (n : Nat) (b : Int) (A : Nat → Nat → Int) : Prop := (1 ≤ n ∧ n ≤ 7) ∧ (1 ≤ b ∧ b ≤ 100) ∧ (∀ i j, i < 7 → j < 7 → 0 ≤ A i j ∧ A i j ≤ b) ∧ ∀ i j, i < n → n ≤ j → j < 7 → A i j = 0
def CC (M : Mem) (n : Nat) (b : Int) (A : Nat → Nat → Int) : Prop := M 130 0 = n ∧ M 130 1 = b ∧ ∀ i j, i < 7 → j < 7 → M (118 + i) j = A i j
def RC (M : Mem) (n : Nat) (b : Int) (A : Nat → Nat → Int) : Prop := M 175 16 = n ∧ M 175 17 = b ∧ ∀ i j, i < 7 → j < 7 → M 154 (7 * i + j) = A i j
/-- every state leads to itself -/
def cId (b : Int) (i j : Nat) : Int := if i = j then b else 0
theorem cOk_id {n : Nat} {b : Int} (hn : 1 ≤ n ∧ n ≤ 7) (hb : 1 ≤ b ∧ b ≤ 100) : cOk n b (cId b) := by
  refine ⟨hn, hb, fun i j _ _ => ?_, fun i j hi hj _ => ?_⟩
  · unfold cId; split <;> omega
  · exact if_neg (by omega)
def upA (A : Nat → Nat → Int) (p q : Nat) (v : Int) (i j : Nat) : Int := if i = p ∧ j = q then v else A i j
theorem cOk_up {n : Nat} {b v : Int} {A : Nat → Nat → Int} {p q : Nat} (h : cOk n b A) (hp : p < n) (hq : q < n) (hv : 0 ≤ v ∧ v ≤ b) : cOk n b (upA A p q v) := by
  obtain ⟨h1, h2, h3, h4⟩ := h
  refine ⟨h1, h2, fun i j hi hj => ?_, fun i j hi hj hj7 => ?_⟩
  · unfold upA; split
    · exact hv
    · exact h3 i j hi hj
  · unfold upA
    rw [if_neg (by omega)]
    exact h4 i j hi hj hj7
/-- the parts of a state -/
def rowS (A : Nat → Nat → Int) (i : Nat) : Nat → Int
  | 0 => 0
  | k + 1 => rowS A i k + A i k
theorem rowS_r {n : Nat} {b : Int} {A : Nat → Nat → Int} (h : cOk n b A) {i : Nat} (hi : i < 7) : ∀ k, k ≤ 7 → 0 ≤ rowS A i k ∧ rowS A i k ≤ 100 * (k : Int) := by
  obtain ⟨h1, h2, h3, h4⟩ := h
  intro k
  induction k with
  | zero => intro _; exact ⟨Int.le_refl 0, by show (0 : Int) ≤ 100 * ((0 : Nat) : Int); omega⟩
  | succ k ih =>
    intro hk
    have := ih (by omega)
    have := h3 i k hi (by omega)
    show 0 ≤ rowS A i k + A i k ∧ rowS A i k + A i k ≤ 100 * ((k + 1 : Nat) : Int)
    omega
theorem rowS_n {n : Nat} {b : Int} {A : Nat → Nat → Int} (h : cOk n b A) {i : Nat} (hi : i < n) : ∀ k, n + k ≤ 7 → rowS A i (n + k) = rowS A i n := by
  intro k
  induction k with
  | zero => intro _; rfl
  | succ k ih =>
    intro hk
    have := ih (by omega)
    have e := h.2.2.2 i (n + k) hi (by omega) (by omega)
    show rowS A i (n + k) + A i (n + k) = rowS A i n
    omega
def stOk (s b : Int) : Prop := (1 ≤ s ∧ s ≤ 7) ∧ 1 ≤ b ∧ b ≤ 100
abbrev prow : List Nat := [118, 119, 120, 121, 122, 123, 124]
theorem prow_in {i : Nat} (hi : i < 7) : 118 + i ∈ prow := by
  simp; omega
theorem s_Cmake {d : Nat} {M : Mem} {s b : Int} (h : stOk s b) : Post (d + 1) cC_make [oC, .inl s, .inl b] M (fun _ M' => Fr (130 :: prow) M M' ∧ CC M' s.toNat b (cId b)) := by
  intro Q hQ
  obtain ⟨h1, h2⟩ := h
  refine e_C_make (b_C_make_0 ?_)
  have f0 : Fr (130 :: prow) M (upd2 (upd2 M 130 0 s) 130 1 b) := (Fr.rfl'.u2 (by simp)).u2 (by simp)
  have g0 : (upd2 (upd2 M 130 0 s) 130 1 b) 130 0 = s := by rw [u2_ne (by decide), u2_same]
  have g1 : (upd2 (upd2 M 130 0 s) 130 1 b) 130 1 = b := u2_same
  generalize upd2 (upd2 M 130 0 s) 130 1 b = M0 at *
  have outer : ∀ (f i : Nat), i + f = 7 → ∀ M1 o1 o4, Fr (130 :: prow) M M1 → M1 130 0 = s → M1 130 1 = b → (∀ i' j, i' < i → j < 7 → M1 (118 + i') j = cId b i' j) → L_C_make_8 d Q M1 o1 b (i : Int) o4 := by
    intro f
    induction f with
    | zero =>
      intro i hi M1 o1 o4 f k0 k1 hall
      exact b_C_make_8 ⟨⟨by omega, by omega⟩, fun _ => hQ _ _ ⟨f, by rw [k0]; omega, k1, fun i' j h1 h2 => hall i' j (by omega) h2⟩, fun z => absurd (by omega) z⟩
    | succ f ih =>
      intro i hi M1 o1 o4 f k0 k1 hall
      refine b_C_make_8 ⟨⟨by omega, by omega⟩, fun z => absurd z (by omega), fun _ => ?_⟩
      have inner : ∀ (g j : Nat), j + g = 7 → ∀ M2, Fr (130 :: prow) M M2 → M2 130 0 = s → M2 130 1 = b → (∀ i' j', i' < i → j' < 7 → M2 (118 + i') j' = cId b i' j') → (∀ j', j' < j → M2 (118 + i) j' = cId b i j') → L_C_make_13 d Q M2 o1 b (i : Int) (j : Int) := by
        intro g
        induction g with
        | zero =>
          intro j hj M2 f2 m0 m1 hall2 hrow
          refine b_C_make_13 ⟨⟨by omega, by omega⟩, fun _ => ?_, fun z => absurd (by omega) z⟩
          rw [show (i : Int) + 1 = ((i + 1 : Nat) : Int) by omega]
          refine ih (i + 1) (by omega) M2 _ _ f2 m0 m1 fun i' j' h1 h2 => ?_
          by_cases e : i' = i
          · rw [e]; exact hrow j' (by omega)
          · exact hall2 i' j' (by omega) h2
        | succ g ihg =>
          intro j hj M2 f2 m0 m1 hall2 hrow
          refine b_C_make_13 ?_
          obtain ⟨r1, r2, r3⟩ := wra125 i (by omega)
          rw [Int.toNat_natCast, Int.toNat_natCast, r1, r2, r3]
          have st : ∀ v, v = cId b i j → L_C_make_13 d Q (upd2 M2 (118 + i) j v) o1 b (i : Int) ((j : Int) + 1) := by
            intro v hv
            rw [show (j : Int) + 1 = ((j + 1 : Nat) : Int) by omega]
            refine ihg (j + 1) (by omega) _ (f2.u2 (List.mem_cons_of_mem _ (prow_in (by omega)))) (by rw [u2_off (by omega)]; exact m0) (by rw [u2_off (by omega)]; exact m1) (fun i' j' h1 h2 => ?_) fun j' h1 => ?_
            · rw [u2_off (by omega)]; exact hall2 i' j' h1 h2
            · by_cases e : j' = j
              · rw [e, u2_same]; exact hv
              · rw [u2_ne e]; exact hrow j' (by omega)
          exact ⟨⟨by omega, by omega⟩, fun z => absurd z (by omega), fun _ => ⟨⟨by omega, by omega⟩, ⟨by omega, by omega⟩, fun z => ⟨rfl, ⟨by omega, by omega⟩, st 0 (by unfold cId; rw [if_neg (by omega)])⟩, fun z => ⟨rfl, ⟨by omega, by omega⟩, st b (by unfold cId; rw [if_pos (by omega)])⟩⟩⟩
      exact inner 7 0 (by omega) M1 f k0 k1 hall fun j' h => absurd h (Nat.not_lt_zero j')
  exact outer 7 0 (by omega) M0 _ _ f0 g0 g1 fun i' j h => absurd h (Nat.not_lt_zero i')
theorem s_Qstates {d : Nat} {M : Mem} {s b : Int} (hs : R32 s) (hb : R32 b) : PostE (d + 2) cQ_states [oQ, .inl s, .inl b] M (fun r M' => (¬ stOk s b ∧ r = .inr 2 ∧ M' = M) ∨ (stOk s b ∧ r = .inl (M 130 0) ∧ Fr (130 :: prow) M M' ∧ CC M' s.toNat b (cId b))) := by
  intro Q hQ
  have no : ¬ stOk s b → Q (.inr 2) M := fun h => hQ _ _ (Or.inl ⟨h, rfl, rfl⟩)
  refine e_Q_states (b_Q_states_0 ⟨hs, fun _ => no (by unfold stOk; omega), fun _ => ⟨fun _ => no (by unfold stOk; omega), fun _ => ⟨hb, fun _ => no (by unfold stOk; omega), fun _ => ⟨fun _ => ?_, fun _ => no (by unfold stOk; omega)⟩⟩⟩⟩)
  have ok : stOk s b := by unfold stOk; omega
  refine (s_Cmake (d := d) ok).cal fun v1 M1 hM1 => ?_
  obtain ⟨f1, g1⟩ := hM1
  exact hQ _ _ (Or.inr ⟨ok, rfl, f1, g1⟩)