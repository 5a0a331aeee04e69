/-! The envelope: both sides. -/
abbrev oE : PV := .inr (.inr (.inl 143))
/-- the server whose rate is least -/
def eBest (B P : Nat → Int) : Nat → Nat
  | 0 => 0
  | k + 1 => if B (eBest B P k) * P k ≤ B k * P (eBest B P k) then eBest B P k else k
def eSum (L : Nat → Int) : Nat → Int
  | 0 => 0
  | k + 1 => eSum L k + L k
def eOk (b a p : Int) (n : Nat) (L B P : Nat → Int) : Prop := (0 ≤ b ∧ b ≤ 999) ∧ (0 ≤ a ∧ a ≤ 99) ∧ (1 ≤ p ∧ p ≤ 99) ∧ n ≤ 4 ∧ ∀ i, i < n → (0 ≤ L i ∧ L i ≤ 99) ∧ (1 ≤ B i ∧ B i ≤ 99) ∧ 1 ≤ P i ∧ P i ≤ 99
theorem eBest_lt {B P : Nat → Int} : ∀ k, 0 < k → eBest B P k < k := by
  intro k
  induction k with
  | zero => intro h; exact absurd h (by decide)
  | succ k ih =>
    intro _
    show (if B (eBest B P k) * P k ≤ B k * P (eBest B P k) then eBest B P k else k) < k + 1
    split
    · by_cases e : k = 0
      · subst e; exact Nat.zero_lt_one
      · exact Nat.lt_succ_of_lt (ih (by omega))
    · exact Nat.lt_succ_self k
theorem eBest_congr {B P B' P' : Nat → Int} : ∀ k, (∀ i, i < k → B' i = B i ∧ P' i = P i) → eBest B' P' k = eBest B P k := by
  intro k
  induction k with
  | zero => intro _; rfl
  | succ k ih =>
    intro h
    show (if B' (eBest B' P' k) * P' k ≤ B' k * P' (eBest B' P' k) then eBest B' P' k else k) = (if B (eBest B P k) * P k ≤ B k * P (eBest B P k) then eBest B P k else k)
    rw [ih fun i hi => h i (by omega)]
    obtain ⟨h1, h2⟩ := h k (by omega)
    by_cases e : k = 0
    · subst e
      have : eBest B P 0 = 0 := rfl
      rw [this, h1, h2]
    · obtain ⟨h3, h4⟩ := h (eBest B P k) (by have := eBest_lt (B := B) (P := P) k (by omega); omega)
      rw [h1, h2, h3, h4]
theorem eSum_congr {L L' : Nat → Int} : ∀ k, (∀ i, i < k → L' i = L i) → eSum L' k = eSum L k := by
  intro k
  induction k with
  | zero => intro _; rfl
  | succ k ih => intro h; show eSum L' k + L' k = eSum L k + L k; rw [ih fun i hi => h i (by omega), h k (by omega)]
theorem eSum_r {L : Nat → Int} : ∀ k, (∀ i, i < k → 0 ≤ L i ∧ L i ≤ 99) → 0 ≤ eSum L k ∧ eSum L k ≤ 99 * (k : Int) := by
  intro k
  induction k with
  | zero => intro _; exact ⟨Int.le_refl 0, Int.le_refl 0⟩
  | succ k ih =>
    intro h
    have := ih fun i hi => h i (by omega)
    have := h k (by omega)
    show 0 ≤ eSum L k + L k ∧ eSum L k + L k ≤ 99 * ((k + 1 : Nat) : Int)
    omega
/-- the class's envelope -/
def CE (M : Mem) (b a p : Int) (n : Nat) (L B P : Nat → Int) : Prop := M 143 0 = b ∧ M 143 1 = a ∧ M 143 2 = p ∧ M 143 3 = n ∧ M 143 4 = eSum L n ∧ (0 < n → M 143 5 = B (eBest B P n) ∧ M 143 6 = P (eBest B P n))
/-- the reference's -/
def RE (M : Mem) (b a p : Int) (n : Nat) (L B P : Nat → Int) : Prop := M 175 24 = b ∧ M 175 25 = a ∧ M 175 26 = p ∧ M 175 27 = n ∧ M 158 = L ∧ M 159 = B ∧ M 160 = P
def envOk (b a p : Int) : Prop := (0 ≤ b ∧ b ≤ 999) ∧ (0 ≤ a ∧ a ≤ 99) ∧ 1 ≤ p ∧ p ≤ 99
def srvOk (l b p : Int) : Prop := (0 ≤ l ∧ l ≤ 99) ∧ (1 ≤ b ∧ b ≤ 99) ∧ 1 ≤ p ∧ p ≤ 99
theorem s_Qenvelope {d : Nat} {M : Mem} {b a p : Int} (hb : R32 b) (ha : R32 a) (hp : R32 p) : PostE (d + 2) cQ_envelope [oQ, .inl b, .inl a, .inl p] M (fun r M' => (¬ envOk b a p ∧ r = .inr 2 ∧ M' = M) ∨ (envOk b a p ∧ r = .inl (M 143 3) ∧ Fr [143] M M' ∧ ∀ L B P, CE M' b a p 0 L B P)) := by
  intro Q hQ
  have no : ¬ envOk b a p → Q (.inr 2) M := fun h => hQ _ _ (Or.inl ⟨h, rfl, rfl⟩)
  unfold envOk at no hQ
  refine e_Q_envelope (b_Q_envelope_0 ⟨hb, fun _ => no (by omega), fun _ => ⟨fun _ => no (by omega), fun _ => ⟨ha, fun _ => no (by omega), fun _ => ⟨fun _ => no (by omega), fun _ => ⟨hp, fun _ => no (by omega), fun _ => ⟨fun _ => ?_, fun _ => no (by omega)⟩⟩⟩⟩⟩⟩)
  refine e_E_set (b_E_set_0 ?_)
  refine hQ _ _ (Or.inr ⟨by omega, rfl, ?_, fun L B P => ⟨?_, ?_, ?_, ?_, ?_, fun h => absurd h (by decide)⟩⟩)
  · exact ((((Fr.rfl'.u2 (by simp)).u2 (by simp)).u2 (by simp)).u2 (by simp)).u2 (by simp)
  · rw [u2_ne (by decide), u2_ne (by decide), u2_ne (by decide), u2_ne (by decide), u2_same]
  · rw [u2_ne (by decide), u2_ne (by decide), u2_ne (by decide), u2_same]
  · rw [u2_ne (by decide), u2_ne (by decide), u2_same]
  · rw [u2_ne (by decide), u2_same]; rfl
  · rw [u2_same]; rfl
theorem sr_ne' {f : Nat → Int} {n i : Nat} {v : Int} (h : i ≠ n) : sr f n v i = f i := if_neg h
theorem sr_eq' {f : Nat → Int} {n : Nat} {v : Int} : sr f n v n = v := if_pos rfl
theorem prod_r {x y : Int} {k : Int} (hx : 0 ≤ x ∧ x ≤ k) (hy : 0 ≤ y ∧ y ≤ 99) : 0 ≤ x * y ∧ x * y ≤ 99 * k := by
  refine ⟨Int.mul_nonneg hx.1 hy.1, ?_⟩
  have h1 : x * y ≤ k * y := Int.mul_le_mul_of_nonneg_right hx.2 hy.1
  have h2 : k * y ≤ k * 99 := Int.mul_le_mul_of_nonneg_left hy.2 (by omega)
  omega
theorem s_Qserver {d : Nat} {M : Mem} {b a p l sb sp : Int} {n : Nat} {L B P : Nat → Int} (hE : CE M b a p n L B P) (hO : eOk b a p n L B P) (hl : R32 l) (hb : R32 sb) (hp : R32 sp) : PostE (d + 2) cQ_server [oQ, .inl l, .inl sb, .inl sp] M (fun r M' => (¬ srvOk l sb sp ∧ r = .inr 2 ∧ M' = M) ∨ (srvOk l sb sp ∧ n = 4 ∧ r = .inr 3 ∧ M' = M) ∨ (srvOk l sb sp ∧ n < 4 ∧ r = .inl ((n + 1 : Nat) : Int) ∧ Fr [143] M M' ∧ CE M' b a p (n + 1) (sr L n l) (sr B n sb) (sr P n sp))) := by
  intro Q hQ
  have no : ¬ srvOk l sb sp → Q (.inr 2) M := fun h => hQ _ _ (Or.inl ⟨h, rfl, rfl⟩)
  unfold srvOk at no hQ
  obtain ⟨c0, c1, c2, c3, c4, c5⟩ := hE
  refine e_Q_server (b_Q_server_0 ⟨hl, fun _ => no (by omega), fun _ => ⟨fun _ => no (by omega), fun _ => ⟨hb, fun _ => no (by omega), fun _ => ⟨fun _ => no (by omega), fun _ => ⟨hp, fun _ => no (by omega), fun _ => ⟨fun _ => ?_, fun _ => no (by omega)⟩⟩⟩⟩⟩⟩)
  have h4 := hO.2.2.2.1
  have r3 : R32 (M 143 3) := by rw [c3]; exact ⟨by omega, by omega⟩
  refine ⟨r3, fun z => ?_, fun z => hQ _ _ (Or.inr (Or.inl ⟨by omega, by omega, rfl, rfl⟩))⟩
  have hn4 : n < 4 := by omega
  have ol : ∀ i, i < n → sr L n l i = L i := fun i hi => sr_ne' (by omega)
  have ob : ∀ i, i < n → sr B n sb i = B i ∧ sr P n sp i = P i := fun i hi => ⟨sr_ne' (by omega), sr_ne' (by omega)⟩
  have eS : eSum (sr L n l) (n + 1) = eSum L n + l := by
    show eSum (sr L n l) n + sr L n l n = _
    rw [eSum_congr n ol, sr_eq']
  have fin : ∀ {M2 : Mem}, Fr [143] M M2 → M2 143 0 = b → M2 143 1 = a → M2 143 2 = p → M2 143 3 = ((n + 1 : Nat) : Int) → M2 143 4 = eSum L n + l → M2 143 5 = sr B n sb (eBest (sr B n sb) (sr P n sp) (n + 1)) → M2 143 6 = sr P n sp (eBest (sr B n sb) (sr P n sp) (n + 1)) → Q (.inl (M2 143 3)) M2 := by
    intro M2 f k0 k1 k2 k3 k4 k5 k6
    exact hQ _ _ (Or.inr (Or.inr ⟨by omega, hn4, by rw [k3], f, k0, k1, k2, k3, by rw [eS]; exact k4, fun _ => ⟨k5, k6⟩⟩))
  have eB : eBest (sr B n sb) (sr P n sp) (n + 1) = if sr B n sb (eBest B P n) * sp ≤ sb * sr P n sp (eBest B P n) then eBest B P n else n := by
    show (if sr B n sb (eBest (sr B n sb) (sr P n sp) n) * sr P n sp n ≤ sr B n sb n * sr P n sp (eBest (sr B n sb) (sr P n sp) n) then eBest (sr B n sb) (sr P n sp) n else n) = _
    rw [eBest_congr n ob, sr_eq', sr_eq']
  refine e_E_addServer (b_E_addServer_0 ⟨r3, fun z0 => ?_, fun z0 => ?_⟩)
  · have hn0 : n = 0 := by omega
    have e0 : eBest (sr B n sb) (sr P n sp) (n + 1) = n := by
      rw [eB]
      split
      · rw [hn0]; rfl
      · rfl
    refine fin ?_ ?_ ?_ ?_ ?_ ?_ ?_ ?_
    · exact (((Fr.rfl'.u2 (by simp)).u2 (by simp)).u2 (by simp)).u2 (by simp)
    · rw [u2_ne (by decide), u2_ne (by decide), u2_ne (by decide), u2_ne (by decide)]; exact c0
    · rw [u2_ne (by decide), u2_ne (by decide), u2_ne (by decide), u2_ne (by decide)]; exact c1
    · rw [u2_ne (by decide), u2_ne (by decide), u2_ne (by decide), u2_ne (by decide)]; exact c2
    · rw [u2_same, c3]; omega
    · rw [u2_ne (by decide), u2_same, c4]
    · rw [u2_ne (by decide), u2_ne (by decide), u2_ne (by decide), u2_same, e0, sr_eq']
    · rw [u2_ne (by decide), u2_ne (by decide), u2_same, e0, sr_eq']
  · have hn0 : 0 < n := by omega
    obtain ⟨c5, c6⟩ := c5 hn0
    have hlt := eBest_lt (B := B) (P := P) n hn0
    obtain ⟨_, q2, q3⟩ := hO.2.2.2.2 _ hlt
    obtain ⟨o1, o2⟩ := ob _ hlt
    rw [o1, o2] at eB
    have w1 := prod_r (x := sb) (y := P (eBest B P n)) (k := 99) ⟨by omega, by omega⟩ ⟨by omega, by omega⟩
    have w2 := prod_r (x := B (eBest B P n)) (y := sp) (k := 99) ⟨by omega, by omega⟩ ⟨by omega, by omega⟩
    rw [c5, c6]
    refine ⟨⟨by omega, by omega⟩, ⟨by omega, by omega⟩, fun z1 => ?_, fun z1 => ?_⟩
    · have e0 : eBest (sr B n sb) (sr P n sp) (n + 1) = eBest B P n := by rw [eB]; exact if_pos z1
      refine fin ?_ ?_ ?_ ?_ ?_ ?_ ?_ ?_
      · exact (Fr.rfl'.u2 (by simp)).u2 (by simp)
      · rw [u2_ne (by decide), u2_ne (by decide)]; exact c0
      · rw [u2_ne (by decide), u2_ne (by decide)]; exact c1
      · rw [u2_ne (by decide), u2_ne (by decide)]; exact c2
      · rw [u2_same, c3]; omega
      · rw [u2_ne (by decide), u2_same, c4]
      · rw [u2_ne (by decide), u2_ne (by decide), e0, o1]; exact c5
      · rw [u2_ne (by decide), u2_ne (by decide), e0, o2]; exact c6
    · have e0 : eBest (sr B n sb) (sr P n sp) (n + 1) = n := by rw [eB]; exact if_neg z1
      refine fin ?_ ?_ ?_ ?_ ?_ ?_ ?_ ?_
      · exact (((Fr.rfl'.u2 (by simp)).u2 (by simp)).u2 (by simp)).u2 (by simp)
      · rw [u2_ne (by decide), u2_ne (by decide), u2_ne (by decide), u2_ne (by decide)]; exact c0
      · rw [u2_ne (by decide), u2_ne (by decide), u2_ne (by decide), u2_ne (by decide)]; exact c1
      · rw [u2_ne (by decide), u2_ne (by decide), u2_ne (by decide), u2_ne (by decide)]; exact c2
      · rw [u2_same, c3]; omega
      · rw [u2_ne (by decide), u2_same, c4]
      · rw [u2_ne (by decide), u2_ne (by decide), u2_ne (by decide), u2_same, e0, sr_eq']
      · rw [u2_ne (by decide), u2_ne (by decide), u2_same, e0, sr_eq']
