/-! The class's jobs. -/
abbrev oJ : PV := .inr (.inr (.inl 117))
def jobOk (a b c e : Int) : Prop := (0 ≤ a ∧ a ≤ 500) ∧ (1 ≤ b ∧ b ≤ 40) ∧ (0 ≤ c ∧ c ≤ 2) ∧ 1 ≤ e ∧ e ≤ 9
/-- jobs that may be there -/
def VJ (n : Nat) (f : Nat → Int) : Prop := n ≤ 24 ∧ (∀ k, k < n → jobOk (f (4 * k)) (f (4 * k + 1)) (f (4 * k + 2)) (f (4 * k + 3))) ∧ ∀ k, k + 1 < n → f (4 * k) ≤ f (4 * (k + 1))
theorem VJ.congr {n : Nat} {f g : Nat → Int} (h : VJ n f) (e : ∀ i, i < 4 * n → g i = f i) : VJ n g := by
  refine ⟨h.1, fun k hk => ?_, fun k hk => ?_⟩
  · rw [e _ (by omega), e _ (by omega), e _ (by omega), e _ (by omega)]; exact h.2.1 k hk
  · rw [e _ (by omega), e _ (by omega)]; exact h.2.2 k hk
theorem s_JinRange {d : Nat} {M : Mem} {a b c e : Int} (ha : R32 a) (hb : R32 b) (hc : R32 c) (he : R32 e) : Post (d + 1) cJ_isInRange [.inl a, .inl b, .inl c, .inl e] M (fun v M' => M' = M ∧ ((v = 1 ∧ jobOk a b c e) ∨ (v = 0 ∧ ¬ jobOk a b c e))) := by
  intro Q hQ
  have no : ¬ jobOk a b c e → Q (.inl 0) M := fun h => hQ _ _ ⟨rfl, Or.inr ⟨rfl, h⟩⟩
  have yes : jobOk a b c e → Q (.inl 1) M := fun h => hQ _ _ ⟨rfl, Or.inl ⟨rfl, h⟩⟩
  unfold jobOk at no yes
  refine e_J_isInRange (b_J_isInRange_0 ⟨ha, fun _ => no ?_, fun _ => ⟨fun _ => no ?_, fun _ => ⟨hb, fun _ => no ?_, fun _ => ⟨fun _ => no ?_, fun _ => ⟨hc, fun _ => no ?_, fun _ => ⟨fun _ => no ?_, fun _ => ⟨he, fun _ => no ?_, fun _ => ⟨fun _ => no ?_, fun _ => yes ?_⟩⟩⟩⟩⟩⟩⟩⟩) <;> omega
theorem s_Jpart {d : Nat} {M : Mem} {k p : Nat} (hk : k < 24) (hp : p < 4) : Post (d + 1) cJ_part [oJ, .inl (k : Int), .inl (p : Int)] M (fun v M' => M' = M ∧ v = M 94 (4 * k + p)) := by
  intro Q hQ
  refine e_J_part (b_J_part_0 ?_)
  rw [show ((k : Int) * 4 + (p : Int)).toNat = 4 * k + p by omega]
  exact ⟨⟨by omega, by omega⟩, fun h => absurd h (by omega), fun _ => ⟨fun _ => ⟨⟨by omega, by omega⟩, hQ _ _ ⟨rfl, rfl⟩⟩, fun h => absurd (by omega) h⟩⟩
theorem s_Jlatest {d : Nat} {M : Mem} {n : Nat} (hn : M 117 0 = n) (h24 : n ≤ 24) : Post (d + 2) cJ_latestTick [oJ] M (fun v M' => M' = M ∧ v = if n = 0 then 0 else M 94 (4 * (n - 1))) := by
  intro Q hQ
  refine e_J_latestTick (b_J_latestTick_0 ?_)
  rw [hn]
  refine ⟨⟨by omega, by omega⟩, fun h => ?_, fun h => hQ _ _ ⟨rfl, by rw [if_pos (by omega)]⟩⟩
  rw [show (n : Int) - 1 = ((n - 1 : Nat) : Int) by omega]
  refine (s_Jpart (d := d) (p := 0) (k := n - 1) (by omega) (by decide)).cal fun v1 M1 hM1 => ?_
  obtain ⟨rfl, rfl⟩ := hM1
  exact hQ _ _ ⟨rfl, by rw [if_neg (by omega)]; rfl⟩
def add4 (f : Nat → Int) (n : Nat) (a b c e : Int) : Nat → Int := sr (sr (sr (sr f (4 * n) a) (4 * n + 1) b) (4 * n + 2) c) (4 * n + 3) e
theorem s_Jadd {d : Nat} {M : Mem} {n : Nat} {a b c e : Int} (hn : M 117 0 = n) (h24 : n < 24) : Post (d + 1) cJ_add [oJ, .inl a, .inl b, .inl c, .inl e] M (fun _ M' => Fr [94, 117] M M' ∧ M' 94 = add4 (M 94) n a b c e ∧ M' 117 0 = ((n + 1 : Nat) : Int) ∧ ∀ s, s ≠ 0 → M' 117 s = M 117 s) := by
  intro Q hQ
  refine e_J_add (b_J_add_0 ?_)
  rw [hn, show ((n : Int) * 4 + 0).toNat = 4 * n by omega, show ((n : Int) * 4 + 1).toNat = 4 * n + 1 by omega, show ((n : Int) * 4 + 2).toNat = 4 * n + 2 by omega, show ((n : Int) * 4 + 3).toNat = 4 * n + 3 by omega]
  refine ⟨⟨by omega, by omega⟩, fun h => absurd h (by omega), fun _ => ⟨⟨by omega, by omega⟩, fun h => absurd h (by omega), fun _ => ⟨⟨by omega, by omega⟩, ⟨by omega, by omega⟩, ⟨by omega, by omega⟩, ⟨by omega, by omega⟩, hQ _ _ ⟨?_, ?_, ?_, fun s hs => ?_⟩⟩⟩⟩
  · exact ((((Fr.rfl'.u2 (by simp)).u2 (by simp)).u2 (by simp)).u2 (by simp)).u2 (by simp)
  · rw [u2_off (by decide), u2_row, u2_row, u2_row, u2_row]; rfl
  · rw [u2_same]; omega
  · rw [u2_ne hs, u2_off (by decide), u2_off (by decide), u2_off (by decide), u2_off (by decide)]
theorem s_forget {d : Nat} {M : Mem} : Post (d + 2) cQ_forgetPlays [oQ] M (fun _ M' => Fr [148, 149] M M' ∧ M' 149 7 = 0 ∧ (∀ s, s ≠ 7 → M' 149 s = M 149 s) ∧ ∀ i, i < 6 → M' 148 i = -1) := by
  intro Q hQ
  refine e_Q_forgetPlays (b_Q_forgetPlays_0 ?_)
  refine (s_fill (d := d) (r0 := 148) rfl).cal fun v1 M1 hM1 => ?_
  obtain ⟨f1, g1⟩ := hM1
  have hr : M1 149 = upd2 M 149 7 0 149 := f1 149 (by decide)
  refine hQ _ _ ⟨(Fr.rfl'.u2 (by simp)).tr (f1.mono (by simp)), ?_, fun s hs => ?_, fun i hi => ?_⟩
  · rw [hr, u2_same]
  · rw [hr, u2_ne hs]
  · rw [g1 i, if_pos (show i < wAl 148 by have : wAl 148 = 6 := rfl
                                          omega)]
/-- where the change j of u stands in the ring whose newest is w -/
def rpos (w u j : Nat) : Nat := (w + 21 + j - u) % 20
/-- the class's kept changes -/
def CH (M : Mem) (u : Nat) (cnt : Nat → Int) (row : Nat → Nat → Int) : Prop := u ≤ 20 ∧ M 117 2 = u ∧ ∃ w : Nat, w < 20 ∧ M 117 3 = w ∧ ∀ j, j < u → M 95 (rpos w u j) = cnt j ∧ ∀ i, i < 96 → M (96 + rpos w u j) i = row j i
/-- one more change -/
def hcnt {α : Type} (u : Nat) (cnt : Nat → α) (n : α) : Nat → α := if u = 20 then fun j => if j = 19 then n else cnt (j + 1) else fun j => if j = u then n else cnt j
def hlen (u : Nat) : Nat := if u = 20 then 20 else u + 1
theorem wra116 : ∀ p, p < 20 → wRa 116 p = 96 + p ∧ wAk (96 + p) = 1 ∧ wAl (96 + p) = 96 := by decide +kernel
theorem keptCells : ∀ p, p < 20 → (96 + p) ∈ [95, 96, 97, 98, 99, 100, 101, 102, 103, 104, 105, 106, 107, 108, 109, 110, 111, 112, 113, 114, 115, 117] := by decide
abbrev kcells : List Nat := [95, 96, 97, 98, 99, 100, 101, 102, 103, 104, 105, 106, 107, 108, 109, 110, 111, 112, 113, 114, 115, 117]
theorem s_remember {d : Nat} {M : Mem} {u : Nat} {cnt : Nat → Int} {row : Nat → Nat → Int} (h : CH M u cnt row) : Post (d + 1) cJ_remember [oJ] M (fun _ M' => Fr kcells M M' ∧ M' 117 0 = M 117 0 ∧ CH M' (hlen u) (hcnt u cnt (M 117 0)) (hcnt u row (M 94))) := by
  intro Q hQ
  obtain ⟨hu, h2, w, hw, h3, hh⟩ := h
  refine e_J_remember (b_J_remember_0 ?_)
  rw [h3, show (((w : Int) + 1) % 20).toNat = (w + 1) % 20 by omega]
  have hp : (w + 1) % 20 < 20 := Nat.mod_lt _ (by decide)
  have ep : (((w : Int) + 1) % 20) = (((w + 1) % 20 : Nat) : Int) := by omega
  generalize hpp : (w + 1) % 20 = p at *
  obtain ⟨r1, r2, r3⟩ := wra116 p hp
  have l94 : wAl 94 = 96 := rfl
  rw [ep, r1, r2, r3, l94]
  have g1 : ∀ (f : Nat → Int), (sm (upd2 (upd2 M 117 3 (p : Int)) 95 p (M 117 0)) (96 + p) f) 117 2 = u := fun f => by
    rw [sm_off (by omega), u2_off (by decide), u2_ne (by decide)]; exact h2
  rw [g1]
  refine ⟨⟨by omega, by omega⟩, ⟨by omega, by omega⟩, rfl, by omega, ⟨by decide, by decide, by decide, by decide, by decide⟩, ⟨by omega, by omega⟩, hQ _ _ ⟨?_, ?_, ?_⟩⟩
  · have k1 := keptCells p hp
    exact (((Fr.rfl'.u2 (by simp)).u2 (by simp)).sm k1).u2 (by simp)
  · rw [u2_ne (by decide), sm_off (by omega), u2_off (by decide), u2_ne (by decide)]
  · refine ⟨?_, ?_, p, hp, ?_, fun j hj => ?_⟩
    · unfold hlen
      by_cases e : u = 20
      · rw [if_pos e]; exact Nat.le_refl 20
      · rw [if_neg e]; omega
    · rw [u2_same]
      unfold hlen
      by_cases e : u = 20
      · rw [if_pos e]; omega
      · rw [if_neg e]; omega
    · rw [u2_ne (by decide), sm_off (by omega), u2_off (by decide), u2_same]
    · have key : ∀ (q : Nat), q ≠ p → q < 20 → (upd2 (sm (upd2 (upd2 M 117 3 (p : Int)) 95 p (M 117 0)) (96 + p) (cpy ((upd2 (upd2 M 117 3 (p : Int)) 95 p (M 117 0)) 94) ((upd2 (upd2 M 117 3 (p : Int)) 95 p (M 117 0)) (96 + p)) (0 : Int).toNat (0 : Int).toNat (96 : Int).toNat)) 117 2 (min ((u : Int) + 1) 20)) 95 q = M 95 q ∧ ∀ i, (upd2 (sm (upd2 (upd2 M 117 3 (p : Int)) 95 p (M 117 0)) (96 + p) (cpy ((upd2 (upd2 M 117 3 (p : Int)) 95 p (M 117 0)) 94) ((upd2 (upd2 M 117 3 (p : Int)) 95 p (M 117 0)) (96 + p)) (0 : Int).toNat (0 : Int).toNat (96 : Int).toNat)) 117 2 (min ((u : Int) + 1) 20)) (96 + q) i = M (96 + q) i := by
        intro q hq hq20
        refine ⟨?_, fun i => ?_⟩
        · rw [u2_off (by decide), sm_off (by omega), u2_ne hq, u2_off (by decide)]
        · rw [u2_off (by omega), sm_off (by omega), u2_off (by omega), u2_off (by omega)]
      have new : (upd2 (sm (upd2 (upd2 M 117 3 (p : Int)) 95 p (M 117 0)) (96 + p) (cpy ((upd2 (upd2 M 117 3 (p : Int)) 95 p (M 117 0)) 94) ((upd2 (upd2 M 117 3 (p : Int)) 95 p (M 117 0)) (96 + p)) (0 : Int).toNat (0 : Int).toNat (96 : Int).toNat)) 117 2 (min ((u : Int) + 1) 20)) 95 p = M 117 0 ∧ ∀ i, i < 96 → (upd2 (sm (upd2 (upd2 M 117 3 (p : Int)) 95 p (M 117 0)) (96 + p) (cpy ((upd2 (upd2 M 117 3 (p : Int)) 95 p (M 117 0)) 94) ((upd2 (upd2 M 117 3 (p : Int)) 95 p (M 117 0)) (96 + p)) (0 : Int).toNat (0 : Int).toNat (96 : Int).toNat)) 117 2 (min ((u : Int) + 1) 20)) (96 + p) i = M 94 i := by
        refine ⟨?_, fun i hi => ?_⟩
        · rw [u2_off (by decide), sm_off (by omega), u2_same]
        · rw [u2_off (by omega), sm_row]
          unfold cpy
          rw [show (0 : Int).toNat = 0 from rfl, show (96 : Int).toNat = 96 from rfl, if_pos ⟨by omega, by omega⟩, u2_off (by decide), u2_off (by decide)]
          rw [show 0 + (i - 0) = i by omega]
      unfold hlen at hj ⊢
      unfold hcnt
      by_cases e : u = 20
      · rw [if_pos e] at hj
        simp only [if_pos e]
        by_cases ej : j = 19
        · have er : rpos p 20 j = p := by unfold rpos; omega
          rw [er]
          simp only [if_pos ej]
          exact new
        · have er : rpos p 20 j = rpos w u (j + 1) := by unfold rpos; omega
          have en : rpos w u (j + 1) ≠ p := by unfold rpos; omega
          have el : rpos w u (j + 1) < 20 := Nat.mod_lt _ (by decide)
          rw [er]
          simp only [if_neg ej]
          obtain ⟨k1, k2⟩ := key _ en el
          obtain ⟨m1, m2⟩ := hh (j + 1) (by omega)
          exact ⟨k1.trans m1, fun i hi => (k2 i).trans (m2 i hi)⟩
      · rw [if_neg e] at hj
        simp only [if_neg e]
        by_cases ej : j = u
        · have er : rpos p (u + 1) j = p := by unfold rpos; omega
          rw [er]
          simp only [if_pos ej]
          exact new
        · have er : rpos p (u + 1) j = rpos w u j := by unfold rpos; omega
          have en : rpos w u j ≠ p := by unfold rpos; omega
          have el : rpos w u j < 20 := Nat.mod_lt _ (by decide)
          rw [er]
          simp only [if_neg ej]
          obtain ⟨k1, k2⟩ := key _ en el
          obtain ⟨m1, m2⟩ := hh j (by omega)
          exact ⟨k1.trans m1, fun i hi => (k2 i).trans (m2 i hi)⟩
theorem s_takeBack {d : Nat} {M : Mem} {u : Nat} {cnt : Nat → Int} {row : Nat → Nat → Int} (h : CH M u cnt row) (h0 : 0 < u) : Post (d + 1) cJ_takeBack [oJ] M (fun _ M' => Fr [94, 117] M M' ∧ M' 117 0 = cnt (u - 1) ∧ (∀ i, i < 96 → M' 94 i = row (u - 1) i) ∧ CH M' (u - 1) cnt row) := by
  intro Q hQ
  obtain ⟨hu, h2, w, hw, h3, hh⟩ := h
  refine e_J_takeBack (b_J_takeBack_0 ?_)
  obtain ⟨r1, r2, r3⟩ := wra116 w hw
  have l94 : wAl 94 = 96 := rfl
  rw [h2, h3, Int.toNat_natCast, r1, r2, r3, l94]
  have er : rpos w u (u - 1) = w := by unfold rpos; omega
  obtain ⟨m1, m2⟩ := hh (u - 1) (by omega)
  rw [er] at m1 m2
  have e3 : (sm (upd2 M 117 0 (M 95 w)) 94 (cpy ((upd2 M 117 0 (M 95 w)) (96 + w)) ((upd2 M 117 0 (M 95 w)) 94) 0 0 96)) 117 3 = w := by
    rw [sm_off (by decide), u2_ne (by decide)]; exact h3
  have e2 : (sm (upd2 M 117 0 (M 95 w)) 94 (cpy ((upd2 M 117 0 (M 95 w)) (96 + w)) ((upd2 M 117 0 (M 95 w)) 94) 0 0 96)) 117 2 = u := by
    rw [sm_off (by decide), u2_ne (by decide)]; exact h2
  rw [e3, e2]
  refine ⟨⟨by omega, by omega⟩, fun z => absurd z (by omega), fun _ => ⟨⟨by omega, by omega⟩, rfl, by omega, ⟨by decide, by decide, by decide, by decide, by decide⟩, ⟨by omega, by omega⟩, hQ _ _ ⟨?_, ?_, fun i hi => ?_, ?_⟩⟩⟩
  · exact ((((Fr.rfl'.u2 (by simp)).sm (by simp)).u2 (by simp)).u2 (by simp))
  · rw [u2_ne (by decide), u2_ne (by decide), sm_off (by decide), u2_same]; exact m1
  · rw [u2_off (by decide), u2_off (by decide), sm_row]
    unfold cpy
    rw [if_pos ⟨by omega, by omega⟩, u2_off (by omega), show 0 + (i - 0) = i by omega]
    exact m2 i hi
  · refine ⟨by omega, by rw [u2_same]; omega, (w + 19) % 20, Nat.mod_lt _ (by decide), by rw [u2_ne (by decide), u2_same]; omega, fun j hj => ?_⟩
    have e : rpos ((w + 19) % 20) (u - 1) j = rpos w u j := by unfold rpos; omega
    have el : rpos w u j < 20 := Nat.mod_lt _ (by decide)
    rw [e]
    obtain ⟨k1, k2⟩ := hh j (by omega)
    refine ⟨?_, fun i hi => ?_⟩
    · rw [u2_off (by decide), u2_off (by decide), sm_off (by decide), u2_off (by decide)]; exact k1
    · rw [u2_off (by omega), u2_off (by omega), sm_off (by omega), u2_off (by omega)]; exact k2 i hi
