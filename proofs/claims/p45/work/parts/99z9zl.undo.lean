/-! undo, and what it leaves behind the kept jobs; fault; the text stays in range. -/
theorem s_takeBack' {d : Nat} {M : Mem} {u : Nat} {cnt : Nat → Int} {row : Nat → Nat → Int} (h : CH M u cnt row) (h0 : 0 < u) : Post (d + 1) cJ_takeBack [oJ] M (fun _ M' => Fr [94, 117] M M' ∧ M' 117 0 = cnt (u - 1) ∧ (∀ i, M' 94 i = if i < 96 then row (u - 1) i else M 94 i) ∧ CH M' (u - 1) cnt row) := by
  intro Q hQ
  obtain ⟨hu, h2, w, hw, h3, hh⟩ := h
  refine e_J_takeBack (b_J_takeBack_0 ?_)
  obtain ⟨r1, r2, r3⟩ := wra116 w hw
  have l94 : wAl 94 = 96 := rfl
  rw [h2, h3, Int.toNat_natCast, r1, r2, r3, l94]
  have er : rpos w u (u - 1) = w := by unfold rpos; omega
  obtain ⟨m1, m2⟩ := hh (u - 1) (by omega)
  rw [er] at m1 m2
  have e3 : (sm (upd2 M 117 0 (M 95 w)) 94 (cpy ((upd2 M 117 0 (M 95 w)) (96 + w)) ((upd2 M 117 0 (M 95 w)) 94) 0 0 96)) 117 3 = w := by
    rw [sm_off (by decide), u2_ne (by decide)]; exact h3
  have e2 : (sm (upd2 M 117 0 (M 95 w)) 94 (cpy ((upd2 M 117 0 (M 95 w)) (96 + w)) ((upd2 M 117 0 (M 95 w)) 94) 0 0 96)) 117 2 = u := by
    rw [sm_off (by decide), u2_ne (by decide)]; exact h2
  rw [e3, e2]
  refine ⟨⟨by omega, by omega⟩, fun z => absurd z (by omega), fun _ => ⟨⟨by omega, by omega⟩, rfl, by omega, ⟨by decide, by decide, by decide, by decide, by decide⟩, ⟨by omega, by omega⟩, hQ _ _ ⟨?_, ?_, fun i => ?_, ?_⟩⟩⟩
  · exact ((((Fr.rfl'.u2 (by simp)).sm (by simp)).u2 (by simp)).u2 (by simp))
  · rw [u2_ne (by decide), u2_ne (by decide), sm_off (by decide), u2_same]; exact m1
  · rw [u2_off (by decide), u2_off (by decide), sm_row]
    unfold cpy
    by_cases hi : i < 96
    · rw [if_pos hi, if_pos ⟨by omega, by omega⟩, u2_off (by omega), show 0 + (i - 0) = i by omega]
      exact m2 i hi
    · rw [if_neg hi, if_neg (by omega), u2_off (by decide)]
  · refine ⟨by omega, by rw [u2_same]; omega, (w + 19) % 20, Nat.mod_lt _ (by decide), by rw [u2_ne (by decide), u2_same]; omega, fun j hj => ?_⟩
    have e : rpos ((w + 19) % 20) (u - 1) j = rpos w u j := by unfold rpos; omega
    have el : rpos w u j < 20 := Nat.mod_lt _ (by decide)
    rw [e]
    obtain ⟨k1, k2⟩ := hh j (by omega)
    refine ⟨?_, fun i hi => ?_⟩
    · rw [u2_off (by decide), u2_off (by decide), sm_off (by decide), u2_off (by decide)]; exact k1
    · rw [u2_off (by omega), u2_off (by omega), sm_off (by omega), u2_off (by omega)]; exact k2 i hi
theorem s_Qundo' {d : Nat} {M : Mem} {u : Nat} {cnt : Nat → Int} {row : Nat → Nat → Int} (h : CH M u cnt row) :
    PostE (d + 3) cQ_undo [oQ] M (fun r M' => (u = 0 ∧ r = .inr 5 ∧ M' = M) ∨ (0 < u ∧ Fr jcells M M' ∧ r = .inl ((u - 1 : Nat) : Int) ∧ M' 117 0 = cnt (u - 1) ∧ (∀ i, M' 94 i = if i < 96 then row (u - 1) i else M 94 i) ∧ (∀ s, s ≠ 7 → M' 149 s = M 149 s) ∧ NoPlay M' ∧ CH M' (u - 1) cnt row)) := by
  intro Q hQ
  have h1 := h.1
  have h2 := h.2.1
  refine e_Q_undo (b_Q_undo_0 ?_)
  rw [h2]
  refine ⟨⟨by omega, by omega⟩, fun z => ?_, fun z => hQ _ _ (Or.inl ⟨by omega, rfl, rfl⟩)⟩
  refine (s_takeBack' (d := d + 1) h (by omega)).cal fun v3 M3 hM3 => ?_
  obtain ⟨f3, g1, g2, k3⟩ := hM3
  refine (s_forget (d := d)).cal fun v5 M5 hM5 => ?_
  obtain ⟨f5, g7, g8, g9⟩ := hM5
  have e117 : M5 117 = M3 117 := f5 117 (by decide)
  have k5 : CH M5 (u - 1) cnt row := k3.add (f5.mono (by simp)) fun s hs => by rw [e117]
  rw [show M5 117 2 = ((u - 1 : Nat) : Int) from k5.2.1]
  refine hQ _ _ (Or.inr ⟨by omega, (f3.mono (by simp)).tr (f5.mono (by simp)), rfl, by rw [e117, g1], fun i => ?_, fun s hs => ?_, ⟨g7, g9⟩, k5⟩)
  · rw [f5 94 (by decide)]; exact g2 i
  · rw [g8 s hs, f3 149 (by decide)]
theorem pd_R32 {v : Int} : ∀ (c : Nat) (f : Nat → Int) (n : Nat), (∀ i, R32 (f i)) → ∀ i, R32 (pd v c f n i)
  | 0, _, _, h, i => h i
  | c + 1, f, n, h, i => by
    refine pd_R32 c _ (n + 1) (fun j => ?_) i
    by_cases e : j = n
    · subst e; rw [sr_same]; exact ⟨by omega, by omega⟩
    · rw [sr_ne e]; exact h j
theorem pb_R32 {w : Int} : ∀ (k : Nat) (f : Nat → Int) (n : Nat), (∀ i, R32 (f i)) → ∀ i, R32 (pb w k f n i)
  | 0, _, _, h, i => h i
  | k + 1, f, n, h, i => by
    have hb := byt_r w k
    unfold pb
    by_cases e0 : byt w k = 0
    · rw [if_pos e0]; exact pb_R32 k _ n h i
    · rw [if_neg e0]
      refine pb_R32 k _ (n + 1) (fun j => ?_) i
      by_cases e : j = n
      · subst e; rw [sr_same]; exact ⟨by omega, by omega⟩
      · rw [sr_ne e]; exact h j
theorem s_Qfault {d : Nat} {M : Mem} {n : Nat} (hT : TP M n) : Post (d + 7) cQ_fault [oQ] M (fun v M' => Fr [92, 93] M M' ∧ M' 93 1 = M 93 1 ∧ ∃ y, pRun (M 91) n (M 92) y ∧ M' 92 = y.2.2.2 ∧ v = pFault n y) := by
  intro Q hQ
  refine e_Q_fault (b_Q_fault_0 ?_)
  refine (s_scan (d := d) hT).cal fun v M1 hM1 => ?_
  obtain ⟨f, h1, y, hy, _, h92, rfl⟩ := hM1
  exact hQ _ _ ⟨f, h1, y, hy, h92, rfl⟩