/-! come, clear, undo, read of the class; read of the reference. -/
/-- no play is kept -/
def NoPlay (M : Mem) : Prop := M 149 7 = 0 ∧ ∀ i, i < 6 → M 148 i = -1
/-- all that a change of jobs touches in the class -/
abbrev jcells : List Nat := [94, 95, 96, 97, 98, 99, 100, 101, 102, 103, 104, 105, 106, 107, 108, 109, 110, 111, 112, 113, 114, 115, 117, 148, 149]
theorem kcells_sub : ∀ a, a ∈ kcells → a ∈ jcells := by decide
theorem CH.fr {M M' : Mem} {u : Nat} {cnt : Nat → Int} {row : Nat → Nat → Int} (h : CH M u cnt row) (h2 : M' 117 2 = M 117 2) (h3 : M' 117 3 = M 117 3) (h95 : M' 95 = M 95) (hr : ∀ p, p < 20 → M' (96 + p) = M (96 + p)) : CH M' u cnt row := by
  obtain ⟨a1, a2, w, a3, a4, a5⟩ := h
  refine ⟨a1, by rw [h2]; exact a2, w, a3, by rw [h3]; exact a4, fun j hj => ?_⟩
  rw [h95, hr (rpos w u j) (Nat.mod_lt _ (by decide))]
  exact a5 j hj
theorem CH.add {M M' : Mem} {u : Nat} {cnt : Nat → Int} {row : Nat → Nat → Int} (h : CH M u cnt row) (f : Fr [94, 117, 148, 149] M M') (hs : ∀ s, s ≠ 0 → M' 117 s = M 117 s) : CH M' u cnt row := h.fr (hs 2 (by decide)) (hs 3 (by decide)) (f 95 (by decide)) fun p hp => f _ (by simp; omega)
theorem s_Qcome {d : Nat} {M : Mem} {n u : Nat} {cnt : Nat → Int} {row : Nat → Nat → Int} {a b c e : Int} (h : CH M u cnt row) (hn : M 117 0 = n) (hV : VJ n (M 94)) (ha : R32 a) (hb : R32 b) (hc : R32 c) (he : R32 e) :
    PostE (d + 3) cQ_come [oQ, .inl a, .inl b, .inl c, .inl e] M (fun r M' => (¬ jobOk a b c e ∧ r = .inr 2 ∧ M' = M) ∨ (jobOk a b c e ∧ ¬ comeOk n (M 94) a ∧ r = .inr 3 ∧ M' = M) ∨ (jobOk a b c e ∧ comeOk n (M 94) a ∧ Fr jcells M M' ∧ r = .inl (n : Int) ∧ M' 117 0 = ((n + 1 : Nat) : Int) ∧ M' 94 = add4 (M 94) n a b c e ∧ (∀ s, s ≠ 7 → M' 149 s = M 149 s) ∧ NoPlay M' ∧ CH M' (hlen u) (hcnt u cnt (n : Int)) (hcnt u row (M 94)))) := by
  intro Q hQ
  have h24 := hV.1
  refine e_Q_come (b_Q_come_0 ?_)
  refine (s_JinRange (d := d + 1) ha hb hc he).cal fun v1 M1 hM1 => ?_
  obtain ⟨rfl, ⟨rfl, hok⟩ | ⟨rfl, hok⟩⟩ := hM1
  · refine ⟨⟨by decide, by decide⟩, fun _ => ?_, fun z => absurd (by decide) z⟩
    refine (s_Jlatest (d := d) hn h24).cal fun v2 M2 hM2 => ?_
    obtain ⟨rfl, rfl⟩ := hM2
    rw [hn]
    have hv : R32 (if n = 0 then 0 else M2 94 (4 * (n - 1))) := by
      by_cases e0 : n = 0
      · rw [if_pos e0]; exact ⟨by decide, by decide⟩
      · rw [if_neg e0]
        have := (hV.2.1 (n - 1) (by omega)).1
        exact ⟨by omega, by omega⟩
    have hiff : comeOk n (M2 94) a ↔ n < 24 ∧ (if n = 0 then 0 else M2 94 (4 * (n - 1))) ≤ a := by
      unfold comeOk
      by_cases e0 : n = 0
      · rw [if_pos e0]
        have := hok.1
        omega
      · rw [if_neg e0]; omega
    refine ⟨ha, hv, fun h1 => hQ _ _ (Or.inr (Or.inl ⟨hok, fun z => by have := (hiff.mp z).2; omega, rfl, rfl⟩)), fun h1 => ⟨⟨by omega, by omega⟩, fun h2 => ?_, fun h2 => hQ _ _ (Or.inr (Or.inl ⟨hok, fun z => by have := (hiff.mp z).1; omega, rfl, rfl⟩))⟩⟩
    refine (s_remember (d := d + 1) h).cal fun v3 M3 hM3 => ?_
    obtain ⟨f3, g3, k3⟩ := hM3
    refine (s_Jadd (d := d + 1) (n := n) (g3.trans hn) (by omega)).cal fun v4 M4 hM4 => ?_
    obtain ⟨f4, g4, g5, g6⟩ := hM4
    refine (s_forget (d := d)).cal fun v5 M5 hM5 => ?_
    obtain ⟨f5, g7, g8, g9⟩ := hM5
    have e117 : M5 117 = M4 117 := f5 117 (by decide)
    rw [show M5 117 0 - 1 = (n : Int) by rw [e117, g5]; omega]
    refine hQ _ _ (Or.inr (Or.inr ⟨hok, hiff.mpr ⟨by omega, by omega⟩, ?_, rfl, by rw [e117, g5], ?_, fun s hs => ?_, ⟨g7, g9⟩, ?_⟩))
    · exact ((f3.mono kcells_sub).tr (f4.mono (by simp))).tr (f5.mono (by simp))
    · rw [f5 94 (by decide), g4, f3 94 (by decide)]
    · rw [g8 s hs, f4 149 (by decide), f3 149 (by decide)]
    · rw [hn] at k3
      exact k3.add ((f4.mono (by simp)).tr (f5.mono (by simp))) fun s hs => by rw [e117, g6 s hs]
  · exact ⟨⟨by decide, by decide⟩, fun z => absurd rfl z, fun _ => hQ _ _ (Or.inl ⟨hok, rfl, rfl⟩)⟩
theorem s_Qclear {d : Nat} {M : Mem} {u : Nat} {cnt : Nat → Int} {row : Nat → Nat → Int} (h : CH M u cnt row) :
    Post (d + 3) cQ_clear [oQ] M (fun v M' => Fr jcells M M' ∧ M' 94 = M 94 ∧ v = M 117 0 ∧ M' 117 0 = 0 ∧ (∀ s, s ≠ 7 → M' 149 s = M 149 s) ∧ NoPlay M' ∧ CH M' (hlen u) (hcnt u cnt (M 117 0)) (hcnt u row (M 94))) := by
  intro Q hQ
  refine e_Q_clear (b_Q_clear_0 ?_)
  refine (s_remember (d := d + 1) h).cal fun v3 M3 hM3 => ?_
  obtain ⟨f3, g3, k3⟩ := hM3
  refine (s_forget (d := d)).cal fun v5 M5 hM5 => ?_
  obtain ⟨f5, g7, g8, g9⟩ := hM5
  have e117 : M5 117 = upd2 M3 117 0 0 117 := f5 117 (by decide)
  have f4 : Fr [117] M3 (upd2 M3 117 0 0) := Fr.rfl'.u2 (by simp)
  refine hQ _ _ ⟨((f3.mono kcells_sub).tr (f4.mono (by simp))).tr (f5.mono (by simp)), ?_, rfl, by rw [e117, u2_same], fun s hs => ?_, ⟨g7, g9⟩, ?_⟩
  · rw [f5 94 (by decide), f4 94 (by decide), f3 94 (by decide)]
  · rw [g8 s hs, f4 149 (by decide), f3 149 (by decide)]
  · exact k3.add ((f4.mono (by simp)).tr (f5.mono (by simp))) fun s hs => by rw [e117, u2_ne hs]
theorem s_Qundo {d : Nat} {M : Mem} {u : Nat} {cnt : Nat → Int} {row : Nat → Nat → Int} (h : CH M u cnt row) :
    PostE (d + 3) cQ_undo [oQ] M (fun r M' => (u = 0 ∧ r = .inr 5 ∧ M' = M) ∨ (0 < u ∧ Fr jcells M M' ∧ r = .inl ((u - 1 : Nat) : Int) ∧ M' 117 0 = cnt (u - 1) ∧ (∀ i, i < 96 → M' 94 i = row (u - 1) i) ∧ (∀ s, s ≠ 7 → M' 149 s = M 149 s) ∧ NoPlay M' ∧ CH M' (u - 1) cnt row)) := by
  intro Q hQ
  have h1 := h.1
  have h2 := h.2.1
  refine e_Q_undo (b_Q_undo_0 ?_)
  rw [h2]
  refine ⟨⟨by omega, by omega⟩, fun z => ?_, fun z => hQ _ _ (Or.inl ⟨by omega, rfl, rfl⟩)⟩
  refine (s_takeBack (d := d + 1) h (by omega)).cal fun v3 M3 hM3 => ?_
  obtain ⟨f3, g1, g2, k3⟩ := hM3
  refine (s_forget (d := d)).cal fun v5 M5 hM5 => ?_
  obtain ⟨f5, g7, g8, g9⟩ := hM5
  have e117 : M5 117 = M3 117 := f5 117 (by decide)
  have k5 : CH M5 (u - 1) cnt row := k3.add (f5.mono (by simp)) fun s hs => by rw [e117]
  rw [show M5 117 2 = ((u - 1 : Nat) : Int) from k5.2.1]
  refine hQ _ _ (Or.inr ⟨by omega, (f3.mono (by simp)).tr (f5.mono (by simp)), rfl, by rw [e117, g1], fun i hi => ?_, fun s hs => ?_, ⟨g7, g9⟩, k5⟩)
  · rw [f5 94 (by decide)]; exact g2 i hi
  · rw [g8 s hs, f3 149 (by decide)]
theorem s_Ttold {d : Nat} {M : Mem} {k p : Nat} (hk : k < 90) (hp : p < 4) : Post (d + 1) cT_told [oT, .inl (k : Int), .inl (p : Int)] M (fun v M' => M' = M ∧ v = M 92 (4 * k + p)) := by
  intro Q hQ
  refine e_T_told (b_T_told_0 ?_)
  rw [show ((k : Int) * 4 + (p : Int)).toNat = 4 * k + p by omega]
  exact ⟨⟨by omega, by omega⟩, fun h => absurd h (by omega), fun _ => ⟨fun _ => ⟨⟨by omega, by omega⟩, hQ _ _ ⟨rfl, rfl⟩⟩, fun h => absurd (by omega) h⟩⟩
/-- all that are told are in range -/
def allOk (T : Nat → Int) (c : Nat) : Prop := ∀ k, k < c → jobOk (T (4 * k)) (T (4 * k + 1)) (T (4 * k + 2)) (T (4 * k + 3))
theorem air_loop {d : Nat} {Q : Rs → Mem → Prop} {M : Mem} {c : Nat} (hc : M 93 2 = c) (h90 : c ≤ 90) (hR : ∀ i, R32 (M 92 i)) (h1 : allOk (M 92) c → Q (.inl 1) M) (h0 : ¬ allOk (M 92) c → Q (.inl 0) M) : ∀ (m k : Nat), k + m = c → (∀ j, j < k → jobOk (M 92 (4 * j)) (M 92 (4 * j + 1)) (M 92 (4 * j + 2)) (M 92 (4 * j + 3))) → L_T_areNumbersInRange_2 (d + 1) Q M (k : Int)
  | m, k, hk, hj => by
    refine b_T_areNumbersInRange_2 ?_
    rw [hc]
    refine ⟨⟨by omega, by omega⟩, ⟨by omega, by omega⟩, fun z => ?_, fun z => ?_⟩
    · have e : k = c := by omega
      subst e
      exact h1 hj
    · refine (s_Ttold (d := d) (p := 0) (k := k) (by omega) (by decide)).cal fun v1 M1 hM1 => ?_
      obtain ⟨rfl, rfl⟩ := hM1
      refine (s_Ttold (d := d) (p := 1) (k := k) (by omega) (by decide)).cal fun v1 M1 hM1 => ?_
      obtain ⟨rfl, rfl⟩ := hM1
      refine (s_Ttold (d := d) (p := 2) (k := k) (by omega) (by decide)).cal fun v1 M1 hM1 => ?_
      obtain ⟨rfl, rfl⟩ := hM1
      refine (s_Ttold (d := d) (p := 3) (k := k) (by omega) (by decide)).cal fun v1 M1 hM1 => ?_
      obtain ⟨rfl, rfl⟩ := hM1
      refine (s_JinRange (d := d) (hR _) (hR _) (hR _) (hR _)).cal fun v1 M1 hM1 => ?_
      obtain ⟨rfl, ⟨rfl, hok⟩ | ⟨rfl, hok⟩⟩ := hM1
      · refine ⟨⟨by decide, by decide⟩, fun _ => ?_, fun z => absurd (by decide) z⟩
        cases m with
        | zero => omega
        | succ m =>
          exact air_loop hc h90 hR h1 h0 m (k + 1) (by omega) fun j hj' => by
            by_cases e : j = k
            · subst e; exact hok
            · exact hj j (by omega)
      · exact ⟨⟨by decide, by decide⟩, fun z => absurd rfl z, fun _ => h0 fun z => hok (z k (by omega))⟩
theorem s_areInRange {d : Nat} {M : Mem} {c : Nat} (hc : M 93 2 = c) (h90 : c ≤ 90) (hR : ∀ i, R32 (M 92 i)) : Post (d + 2) cT_areNumbersInRange [oT] M (fun v M' => M' = M ∧ ((v = 1 ∧ allOk (M 92) c) ∨ (v = 0 ∧ ¬ allOk (M 92) c))) := fun Q hQ => e_T_areNumbersInRange (b_T_areNumbersInRange_0 (air_loop (d := d) hc h90 hR (fun z => hQ _ _ ⟨rfl, Or.inl ⟨rfl, z⟩⟩) (fun z => hQ _ _ ⟨rfl, Or.inr ⟨rfl, z⟩⟩) c 0 (by omega) fun j hj => absurd hj (by omega)))
/-- none comes earlier than the one ahead -/
def inOrder (l : Int) (T : Nat → Int) (c : Nat) : Prop := ∀ k, k < c → (if k = 0 then l else T (4 * (k - 1))) ≤ T (4 * k)
/-- the jobs, with those told behind them -/
def addT (f : Nat → Int) (n : Nat) (T : Nat → Int) : Nat → (Nat → Int)
  | 0 => f
  | c + 1 => add4 (addT f n T c) (n + c) (T (4 * c)) (T (4 * c + 1)) (T (4 * c + 2)) (T (4 * c + 3))
theorem rd_50 {d : Nat} {Q : Rs → Mem → Prop} {M0 : Mem} {n c : Nat} (hc : M0 93 2 = c) (hn : M0 117 0 = n) (h24 : n + c ≤ 24)
    (hQ : ∀ M', Fr [94, 117, 148, 149] M0 M' → M' 94 = addT (M0 94) n (M0 92) c → M' 117 0 = ((n + c : Nat) : Int) → (∀ s, s ≠ 0 → M' 117 s = M0 117 s) → (∀ s, s ≠ 7 → M' 149 s = M0 149 s) → NoPlay M' → Q (.inl ((n + c : Nat) : Int)) M') :
    ∀ (m k : Nat) (M : Mem) (o1 o3 : Option PV), k + m = c → Fr [94, 117] M0 M → M 94 = addT (M0 94) n (M0 92) k → M 117 0 = ((n + k : Nat) : Int) → (∀ s, s ≠ 0 → M 117 s = M0 117 s) → L_Q_read_50 (d + 2) Q M o1 (k : Int) o3
  | m, k, M, o1, o3, hk, hf, h94, h0, hs => by
    have ec : M 93 2 = c := by rw [hf 93 (by decide)]; exact hc
    refine b_Q_read_50 ?_
    rw [ec]
    refine ⟨⟨by omega, by omega⟩, ⟨by omega, by omega⟩, fun z => ?_, fun z => ?_⟩
    · have e : k = c := by omega
      subst e
      refine (s_forget (d := d)).cal fun v5 M5 hM5 => ?_
      obtain ⟨f5, g7, g8, g9⟩ := hM5
      have e117 : M5 117 = M 117 := f5 117 (by decide)
      rw [show M5 117 0 = ((n + k : Nat) : Int) by rw [e117, h0]]
      refine hQ _ ((hf.mono (by simp)).tr (f5.mono (by simp))) ?_ (by rw [e117, h0]) (fun s h => by rw [e117]; exact hs s h) (fun s h => ?_) ⟨g7, g9⟩
      · rw [f5 94 (by decide)]; exact h94
      · rw [g8 s h, hf 149 (by decide)]
    · refine (s_Ttold (d := d + 1) (p := 0) (k := k) (by omega) (by decide)).cal fun v1 M1 hM1 => ?_
      obtain ⟨rfl, rfl⟩ := hM1
      refine (s_Ttold (d := d + 1) (p := 1) (k := k) (by omega) (by decide)).cal fun v1 M1 hM1 => ?_
      obtain ⟨rfl, rfl⟩ := hM1
      refine (s_Ttold (d := d + 1) (p := 2) (k := k) (by omega) (by decide)).cal fun v1 M1 hM1 => ?_
      obtain ⟨rfl, rfl⟩ := hM1
      refine (s_Ttold (d := d + 1) (p := 3) (k := k) (by omega) (by decide)).cal fun v1 M1 hM1 => ?_
      obtain ⟨rfl, rfl⟩ := hM1
      refine (s_Jadd (d := d + 1) (n := n + k) h0 (by omega)).cal fun v4 M4 hM4 => ?_
      obtain ⟨f4, g4, g5, g6⟩ := hM4
      cases m with
      | zero => omega
      | succ m =>
        refine rd_50 hc hn h24 hQ m (k + 1) M4 _ _ (by omega) (hf.tr f4) ?_ g5 (fun s h => (g6 s h).trans (hs s h))
        rw [g4, h94, hf 92 (by decide)]
        rfl
theorem rd_16 {d : Nat} {Q : Rs → Mem → Prop} {M : Mem} {n c u : Nat} {cnt : Nat → Int} {row : Nat → Nat → Int} (h : CH M u cnt row) (hc : M 93 2 = c) (hn : M 117 0 = n) (h24 : n ≤ 24) (h90 : c ≤ 90) (hR : ∀ i, R32 (M 92 i)) {l : Int} (hl : R32 l)
    (hno : ¬ (inOrder l (M 92) c ∧ n + c ≤ 24) → Q (.inr 3) M)
    (hQ : inOrder l (M 92) c → n + c ≤ 24 → ∀ M', Fr jcells M M' → M' 94 = addT (M 94) n (M 92) c → M' 117 0 = ((n + c : Nat) : Int) → (∀ s, s ≠ 7 → M' 149 s = M 149 s) → NoPlay M' → CH M' (hlen u) (hcnt u cnt (n : Int)) (hcnt u row (M 94)) → Q (.inl ((n + c : Nat) : Int)) M') :
    ∀ (m k : Nat) (o3 : Option PV), k + m = c → (∀ j, j < k → (if j = 0 then l else M 92 (4 * (j - 1))) ≤ M 92 (4 * j)) → L_Q_read_16 (d + 3) Q M (if k = 0 then l else M 92 (4 * (k - 1))) (k : Int) o3
  | m, k, o3, hk, hj => by
    have hlk : R32 (if k = 0 then l else M 92 (4 * (k - 1))) := by
      by_cases e : k = 0
      · rw [if_pos e]; exact hl
      · rw [if_neg e]; exact hR _
    refine b_Q_read_16 ?_
    rw [hc, hn]
    refine ⟨⟨by omega, by omega⟩, ⟨by omega, by omega⟩, fun z => ⟨⟨by omega, by omega⟩, fun z2 => ?_, fun z2 => hno fun y => z2 (by have := y.2; omega)⟩, fun z => ?_⟩
    · have e : k = c := by omega
      subst e
      refine (s_remember (d := d + 2) h).cal fun v3 M3 hM3 => ?_
      obtain ⟨f3, g3, k3⟩ := hM3
      have e92 : M3 92 = M 92 := f3 92 (by decide)
      have e94 : M3 94 = M 94 := f3 94 (by decide)
      refine rd_50 (d := d + 1) (M0 := M3) (n := n) (c := k) (by rw [f3 93 (by decide)]; exact hc) (g3.trans hn) (by omega) (fun M' m1 m2 m3 m4 m5 m6 => ?_) k 0 M3 _ _ (by omega) Fr.rfl' rfl (by rw [g3, hn]; rfl) (fun _ _ => rfl)
      refine hQ hj (by omega) M' ((f3.mono kcells_sub).tr (m1.mono (by simp))) (by rw [m2, e92, e94]) m3 (fun s hs => by rw [m5 s hs, f3 149 (by decide)]) m6 ?_
      rw [hn] at k3
      exact k3.add m1 m4
    · refine (s_Ttold (d := d + 2) (p := 0) (k := k) (by omega) (by decide)).cal fun v1 M1 hM1 => ?_
      obtain ⟨rfl, rfl⟩ := hM1
      refine ⟨hR _, hlk, fun z2 => ?_, fun z2 => hno fun y => z2 (y.1 k (by omega))⟩
      cases m with
      | zero => omega
      | succ m =>
        have := rd_16 (d := d) h hc hn h24 h90 hR hl hno hQ m (k + 1) (some (.inl (M1 92 (4 * k + 0)))) (by omega) fun j hj' => by
          by_cases e : j = k
          · subst e; exact z2
          · exact hj j (by omega)
        rw [if_neg (by omega), Nat.add_sub_cancel] at this
        exact this
/-- what read() does on the class's side -/
theorem s_Qread {d : Nat} {M : Mem} {N n u : Nat} {cnt : Nat → Int} {row : Nat → Nat → Int} (hT : TP M N) (h : CH M u cnt row) (hn : M 117 0 = n) (hV : VJ n (M 94)) (hR0 : ∀ i, R32 (M 92 i)) :
    PostE (d + 7) cQ_read [oQ] M (fun r M' => ∃ y, pRun (M 91) N (M 92) y ∧ Fr (92 :: 93 :: jcells) M M' ∧ M' 93 1 = M 93 1 ∧ M' 92 = y.2.2.2 ∧
      ((¬ (pFault N y = -1 ∧ allOk y.2.2.2 y.2.2.1) ∧ r = .inr 2 ∧ Fr [92, 93] M M') ∨
       ((pFault N y = -1 ∧ allOk y.2.2.2 y.2.2.1) ∧ ¬ (inOrder (if n = 0 then 0 else M 94 (4 * (n - 1))) y.2.2.2 y.2.2.1 ∧ n + y.2.2.1 ≤ 24) ∧ r = .inr 3 ∧ Fr [92, 93] M M') ∨
       ((pFault N y = -1 ∧ allOk y.2.2.2 y.2.2.1) ∧ (inOrder (if n = 0 then 0 else M 94 (4 * (n - 1))) y.2.2.2 y.2.2.1 ∧ n + y.2.2.1 ≤ 24) ∧ r = .inl ((n + y.2.2.1 : Nat) : Int) ∧ M' 94 = addT (M 94) n y.2.2.2 y.2.2.1 ∧ M' 117 0 = ((n + y.2.2.1 : Nat) : Int) ∧ (∀ s, s ≠ 7 → M' 149 s = M 149 s) ∧ NoPlay M' ∧ CH M' (hlen u) (hcnt u cnt (n : Int)) (hcnt u row (M 94))))) := by
  intro Q hQ
  have h9 := hT.2.1
  have h24 := hV.1
  refine e_Q_read (b_Q_read_0 ?_)
  refine (s_scan (d := d) hT).cal fun v1 M1 hM1 => ?_
  obtain ⟨f1, l1, y, hy, hc, hT', rfl⟩ := hM1
  obtain ⟨hys, hR, hc9, -⟩ := pRun_ok hy hR0
  have sub2 : ∀ a, a ∈ [92, 93] → a ∈ 92 :: 93 :: jcells := by simp
  have hpf : R32 (pFault N y) := by
    have := pFault_r hys h9
    exact ⟨by omega, by omega⟩
  refine ⟨hpf, fun z => hQ _ _ ⟨y, hy, f1.mono sub2, l1, hT', Or.inl ⟨fun q => z q.1, rfl, f1⟩⟩, fun z => ?_⟩
  have zf : pFault N y = -1 := Classical.not_not.mp z
  have hc9 := hc9 zf
  refine (s_areInRange (d := d + 4) hc (by omega) (by rw [hT']; exact hR)).cal fun v2 M2 hM2 => ?_
  obtain ⟨rfl, ⟨rfl, hok⟩ | ⟨rfl, hok⟩⟩ := hM2
  · rw [hT'] at hok
    have e94 : M2 94 = M 94 := f1 94 (by decide)
    have hn2 : M2 117 0 = n := by rw [f1 117 (by decide)]; exact hn
    refine ⟨⟨by decide, by decide⟩, fun _ => ?_, fun z => absurd (by decide) z⟩
    refine (s_Jlatest (d := d + 4) hn2 h24).cal fun v3 M3 hM3 => ?_
    obtain ⟨rfl, rfl⟩ := hM3
    have h2 : CH M3 u cnt row := h.fr (by rw [f1 117 (by decide)]) (by rw [f1 117 (by decide)]) (f1 95 (by decide)) fun p hp => f1 _ (by simp; omega)
    have hl : R32 (if n = 0 then 0 else M3 94 (4 * (n - 1))) := by
      by_cases e0 : n = 0
      · rw [if_pos e0]; exact ⟨by decide, by decide⟩
      · rw [if_neg e0, e94]
        have := (hV.2.1 (n - 1) (by omega)).1
        exact ⟨by omega, by omega⟩
    have := rd_16 (d := d + 3) (Q := Q) h2 hc hn2 h24 (by omega) (by rw [hT']; exact hR) hl (fun q => ?_) (fun q1 q2 M' m1 m2 m3 m4 m5 m6 => ?_) y.2.2.1 0 none (by omega) (fun j hj => absurd hj (by omega))
    · rw [if_pos rfl] at this
      exact this
    · rw [hT', e94] at q
      exact hQ _ _ ⟨y, hy, f1.mono sub2, l1, hT', Or.inr (Or.inl ⟨⟨zf, hok⟩, q, rfl, f1⟩)⟩
    · rw [hT', e94] at q1
      rw [hT', e94] at m2
      rw [e94] at m6
      refine hQ _ _ ⟨y, hy, (f1.mono sub2).tr (m1.mono (fun a ha => List.mem_cons_of_mem _ (List.mem_cons_of_mem _ ha))), ?_, ?_, Or.inr (Or.inr ⟨⟨zf, hok⟩, ⟨q1, q2⟩, rfl, m2, m3, fun s hs => ?_, m5, m6⟩)⟩
      · rw [m1 93 (by decide)]; exact l1
      · rw [m1 92 (by decide)]; exact hT'
      · rw [m4 s hs, f1 149 (by decide)]
  · rw [hT'] at hok
    exact ⟨⟨by decide, by decide⟩, fun z => absurd rfl z, fun _ => hQ _ _ ⟨y, hy, f1.mono sub2, l1, hT', Or.inl ⟨fun q => hok q.2, rfl, f1⟩⟩⟩
