/-! The reference's jobs. -/
/-- nothing of the reference but these cells and these slots of the object has changed -/
def FC (cs ss : List Nat) (M M' : Mem) : Prop := (∀ a, a ≠ 175 → a ∉ cs → M' a = M a) ∧ ∀ s, s ∉ ss → M' 175 s = M 175 s
theorem FC.rfl' {cs ss : List Nat} {M : Mem} : FC cs ss M M := ⟨fun _ _ _ => rfl, fun _ _ => rfl⟩
theorem FC.tr {cs ss : List Nat} {M M' M'' : Mem} (h : FC cs ss M M') (h2 : FC cs ss M' M'') : FC cs ss M M'' := ⟨fun a q1 q2 => (h2.1 a q1 q2).trans (h.1 a q1 q2), fun s q => (h2.2 s q).trans (h.2 s q)⟩
theorem FC.mono {cs ss cs' ss' : List Nat} {M M' : Mem} (h : FC cs ss M M') (h1 : ∀ a, a ∈ cs → a ∈ cs') (h2 : ∀ a, a ∈ ss → a ∈ ss') : FC cs' ss' M M' := ⟨fun a q1 q2 => h.1 a q1 fun z => q2 (h1 a z), fun s q => h.2 s fun z => q (h2 s z)⟩
theorem FC.u2 {cs ss : List Nat} {M M' : Mem} {a k : Nat} {v : Int} (h : FC cs ss M M') (h1 : a ∈ cs) (h2 : a ≠ 175) : FC cs ss M (upd2 M' a k v) := ⟨fun b q1 q2 => by rw [u2_off (fun e => q2 (by rw [e]; exact h1))]; exact h.1 b q1 q2, fun s q => by rw [u2_off (Ne.symm h2)]; exact h.2 s q⟩
theorem FC.slot {cs ss : List Nat} {M M' : Mem} {s : Nat} {v : Int} (h : FC cs ss M M') (h1 : s ∈ ss) : FC cs ss M (upd2 M' 175 s v) := ⟨fun b q1 q2 => by rw [u2_off q1]; exact h.1 b q1 q2, fun r q => by rw [u2_ne (fun e => q (by rw [e]; exact h1))]; exact h.2 r q⟩
theorem FC.fm {cs ss : List Nat} {M M' : Mem} (h : FC cs ss M M') (h3 : 163 ∉ cs) (h4 : 164 ∉ cs) (h5 : 165 ∉ cs) : FM cs ss [] M M' := ⟨fun a _ _ _ q1 q2 => h.1 a q1 q2, h.2, fun f _ _ q hq => hq.off (h.1 _ (by decide) h3) (h.1 _ (by decide) h4) (h.1 _ (by decide) h5)⟩
theorem FT.fc {M M' : Mem} (h : FT M M') : FC [166] [31, 32] M M' := ⟨fun a q1 q2 => h.1 a q1 (by simpa using q2), fun s q => h.2 s (by simp at q; omega) (by simp at q; omega)⟩
theorem s_isJob {d : Nat} {M : Mem} {a b c e : Int} (ha : R32 a) (hb : R32 b) (hc : R32 c) (he : R32 e) : Post (d + 2) cM_isJob [.inl a, .inl b, .inl c, .inl e] M (fun v M' => M' = M ∧ ((v = 1 ∧ jobOk a b c e) ∨ (v = 0 ∧ ¬ jobOk a b c e))) := by
  intro Q hQ
  have no : ¬ jobOk a b c e → Q (.inl 0) M := fun h => hQ _ _ ⟨rfl, Or.inr ⟨rfl, h⟩⟩
  have yes : jobOk a b c e → Q (.inl 1) M := fun h => hQ _ _ ⟨rfl, Or.inl ⟨rfl, h⟩⟩
  unfold jobOk at no yes
  have R : ∀ x : Int, 0 ≤ x → x ≤ 500 → R32 x := fun x h1 h2 => ⟨by omega, by omega⟩
  refine e_M_isJob (b_M_isJob_0 ?_)
  refine (s_in (d := d) ha (R _ (by decide) (by decide)) (R _ (by decide) (by decide))).cal fun v1 M1 hM1 => ?_
  obtain ⟨rfl, ⟨rfl, g1, g2⟩ | ⟨rfl, g1⟩⟩ := hM1
  · refine ⟨⟨by decide, by decide⟩, fun z => absurd z (by decide), fun _ => ?_⟩
    refine (s_in (d := d) hb (R _ (by decide) (by decide)) (R _ (by decide) (by decide))).cal fun v1 M1 hM1 => ?_
    obtain ⟨rfl, ⟨rfl, g3, g4⟩ | ⟨rfl, g3⟩⟩ := hM1
    · refine ⟨⟨by decide, by decide⟩, fun z => absurd z (by decide), fun _ => ?_⟩
      refine (s_in (d := d) hc (R _ (by decide) (by decide)) (R _ (by decide) (by decide))).cal fun v1 M1 hM1 => ?_
      obtain ⟨rfl, ⟨rfl, g5, g6⟩ | ⟨rfl, g5⟩⟩ := hM1
      · refine ⟨⟨by decide, by decide⟩, fun z => absurd z (by decide), fun _ => ?_⟩
        refine (s_in (d := d) he (R _ (by decide) (by decide)) (R _ (by decide) (by decide))).cal fun v1 M1 hM1 => ?_
        obtain ⟨rfl, ⟨rfl, g7, g8⟩ | ⟨rfl, g7⟩⟩ := hM1
        · exact ⟨⟨by decide, by decide⟩, fun z => absurd z (by decide), fun _ => yes ⟨⟨g1, g2⟩, ⟨g3, g4⟩, ⟨g5, g6⟩, g7, g8⟩⟩
        · exact ⟨⟨by decide, by decide⟩, fun _ => no (by omega), fun z => absurd rfl z⟩
      · exact ⟨⟨by decide, by decide⟩, fun _ => no (by omega), fun z => absurd rfl z⟩
    · exact ⟨⟨by decide, by decide⟩, fun _ => no (by omega), fun z => absurd rfl z⟩
  · exact ⟨⟨by decide, by decide⟩, fun _ => no (by omega), fun z => absurd rfl z⟩
/-- the reference's kept changes -/
def RH (M : Mem) (u : Nat) (cnt : Nat → Int) (row : Nat → Nat → Int) : Prop := u ≤ 20 ∧ M 175 7 = u ∧ ∀ j, j < u → M 153 j = cnt j ∧ ∀ i, i < 96 → M 152 (96 * j + i) = row j i
theorem keeps_50 {d : Nat} {Q : Rs → Mem → Prop} {M0 : Mem} {v : Nat} (hv : v < 20) (h7 : M0 175 7 = v)
    (hQ : ∀ M', FC [152, 153] [7] M0 M' → M' 175 7 = ((v + 1 : Nat) : Int) → (∀ i, M' 153 i = if i = v then M0 175 6 else M0 153 i) → (∀ i, M' 152 i = if 96 * v ≤ i ∧ i < 96 * v + 96 then M0 151 (i - 96 * v) else M0 152 i) → Q (.inl 0) M') :
    ∀ (k i : Nat) (M : Mem), i + k = 96 → FC [152] [] M0 M → (∀ j, M 152 j = if 96 * v ≤ j ∧ j < 96 * v + i then M0 151 (j - 96 * v) else M0 152 j) → L_M_keeps_50 d Q M (i : Int)
  | k, i, M, hk, hf, hr => by
    have e7 : M 175 7 = v := by rw [hf.2 7 (by simp)]; exact h7
    have e6 : M 175 6 = M0 175 6 := hf.2 6 (by simp)
    refine b_M_keeps_50 ?_
    rw [e7, e6, Int.toNat_natCast, Int.toNat_natCast, show (96 * (v : Int) + (i : Int)).toNat = 96 * v + i by omega, hf.1 151 (by decide) (by decide)]
    refine ⟨⟨by omega, by omega⟩, fun h => ⟨⟨by omega, by omega⟩, ?_⟩, fun h => ⟨⟨by omega, by omega⟩, ⟨by omega, by omega⟩, ?_⟩⟩
    · have ei : i = 96 := by omega
      subst ei
      refine hQ _ (((hf.mono (by simp) (by simp)).u2 (by simp) (by decide)).slot (by simp)) (by rw [u2_same]; omega) (fun j => ?_) fun j => ?_
      · rw [u2_off (by decide), u2_row]
        by_cases e : j = v
        · subst e; rw [sr_same, if_pos rfl]
        · rw [sr_ne e, if_neg e, hf.1 153 (by decide) (by decide)]
      · rw [u2_off (by decide), u2_off (by decide)]; exact hr j
    · cases k with
      | zero => omega
      | succ k =>
        refine keeps_50 hv h7 hQ k (i + 1) _ (by omega) (hf.u2 (by simp) (by decide)) fun j => ?_
        rw [u2_row]
        by_cases e : j = 96 * v + i
        · subst e
          rw [sr_same, if_pos ⟨by omega, by omega⟩, show 96 * v + i - 96 * v = i by omega]
        · rw [sr_ne e, hr j]
          by_cases q : 96 * v ≤ j ∧ j < 96 * v + i
          · rw [if_pos q, if_pos ⟨q.1, by omega⟩]
          · rw [if_neg q, if_neg fun z => q ⟨z.1, by omega⟩]
theorem keeps_32 {d : Nat} {Q : Rs → Mem → Prop} {M0 : Mem} (h7 : M0 175 7 = 19)
    (hQ : ∀ M', FC [153] [] M0 M' → (∀ j, M' 153 j = if j < 19 then M0 153 (j + 1) else M0 153 j) → L_M_keeps_50 d Q M' 0) :
    ∀ (k i : Nat) (M : Mem), i + k = 19 → FC [153] [] M0 M → (∀ j, M 153 j = if j < i then M0 153 (j + 1) else M0 153 j) → L_M_keeps_32 d Q M (i : Int)
  | k, i, M, hk, hf, hr => by
    have e7 : M 175 7 = 19 := by rw [hf.2 7 (by simp)]; exact h7
    refine b_M_keeps_32 ?_
    rw [e7, show ((i : Int) + 1).toNat = i + 1 by omega, Int.toNat_natCast, hr (i + 1), if_neg (by omega)]
    refine ⟨⟨by omega, by omega⟩, ⟨by omega, by omega⟩, fun h => ?_, fun h => ⟨⟨by omega, by omega⟩, ⟨by omega, by omega⟩, ?_⟩⟩
    · have ei : i = 19 := by omega
      subst ei
      exact hQ M hf hr
    · cases k with
      | zero => omega
      | succ k =>
        refine keeps_32 h7 hQ k (i + 1) _ (by omega) (hf.u2 (by simp) (by decide)) fun j => ?_
        rw [u2_row]
        by_cases e : j = i
        · subst e
          rw [sr_same, if_pos (by omega)]
        · rw [sr_ne e, hr j]
          by_cases q : j < i
          · rw [if_pos q, if_pos (by omega)]
          · rw [if_neg q, if_neg (by omega)]
theorem keeps_12 {d : Nat} {Q : Rs → Mem → Prop} {M0 : Mem} (h7 : M0 175 7 = 19)
    (hQ : ∀ M', FC [152] [] M0 M' → (∀ j, M' 152 j = if j < 1824 then M0 152 (j + 96) else M0 152 j) → L_M_keeps_32 d Q M' 0) :
    ∀ (k i : Nat) (M : Mem), i + k = 1824 → FC [152] [] M0 M → (∀ j, M 152 j = if j < i then M0 152 (j + 96) else M0 152 j) → L_M_keeps_12 d Q M (i : Int)
  | k, i, M, hk, hf, hr => by
    have e7 : M 175 7 = 19 := by rw [hf.2 7 (by simp)]; exact h7
    refine b_M_keeps_12 ?_
    rw [e7, show ((i : Int) + 96).toNat = i + 96 by omega, Int.toNat_natCast, hr (i + 96), if_neg (by omega)]
    refine ⟨⟨by omega, by omega⟩, ⟨by omega, by omega⟩, fun h => ?_, fun h => ⟨⟨by omega, by omega⟩, ⟨by omega, by omega⟩, ?_⟩⟩
    · have ei : i = 1824 := by omega
      subst ei
      exact hQ M hf hr
    · cases k with
      | zero => omega
      | succ k =>
        refine keeps_12 h7 hQ k (i + 1) _ (by omega) (hf.u2 (by simp) (by decide)) fun j => ?_
        rw [u2_row]
        by_cases e : j = i
        · subst e
          rw [sr_same, if_pos (by omega)]
        · rw [sr_ne e, hr j]
          by_cases q : j < i
          · rw [if_pos q, if_pos (by omega)]
          · rw [if_neg q, if_neg (by omega)]
theorem s_keeps {d : Nat} {M : Mem} {u : Nat} {cnt : Nat → Int} {row : Nat → Nat → Int} (h : RH M u cnt row) : Post (d + 1) cM_keeps [oM] M (fun _ M' => FC [152, 153] [7] M M' ∧ RH M' (hlen u) (hcnt u cnt (M 175 6)) (hcnt u row (M 151))) := by
  intro Q hQ
  obtain ⟨hu, h7, hh⟩ := h
  refine e_M_keeps (b_M_keeps_0 ?_)
  rw [h7]
  unfold hlen hcnt at hQ
  refine ⟨⟨by omega, by omega⟩, fun h => ?_, fun h => ?_⟩
  · have e : u ≠ 20 := by omega
    simp only [if_neg e] at hQ
    refine keeps_50 (M0 := M) (v := u) (by omega) h7 (fun M' f1 f2 f3 f4 => hQ 0 M' ⟨f1, by omega, f2, fun j hj => ?_⟩) 96 0 M rfl FC.rfl' fun j => by rw [if_neg (by omega)]
    by_cases ej : j = u
    · subst ej
      simp only [if_true]
      refine ⟨by rw [f3, if_pos rfl], fun i hi => ?_⟩
      rw [f4, if_pos ⟨by omega, by omega⟩, show 96 * j + i - 96 * j = i by omega]
    · simp only [if_neg ej]
      obtain ⟨k1, k2⟩ := hh j (by omega)
      refine ⟨by rw [f3, if_neg ej]; exact k1, fun i hi => ?_⟩
      rw [f4, if_neg (by omega)]
      exact k2 i hi
  · have e : u = 20 := by omega
    subst e
    simp only [if_true] at hQ
    have F0 : FC [] [7] M (upd2 M 175 7 (((20 : Nat) : Int) - 1)) := FC.rfl'.slot (by simp)
    refine keeps_12 (M0 := upd2 M 175 7 (((20 : Nat) : Int) - 1)) (by rw [u2_same]; rfl) (fun M1 f1 g1 => ?_) 1824 0 _ rfl FC.rfl' fun j => by rw [if_neg (by omega)]
    refine keeps_32 (M0 := M1) (by rw [f1.2 7 (by simp), u2_same]; rfl) (fun M2 f2 g2 => ?_) 19 0 _ rfl FC.rfl' fun j => by rw [if_neg (by omega)]
    refine keeps_50 (M0 := M2) (v := 19) (by decide) (by rw [f2.2 7 (by simp), f1.2 7 (by simp), u2_same]; rfl) (fun M' f3 g3 g4 g5 => hQ 0 M' ⟨?_, by decide, g3, fun j hj => ?_⟩) 96 0 M2 rfl FC.rfl' fun j => by rw [if_neg (by omega)]
    · exact (((F0.mono (by simp) (by simp)).tr (f1.mono (by simp) (by simp))).tr (f2.mono (by simp) (by simp))).tr f3
    · have e6 : M2 175 6 = M 175 6 := by rw [f2.2 6 (by simp), f1.2 6 (by simp), F0.2 6 (by simp)]
      have e151 : M2 151 = M 151 := by rw [f2.1 151 (by decide) (by decide), f1.1 151 (by decide) (by decide), F0.1 151 (by decide) (by decide)]
      have e153 : M1 153 = M 153 := by rw [f1.1 153 (by decide) (by decide), F0.1 153 (by decide) (by decide)]
      have e152 : M2 152 = M1 152 := f2.1 152 (by decide) (by decide)
      have e152' : (upd2 M 175 7 (((20 : Nat) : Int) - 1)) 152 = M 152 := u2_off (by decide)
      by_cases ej : j = 19
      · subst ej
        simp only [if_true]
        refine ⟨by rw [g4, if_pos rfl, e6], fun i hi => ?_⟩
        rw [g5, if_pos ⟨by omega, by omega⟩, e151, show 96 * 19 + i - 96 * 19 = i by omega]
      · simp only [if_neg ej]
        obtain ⟨k1, k2⟩ := hh (j + 1) (by omega)
        refine ⟨by rw [g4, if_neg ej, g2, if_pos (by omega), e153]; exact k1, fun i hi => ?_⟩
        rw [g5, if_neg (by omega), e152, g1, if_pos (by omega), e152', ← k2 i hi]
        congr 1
        omega
theorem s_lays {d : Nat} {M : Mem} {n : Nat} {a b c e : Int} (hn : M 175 6 = n) (h24 : n < 24) : Post (d + 1) cM_lays [oM, .inl a, .inl b, .inl c, .inl e] M (fun _ M' => FC [151] [6] M M' ∧ M' 151 = add4 (M 151) n a b c e ∧ M' 175 6 = ((n + 1 : Nat) : Int)) := by
  intro Q hQ
  refine e_M_lays (b_M_lays_0 ?_)
  rw [hn, show (4 * (n : Int)).toNat = 4 * n by omega, show (4 * (n : Int) + 1).toNat = 4 * n + 1 by omega, show (4 * (n : Int) + 2).toNat = 4 * n + 2 by omega, show (4 * (n : Int) + 3).toNat = 4 * n + 3 by omega]
  refine ⟨⟨by omega, by omega⟩, ⟨by omega, by omega⟩, ⟨by omega, by omega⟩, ⟨by omega, by omega⟩, hQ _ _ ⟨?_, ?_, ?_⟩⟩
  · exact ((((FC.rfl'.u2 (by simp) (by decide)).u2 (by simp) (by decide)).u2 (by simp) (by decide)).u2 (by simp) (by decide)).slot (by simp)
  · rw [u2_off (by decide), u2_row, u2_row, u2_row, u2_row]; rfl
  · rw [u2_same]; omega
theorem undo_loop {d : Nat} {Q : Rs → Mem → Prop} {M0 : Mem} {u : Nat} (hu : u < 20) (h7 : M0 175 7 = u)
    (hQ : ∀ M', FC [151] [0] M0 M' → M' 175 0 = 0 → (∀ i, M' 151 i = if i < 96 then M0 152 (96 * u + i) else M0 151 i) → Q (.inl (u : Int)) M') :
    ∀ (k i : Nat) (M : Mem), i + k = 96 → FC [151] [] M0 M → (∀ j, M 151 j = if j < i then M0 152 (96 * u + j) else M0 151 j) → L_M_undo_22 (d + 1) Q M (i : Int)
  | k, i, M, hk, hf, hr => by
    have e7 : M 175 7 = u := by rw [hf.2 7 (by simp)]; exact h7
    refine b_M_undo_22 ?_
    rw [e7, show (96 * (u : Int) + (i : Int)).toNat = 96 * u + i by omega, Int.toNat_natCast, hf.1 152 (by decide) (by decide)]
    refine ⟨⟨by omega, by omega⟩, fun h => ?_, fun h => ⟨⟨by omega, by omega⟩, ⟨by omega, by omega⟩, ?_⟩⟩
    · have ei : i = 96 := by omega
      subst ei
      refine (s_told (d := d)).cal fun v2 M2 hM2 => ?_
      obtain ⟨rfl, rfl⟩ := hM2
      exact hQ _ ((hf.mono (by simp) (by simp)).slot (by simp)) u2_same fun i => by rw [u2_off (by decide)]; exact hr i
    · cases k with
      | zero => omega
      | succ k =>
        refine undo_loop hu h7 hQ k (i + 1) _ (by omega) (hf.u2 (by simp) (by decide)) fun j => ?_
        rw [u2_row]
        by_cases e : j = i
        · subst e
          rw [sr_same, if_pos (by omega)]
        · rw [sr_ne e, hr j]
          by_cases q : j < i
          · rw [if_pos q, if_pos (by omega)]
          · rw [if_neg q, if_neg (by omega)]
theorem s_Mundo {d : Nat} {M : Mem} {u : Nat} {cnt : Nat → Int} {row : Nat → Nat → Int} (h : RH M u cnt row) : Post (d + 2) cM_undo [oM] M (fun v M' => (u = 0 → M' = upd2 M 175 0 1) ∧ (0 < u → FC [151] [0, 6, 7] M M' ∧ v = ((u - 1 : Nat) : Int) ∧ M' 175 0 = 0 ∧ M' 175 6 = cnt (u - 1) ∧ (∀ i, i < 96 → M' 151 i = row (u - 1) i) ∧ RH M' (u - 1) cnt row)) := by
  intro Q hQ
  obtain ⟨hu, h7, hh⟩ := h
  refine e_M_undo (b_M_undo_0 ?_)
  rw [h7]
  refine ⟨⟨by omega, by omega⟩, fun h => ⟨⟨by omega, by omega⟩, ?_⟩, fun h => ?_⟩
  · rw [show ((u : Int) - 1).toNat = u - 1 by omega, show (u : Int) - 1 = ((u - 1 : Nat) : Int) by omega]
    have F0 : FC [] [6, 7] M (upd2 (upd2 M 175 7 ((u - 1 : Nat) : Int)) 175 6 (M 153 (u - 1))) := (FC.rfl'.slot (by simp)).slot (by simp)
    obtain ⟨k1, k2⟩ := hh (u - 1) (by omega)
    refine undo_loop (d := d) (M0 := upd2 (upd2 M 175 7 ((u - 1 : Nat) : Int)) 175 6 (M 153 (u - 1))) (u := u - 1) (by omega) (by rw [u2_ne (by decide), u2_same]) (fun M' f1 f2 f3 => hQ _ M' ⟨fun z => absurd z (by omega), fun _ => ⟨(F0.mono (by simp) (by simp)).tr (f1.mono (by simp) (by simp)), rfl, f2, ?_, fun i hi => ?_, by omega, ?_, fun j hj => ?_⟩⟩) 96 0 _ rfl FC.rfl' fun j => by rw [if_neg (by omega)]
    · rw [f1.2 6 (by simp), u2_same]; exact k1
    · rw [f3, if_pos hi, F0.1 152 (by decide) (by decide)]; exact k2 i hi
    · rw [f1.2 7 (by simp), u2_ne (by decide), u2_same]
    · obtain ⟨m1, m2⟩ := hh j (by omega)
      rw [f1.1 153 (by decide) (by decide), F0.1 153 (by decide) (by decide), f1.1 152 (by decide) (by decide), F0.1 152 (by decide) (by decide)]
      exact ⟨m1, m2⟩
  · refine (s_refuse (d := d)).cal fun v2 M2 hM2 => ?_
    obtain ⟨rfl, rfl⟩ := hM2
    exact hQ _ _ ⟨fun _ => rfl, fun z => absurd (by omega) h⟩
theorem s_Mclear {d : Nat} {M : Mem} {u : Nat} {cnt : Nat → Int} {row : Nat → Nat → Int} (h : RH M u cnt row) : Post (d + 2) cM_clear [oM] M (fun v M' => FC [152, 153] [0, 6, 7] M M' ∧ v = M 175 6 ∧ M' 175 0 = 0 ∧ M' 175 6 = 0 ∧ RH M' (hlen u) (hcnt u cnt (M 175 6)) (hcnt u row (M 151))) := by
  intro Q hQ
  refine e_M_clear (b_M_clear_0 ?_)
  refine (s_keeps (d := d) h).cal fun v1 M1 hM1 => ?_
  obtain ⟨f1, k1, k2, k3⟩ := hM1
  refine (s_told (d := d)).cal fun v2 M2 hM2 => ?_
  obtain ⟨rfl, rfl⟩ := hM2
  refine hQ _ _ ⟨((f1.mono (by simp) (by simp)).slot (by simp)).slot (by simp), f1.2 6 (by simp), u2_same, by rw [u2_ne (by decide), u2_same], k1, by rw [u2_ne (by decide), u2_ne (by decide)]; exact k2, fun j hj => ?_⟩
  rw [u2_off (by decide), u2_off (by decide), u2_off (by decide), u2_off (by decide)]
  exact k3 j hj
/-- whether a job may come -/
def comeOk (n : Nat) (f : Nat → Int) (t : Int) : Prop := n < 24 ∧ (n = 0 ∨ f (4 * (n - 1)) ≤ t)
theorem RH.add {M M' : Mem} {u : Nat} {cnt : Nat → Int} {row : Nat → Nat → Int} (h : RH M u cnt row) (f : FC [151] [0, 6] M M') : RH M' u cnt row := by
  obtain ⟨h1, h2, h3⟩ := h
  refine ⟨h1, by rw [f.2 7 (by simp)]; exact h2, fun j hj => ?_⟩
  rw [f.1 153 (by decide) (by decide), f.1 152 (by decide) (by decide)]
  exact h3 j hj
theorem s_Mcome {d : Nat} {M : Mem} {n u : Nat} {cnt : Nat → Int} {row : Nat → Nat → Int} {a b c e : Int} (h : RH M u cnt row) (hn : M 175 6 = n) (hV : VJ n (M 151)) (ha : R32 a) (hb : R32 b) (hc : R32 c) (he : R32 e) :
    Post (d + 3) cM_come [oM, .inl a, .inl b, .inl c, .inl e] M (fun v M' => (¬ jobOk a b c e ∧ M' = upd2 M 175 0 1) ∨ (jobOk a b c e ∧ ¬ comeOk n (M 151) a ∧ M' = upd2 M 175 0 2) ∨ (jobOk a b c e ∧ comeOk n (M 151) a ∧ FC [151, 152, 153] [0, 6, 7] M M' ∧ v = (n : Int) ∧ M' 175 0 = 0 ∧ M' 175 6 = ((n + 1 : Nat) : Int) ∧ M' 151 = add4 (M 151) n a b c e ∧ RH M' (hlen u) (hcnt u cnt (n : Int)) (hcnt u row (M 151)))) := by
  intro Q hQ
  have h24 := hV.1
  refine e_M_come (b_M_come_0 ?_)
  refine (s_isJob (d := d) ha hb hc he).cal fun v1 M1 hM1 => ?_
  obtain ⟨rfl, ⟨rfl, hok⟩ | ⟨rfl, hok⟩⟩ := hM1
  · rw [hn]
    have ref : ¬ comeOk n (M1 151) a → cald (d + 2) cM_refuse [oM, .inl 2] M1 (fun r M2 => Rt r (fun v2 => Q (.inl v2) M2) (fun x => Q (.inr x) M2)) := fun z => (s_refuse (d := d + 1)).cal fun v2 M2 hM2 => by
      obtain ⟨rfl, rfl⟩ := hM2
      exact hQ _ _ (Or.inr (Or.inl ⟨hok, z, rfl⟩))
    have go : comeOk n (M1 151) a → cald (d + 2) cM_keeps [oM] M1 (fun r M2 => Rt r (fun _v2 => cald (d + 2) cM_lays [oM, .inl a, .inl b, .inl c, .inl e] M2 (fun r M3 => Rt r (fun _v3 => cald (d + 2) cM_told [oM, .inl ((M3 175 6) - 1)] M3 (fun r M4 => Rt r (fun v4 => Q (.inl v4) M4) (fun x => Q (.inr x) M4))) (fun x => Q (.inr x) M3))) (fun x => Q (.inr x) M2)) := fun z => by
      refine (s_keeps (d := d + 1) h).cal fun v2 M2 hM2 => ?_
      obtain ⟨f2, k2⟩ := hM2
      refine (s_lays (d := d + 1) (n := n) (by rw [f2.2 6 (by simp)]; exact hn) z.1).cal fun v3 M3 hM3 => ?_
      obtain ⟨f3, g1, g2⟩ := hM3
      refine (s_told (d := d + 1)).cal fun v4 M4 hM4 => ?_
      obtain ⟨rfl, rfl⟩ := hM4
      refine hQ _ _ (Or.inr (Or.inr ⟨hok, z, ?_, by rw [g2]; omega, u2_same, by rw [u2_ne (by decide)]; exact g2, ?_, ?_⟩))
      · exact ((f2.mono (by simp) (by simp)).tr (f3.mono (by simp) (by simp))).slot (by simp)
      · rw [u2_off (by decide), g1, f2.1 151 (by decide) (by decide)]
      · rw [hn] at k2
        exact k2.add ((f3.mono (by simp) (by simp)).slot (by simp))
    refine ⟨⟨by decide, by decide⟩, fun _ => ⟨⟨by omega, by omega⟩, fun h1 => ref fun z => by have := z.1; omega, fun h1 => ⟨fun h2 => go ⟨by omega, Or.inl (by omega)⟩, fun h2 => ⟨⟨by omega, by omega⟩, ha, ?_⟩⟩⟩, fun z => absurd (by decide) z⟩
    rw [show (4 * (n : Int) - 4).toNat = 4 * (n - 1) by omega]
    have hj := (hV.2.1 (n - 1) (by omega)).1
    exact ⟨⟨by omega, by omega⟩, fun h3 => go ⟨by omega, Or.inr h3⟩, fun h3 => ref fun z => by rcases z.2 with y | y <;> omega⟩
  · refine ⟨⟨by decide, by decide⟩, fun z => absurd rfl z, fun _ => ?_⟩
    refine (s_refuse (d := d + 1)).cal fun v2 M2 hM2 => ?_
    obtain ⟨rfl, rfl⟩ := hM2
    exact hQ _ _ (Or.inl ⟨hok, rfl⟩)
