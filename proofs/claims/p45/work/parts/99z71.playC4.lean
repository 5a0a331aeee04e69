/-! The class plays: work, run. -/
theorem wvi_done {n : Nat} {many t : Int} {L : List Nat} {row srv : List Nat} {nx j : Nat} {F : Mem} (ht : 0 ≤ t) (h : WVi n many t (j :: L) (row, srv, nx, F)) (q : F 1 j - 1 ≤ 0) : WVi n many t L (row, srv, nx, upd2 (upd2 (upd2 F 1 j (F 1 j - 1)) 0 j 0) 3 j (t + 1)) := by
  obtain ⟨h1, h2, h3, h4, h5, h6, h7, h8, h9⟩ := h
  dsimp only at *
  have hj : j ∈ (row ++ srv) ++ j :: L := List.mem_append_right _ List.mem_cons_self
  have hjL : ¬ j ∈ (row ++ srv) ++ L := by
    have hp : ((row ++ srv) ++ j :: L).Perm (j :: ((row ++ srv) ++ L)) := List.perm_middle
    exact (List.nodup_cons.mp (hp.nodup_iff.mp h2)).1
  have hl : (j :: L).length = L.length + 1 := rfl
  have hb := h6 j hj
  refine ⟨h1, ?_, fun k hk => ?_, ?_, fun k hk => ?_, fun k hk => ?_, fun k hk => ?_, ?_, ?_⟩
  all_goals dsimp only
  · have hp : ((row ++ srv) ++ j :: L).Perm (j :: ((row ++ srv) ++ L)) := List.perm_middle
    exact (List.nodup_cons.mp (hp.nodup_iff.mp h2)).2
  · refine h3 k ?_
    rcases List.mem_append.mp hk with z | z
    · exact List.mem_append_left _ z
    · exact List.mem_append_right _ (List.mem_cons_of_mem _ z)
  · have : (srv ++ L).Sublist (srv ++ j :: L) := (List.Sublist.refl srv).append (List.sublist_cons_self j L)
    exact h4.sublist this
  · obtain ⟨a1, a2, a3, a4, a5, a6, a7⟩ := h5 k hk
    by_cases e : k = j
    · subst e
      rw [u2_off (by decide), u2_same, u2_off (by decide), u2_off (by decide), u2_off (by decide), u2_same]
      exact ⟨⟨fun z => absurd z (by decide), fun z => absurd z hjL⟩, by decide, by decide, a4, a5, by omega, by omega⟩
    · have keep : ∀ c, upd2 (upd2 (upd2 F 1 j (F 1 j - 1)) 0 j 0) 3 j (t + 1) c k = F c k := fun c => by
        rw [u2', if_neg fun z => e z.2, u2', if_neg fun z => e z.2, u2', if_neg fun z => e z.2]
      rw [keep, keep, keep]
      refine ⟨⟨fun z => ?_, fun z => a1.mpr ?_⟩, a2, a3, a4, a5, a6, a7⟩
      · rcases List.mem_append.mp (a1.mp z) with y | y
        · exact List.mem_append_left _ y
        · rcases List.mem_cons.mp y with w | w
          · exact absurd w e
          · exact List.mem_append_right _ w
      · rcases List.mem_append.mp z with y | y
        · exact List.mem_append_left _ y
        · exact List.mem_append_right _ (List.mem_cons_of_mem _ y)
  · have e : k ≠ j := fun e => hjL (by rw [← e]; exact hk)
    rw [u2', if_neg fun z => e z.2, u2', if_neg fun z => e z.2, u2', if_neg fun z => e z.2]
    refine h6 k ?_
    rcases List.mem_append.mp hk with z | z
    · exact List.mem_append_left _ z
    · exact List.mem_append_right _ (List.mem_cons_of_mem _ z)
  · rw [u2_off (by decide), u2_off (by decide), u2_off (by decide)]
    refine h7 k ?_
    rcases List.mem_append.mp hk with z | z
    · exact List.mem_append_left _ z
    · exact List.mem_append_right _ (List.mem_cons_of_mem _ z)
  · omega
  · omega
theorem wvi_row {n : Nat} {many t : Int} {L : List Nat} {row srv : List Nat} {nx j : Nat} {F : Mem} (ht : 0 ≤ t) (h : WVi n many t (j :: L) (row, srv, nx, F)) (q : ¬ F 1 j - 1 ≤ 0) : WVi n many t L (row ++ [j], srv, nx, upd2 F 1 j (F 1 j - 1)) := by
  obtain ⟨h1, h2, h3, h4, h5, h6, h7, h8, h9⟩ := h
  dsimp only at *
  have hj : j ∈ (row ++ srv) ++ j :: L := List.mem_append_right _ List.mem_cons_self
  have hjL : ¬ j ∈ (row ++ srv) ++ L := by
    have hp : ((row ++ srv) ++ j :: L).Perm (j :: ((row ++ srv) ++ L)) := List.perm_middle
    exact (List.nodup_cons.mp (hp.nodup_iff.mp h2)).1
  have hl : (j :: L).length = L.length + 1 := rfl
  have hb := h6 j hj
  have com : ∀ k, k < nx → (upd2 F 1 j (F 1 j - 1) 0 k = 3 ↔ k ∈ (row ++ srv) ++ j :: L) ∧ 0 ≤ upd2 F 1 j (F 1 j - 1) 0 k ∧ upd2 F 1 j (F 1 j - 1) 0 k ≤ 3 ∧ -1 ≤ upd2 F 1 j (F 1 j - 1) 2 k ∧ upd2 F 1 j (F 1 j - 1) 2 k ≤ t ∧ 0 ≤ upd2 F 1 j (F 1 j - 1) 3 k ∧ upd2 F 1 j (F 1 j - 1) 3 k ≤ t + 1 := fun k hk => by
    rw [u2_off (by decide), u2_off (by decide), u2_off (by decide)]; exact h5 k hk
  have com6 : ∀ k, k ∈ (row ++ srv) ++ j :: L → 1 ≤ upd2 F 1 j (F 1 j - 1) 1 k ∧ upd2 F 1 j (F 1 j - 1) 1 k ≤ 40 := fun k hk => by
    by_cases e : k = j
    · subst e; rw [u2_same]; omega
    · rw [u2_ne e]; exact h6 k hk
  have hm : ∀ k, k ∈ (row ++ [j] ++ srv) ++ L ↔ k ∈ (row ++ srv) ++ j :: L := fun k => wk_perm1.mem_iff
  refine ⟨h1, wk_perm1.nodup_iff.mpr h2, fun k hk => h3 k ((hm k).mp hk), ?_, fun k hk => ?_, fun k hk => com6 k ((hm k).mp hk), fun k hk => ?_, ?_, ?_⟩
  all_goals dsimp only
  · have : (srv ++ L).Sublist (srv ++ j :: L) := (List.Sublist.refl srv).append (List.sublist_cons_self j L)
    exact h4.sublist this
  · rw [hm k]; exact com k hk
  · rw [u2_off (by decide)]
    refine h7 k ?_
    rcases List.mem_append.mp hk with z | z
    · exact List.mem_append_left _ z
    · exact List.mem_append_right _ (List.mem_cons_of_mem _ z)
  · rw [List.length_append]
    show row.length + 1 + srv.length + L.length ≤ nx
    omega
  · omega
theorem wvi_srv {n : Nat} {many t : Int} {L : List Nat} {row srv : List Nat} {nx j : Nat} {F : Mem} (ht : 0 ≤ t) (h : WVi n many t (j :: L) (row, srv, nx, F)) (q : ¬ F 1 j - 1 ≤ 0) : WVi n many t L (row, srv ++ [j], nx, upd2 F 1 j (F 1 j - 1)) := by
  obtain ⟨h1, h2, h3, h4, h5, h6, h7, h8, h9⟩ := h
  dsimp only at *
  have hj : j ∈ (row ++ srv) ++ j :: L := List.mem_append_right _ List.mem_cons_self
  have hjL : ¬ j ∈ (row ++ srv) ++ L := by
    have hp : ((row ++ srv) ++ j :: L).Perm (j :: ((row ++ srv) ++ L)) := List.perm_middle
    exact (List.nodup_cons.mp (hp.nodup_iff.mp h2)).1
  have hl : (j :: L).length = L.length + 1 := rfl
  have hb := h6 j hj
  have com : ∀ k, k < nx → (upd2 F 1 j (F 1 j - 1) 0 k = 3 ↔ k ∈ (row ++ srv) ++ j :: L) ∧ 0 ≤ upd2 F 1 j (F 1 j - 1) 0 k ∧ upd2 F 1 j (F 1 j - 1) 0 k ≤ 3 ∧ -1 ≤ upd2 F 1 j (F 1 j - 1) 2 k ∧ upd2 F 1 j (F 1 j - 1) 2 k ≤ t ∧ 0 ≤ upd2 F 1 j (F 1 j - 1) 3 k ∧ upd2 F 1 j (F 1 j - 1) 3 k ≤ t + 1 := fun k hk => by
    rw [u2_off (by decide), u2_off (by decide), u2_off (by decide)]; exact h5 k hk
  have com6 : ∀ k, k ∈ (row ++ srv) ++ j :: L → 1 ≤ upd2 F 1 j (F 1 j - 1) 1 k ∧ upd2 F 1 j (F 1 j - 1) 1 k ≤ 40 := fun k hk => by
    by_cases e : k = j
    · subst e; rw [u2_same]; omega
    · rw [u2_ne e]; exact h6 k hk
  refine ⟨h1, ?_, fun k hk => h3 k ?_, ?_, fun k hk => ?_, fun k hk => com6 k ?_, fun k hk => ?_, ?_, ?_⟩
  all_goals dsimp only at *
  · rw [wk_eq2]; exact h2
  · rw [wk_eq2] at hk; exact hk
  · rw [List.append_assoc]; exact h4
  · rw [wk_eq2]; exact com k hk
  · rw [wk_eq2] at hk; exact hk
  · rw [u2_off (by decide)]
    rw [List.append_assoc] at hk
    exact h7 k hk
  · rw [List.length_append]
    show row.length + (srv.length + 1) + L.length ≤ nx
    omega
  · rw [List.length_append]
    show ((srv.length + 1 : Nat) : Int) + L.length ≤ many
    omega
theorem work_loop {d : Nat} {Q : Rs → Mem → Prop} {M0 : Mem} {r n : Nat} {J : Nat → Int} {many by_ space wait t : Int} (hr : IsPlay r) (hn : n ≤ 24) (hm : 1 ≤ many ∧ many ≤ 4) (hby : 0 ≤ by_ ∧ by_ ≤ 5) (ht : 0 ≤ t ∧ t ≤ 1500) :
    ∀ (L : List Nat) (x : SG) (M : Mem) (i c : Nat) (o4 : Option PV), WVi n many t L x → i + L.length = c → x.2.1.length ≤ i → c ≤ 4 → Fr (pcs r) M0 M → CPl M r J many by_ space wait x → (∀ q v : Nat, L[q]? = some v → M (r + 8) (i + q) = v) → (∀ s, s ≠ 12 → s ≠ 14 → M r s = M0 r s) → M (r + 1) = M0 (r + 1) →
    (∀ M', Fr (pcs r) M0 M' → CPl M' r J many by_ space wait (sWk by_ t L x) → (∀ s, s ≠ 12 → s ≠ 14 → M' r s = M0 r s) → M' (r + 1) = M0 (r + 1) → Q (.inl 0) M') → L_P_work_12 (d + 1) Q M r t (c : Int) (i : Int) o4
  | [], x, M, i, c, o4, _, hi, _, hc4, hf, hc, _, hs, h1, hQ => by
    have e : i = c := by simpa using hi
    subst e
    exact b_P_work_12 hr ⟨⟨by omega, by omega⟩, ⟨by omega, by omega⟩, fun _ => hQ M hf hc hs h1, fun z => absurd (Int.le_refl _) z⟩
  | j :: L, (row, srv, nx, F), M, i, c, o4, hp, hi, hsi, hc4, hf, hc, hL, hs, h1, hQ => by
    have hr' := hr.n
    have hp0 := hp
    obtain ⟨p1, p2, p3, p4, p5, p6, p7, p8, p9⟩ := hp
    obtain ⟨c0, c1, c2, c3, c4, c5, c6, c7, c8, c9⟩ := hc
    dsimp only at *
    have hlc : (j :: L).length = L.length + 1 := rfl
    have hj : j ∈ (row ++ srv) ++ j :: L := List.mem_append_right _ List.mem_cons_self
    have hjx := p3 j hj
    have hb := p6 j hj
    have e8 : M (r + 8) i = (j : Int) := hL 0 j rfl
    have e5 := (c9 j hjx).2.2.2.1
    have hL' : ∀ q v : Nat, L[q]? = some v → M (r + 8) (i + 1 + q) = v := fun q v h => by
      have := hL (q + 1) v h
      rw [show i + 1 + q = i + (q + 1) by omega]; exact this
    refine b_P_work_12 hr ?_
    rw [Int.toNat_natCast, e8, Int.toNat_natCast, u2_same, e5, u2_off (show r ≠ r + 5 by omega), c1, c5]
    -- the step of the machine and that of the play
    have hwk : sWk by_ t (j :: L) (row, srv, nx, F) = (if F 1 j - 1 ≤ 0 then sWk by_ t L (row, srv, nx, upd2 (upd2 (upd2 F 1 j (F 1 j - 1)) 0 j 0) 3 j (t + 1))
      else if 4 ≤ by_ then sWk by_ t L (row ++ [j], srv, nx, upd2 F 1 j (F 1 j - 1))
      else sWk by_ t L (row, srv ++ [j], nx, upd2 F 1 j (F 1 j - 1))) := rfl
    have n8 : r + 8 ≠ r + 5 := by omega
    have put : 0 < F 1 j - 1 → 4 ≤ by_ → cald (d + 1) cP_putInRow [.inr (.inr (.inl r)), .inl (j : Int)] (upd2 M (r + 5) j (F 1 j - 1)) (fun z M1 => Rt z (fun _v1 => L_P_work_12 (d + 1) Q M1 r t (c : Int) ((i : Int) + 1) (some (.inl (j : Int)))) (fun x => Q (.inr x) M1)) := by
      intro h0 h4
      rw [if_neg (by omega), if_pos h4] at hwk
      rw [hwk] at hQ
      refine (s_putInRow (d := d) (w := row.length) hr (by rw [u2_off (by omega)]; exact c4) (by omega)).cal fun v1 M1 hM1 => ?_
      subst hM1
      have hwv := wvi_row ht.1 hp0 (by omega)
      refine work_loop hr hn hm hby ht L _ _ (i + 1) c _ hwv (by omega) (by show srv.length ≤ i + 1; omega) hc4 (hf.tr (((Fr.rfl'.u2 (by simp)).u2 (by simp)).u2 (by simp))) ?_ (fun q v h => ?_) (fun s q1 q2 => ?_) ?_ hQ
      · refine ⟨?_, ?_, ?_, ?_, ?_, ?_, ?_, ?_, ?_, fun k hk => ?_⟩
        · rw [u2_ne (by decide), u2_off (by omega), u2_off (by omega)]; exact c0
        · rw [u2_ne (by decide), u2_off (by omega), u2_off (by omega)]; exact c1
        · rw [u2_ne (by decide), u2_off (by omega), u2_off (by omega)]; exact c2
        · rw [u2_ne (by decide), u2_off (by omega), u2_off (by omega)]; exact c3
        · rw [u2_same]
          show (row.length : Int) + 1 = ((row ++ [j]).length : Int)
          rw [List.length_append]; rfl
        · rw [u2_ne (by decide), u2_off (by omega), u2_off (by omega)]; exact c5
        · rw [u2_ne (by decide), u2_off (by omega), u2_off (by omega)]; exact c6
        · rw [u2_off (by omega), u2_row, u2_off (by omega)]; exact c7.app
        · rw [u2_off (by omega), u2_off (by omega), u2_off (by omega)]; exact c8
        · obtain ⟨m1, m2, m3, m4, m5⟩ := c9 k hk
          rw [u2_off (show r + 2 ≠ r by omega), u2_off (show r + 2 ≠ r + 7 by omega), u2_off (show r + 2 ≠ r + 5 by omega), u2_off (show r + 3 ≠ r by omega), u2_off (show r + 3 ≠ r + 7 by omega), u2_off (show r + 3 ≠ r + 5 by omega), u2_off (show r + 4 ≠ r by omega), u2_off (show r + 4 ≠ r + 7 by omega), u2_off (show r + 4 ≠ r + 5 by omega), u2_off (show r + 5 ≠ r by omega), u2_off (show r + 5 ≠ r + 7 by omega), u2_off (show r + 6 ≠ r by omega), u2_off (show r + 6 ≠ r + 7 by omega), u2_off (show r + 6 ≠ r + 5 by omega)]
          dsimp only
          rw [u2_off (show (0 : Nat) ≠ 1 by decide), u2_off (show (2 : Nat) ≠ 1 by decide), u2_off (show (3 : Nat) ≠ 1 by decide), u2_row, u2_row]
          refine ⟨m1, m2, m3, ?_, m5⟩
          by_cases e : k = j
          · subst e; rw [sr_same, sr_same]
          · rw [sr_ne e, sr_ne e]; exact m4
      · rw [u2_off (by omega), u2_off (by omega), u2_off (by omega)]; exact hL' q v h
      · rw [u2_ne q1, u2_off (by omega), u2_off (by omega)]; exact hs s q1 q2
      · rw [u2_off (by omega), u2_off (by omega), u2_off (by omega)]; exact h1
    have cw : ∀ (G : Mem) (M' : Mem), (∀ s, s ≠ 14 → M' r s = M r s) → M' (r + 7) = M (r + 7) → (∀ k, k < nx → M' (r + 2) k = G 0 k ∧ M' (r + 3) k = G 2 k ∧ M' (r + 4) k = G 3 k ∧ M' (r + 5) k = G 1 k ∧ M' (r + 6) k = M (r + 6) k) → ∀ srv', M' r 14 = (srv'.length : Nat) → LM (M' (r + 8)) srv' → CPl M' r J many by_ space wait (row, srv', nx, G) := by
      intro G M' k0 k7 kc srv' k14 k8
      refine ⟨?_, ?_, ?_, ?_, ?_, k14, ?_, ?_, k8, fun k hk => ?_⟩
      · rw [k0 0 (by decide)]; exact c0
      · rw [k0 1 (by decide)]; exact c1
      · rw [k0 2 (by decide)]; exact c2
      · rw [k0 3 (by decide)]; exact c3
      · rw [k0 12 (by decide)]; exact c4
      · rw [k0 15 (by decide)]; exact c6
      · rw [k7]; exact c7
      · obtain ⟨m1, m2, m3, m4, m5⟩ := kc k hk
        exact ⟨m1, m2, m3, m4, m5.trans (c9 k hk).2.2.2.2⟩
    refine ⟨⟨by omega, by omega⟩, ⟨by omega, by omega⟩, fun z => absurd z (by omega), fun _ => ⟨⟨by omega, by omega⟩, ⟨by omega, by omega⟩, ⟨by omega, by omega⟩, fun z => ⟨⟨by omega, by omega⟩, fun z2 => put z (by omega), fun z2 => ⟨fun z3 => ⟨⟨by omega, by omega⟩, ?_⟩, fun z3 => put z (by omega)⟩⟩, fun z => ?_⟩⟩
    · rw [if_neg (by omega), if_neg (by omega)] at hwk
      rw [hwk] at hQ
      rw [u2_off (show r ≠ r + 8 by omega), u2_off (show r ≠ r + 5 by omega), c5, Int.toNat_natCast]
      refine work_loop hr hn hm hby ht L _ _ (i + 1) c _ (wvi_srv ht.1 hp0 (by omega)) (by omega) (by show (srv ++ [j]).length ≤ i + 1; rw [List.length_append]; show srv.length + 1 ≤ i + 1; omega) hc4 (hf.tr (((Fr.rfl'.u2 (by simp)).u2 (by simp)).u2 (by simp))) ?_ (fun q v h => ?_) (fun s q1 q2 => ?_) ?_ hQ
      · refine cw _ _ (fun s hs => ?_) ?_ (fun k hk => ?_) _ ?_ ?_
        · rw [u2_ne hs, u2_off (by omega), u2_off (by omega)]
        · rw [u2_off (by omega), u2_off (by omega), u2_off (by omega)]
        · obtain ⟨m1, m2, m3, m4, m5⟩ := c9 k hk
          rw [u2_off (show r + 2 ≠ r by omega), u2_off (show r + 2 ≠ r + 8 by omega), u2_off (show r + 2 ≠ r + 5 by omega), u2_off (show r + 3 ≠ r by omega), u2_off (show r + 3 ≠ r + 8 by omega), u2_off (show r + 3 ≠ r + 5 by omega), u2_off (show r + 4 ≠ r by omega), u2_off (show r + 4 ≠ r + 8 by omega), u2_off (show r + 4 ≠ r + 5 by omega), u2_off (show r + 5 ≠ r by omega), u2_off (show r + 5 ≠ r + 8 by omega), u2_off (show r + 6 ≠ r by omega), u2_off (show r + 6 ≠ r + 8 by omega), u2_off (show r + 6 ≠ r + 5 by omega), u2_off (show (0 : Nat) ≠ 1 by decide), u2_off (show (2 : Nat) ≠ 1 by decide), u2_off (show (3 : Nat) ≠ 1 by decide), u2_row, u2_row]
          refine ⟨m1, m2, m3, ?_, rfl⟩
          by_cases e : k = j
          · subst e; rw [sr_same, sr_same]
          · rw [sr_ne e, sr_ne e]; exact m4
        · rw [u2_same, List.length_append]; rfl
        · rw [u2_off (by omega), u2_row, u2_off (by omega)]; exact c8.app
      · rw [u2_off (by omega), u2_ne (by omega), u2_off (by omega)]; exact hL' q v h
      · rw [u2_ne q2, u2_off (by omega), u2_off (by omega)]; exact hs s q1 q2
      · rw [u2_off (by omega), u2_off (by omega), u2_off (by omega)]; exact h1
    · rw [if_pos (by omega)] at hwk
      rw [hwk] at hQ
      refine work_loop hr hn hm hby ht L _ _ (i + 1) c _ (wvi_done ht.1 hp0 (by omega)) (by omega) (by show srv.length ≤ i + 1; omega) hc4 (hf.tr (((Fr.rfl'.u2 (by simp)).u2 (by simp)).u2 (by simp))) ?_ (fun q v h => ?_) (fun s q1 q2 => ?_) ?_ hQ
      · refine cw _ _ (fun s hs => ?_) ?_ (fun k hk => ?_) _ ?_ ?_
        · rw [u2_off (by omega), u2_off (by omega), u2_off (by omega)]
        · rw [u2_off (by omega), u2_off (by omega), u2_off (by omega)]
        · obtain ⟨m1, m2, m3, m4, m5⟩ := c9 k hk
          rw [u2_off (show r + 2 ≠ r + 4 by omega), u2_row, u2_off (show r + 2 ≠ r + 5 by omega), u2_off (show r + 3 ≠ r + 4 by omega), u2_off (show r + 3 ≠ r + 2 by omega), u2_off (show r + 3 ≠ r + 5 by omega), u2_row, u2_off (show r + 4 ≠ r + 2 by omega), u2_off (show r + 4 ≠ r + 5 by omega), u2_off (show r + 5 ≠ r + 4 by omega), u2_off (show r + 5 ≠ r + 2 by omega), u2_row, u2_off (show r + 6 ≠ r + 4 by omega), u2_off (show r + 6 ≠ r + 2 by omega), u2_off (show r + 6 ≠ r + 5 by omega), u2_off (show (0 : Nat) ≠ 3 by decide), u2_row, u2_off (show (0 : Nat) ≠ 1 by decide), u2_off (show (2 : Nat) ≠ 3 by decide), u2_off (show (2 : Nat) ≠ 0 by decide), u2_off (show (2 : Nat) ≠ 1 by decide), u2_row, u2_off (show (3 : Nat) ≠ 0 by decide), u2_off (show (3 : Nat) ≠ 1 by decide), u2_off (show (1 : Nat) ≠ 3 by decide), u2_off (show (1 : Nat) ≠ 0 by decide), u2_row]
          by_cases e : k = j
          · subst e; rw [sr_same, sr_same, sr_same, sr_same, sr_same, sr_same]; exact ⟨rfl, m2, rfl, rfl, rfl⟩
          · rw [sr_ne e, sr_ne e, sr_ne e, sr_ne e, sr_ne e, sr_ne e]; exact ⟨m1, m2, m3, m4, rfl⟩
        · rw [u2_off (by omega), u2_off (by omega), u2_off (by omega)]; exact c5
        · rw [u2_off (by omega), u2_off (by omega), u2_off (by omega)]; exact c8
      · rw [u2_off (by omega), u2_off (by omega), u2_off (by omega)]; exact hL' q v h
      · rw [u2_off (by omega), u2_off (by omega), u2_off (by omega)]; exact hs s q1 q2
      · rw [u2_off (by omega), u2_off (by omega), u2_off (by omega)]; exact h1
