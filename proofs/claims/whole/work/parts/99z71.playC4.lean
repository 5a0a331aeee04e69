/-! The class plays: work, run. -/
theorem work_loop {d : Nat} {Q : Rs → Mem → Prop} {M0 : Mem} {r n : Nat} {J : Nat → Int} {many by_ space wait t : Int} (hr : IsPlay r) (hn : n ≤ 24) (hm : 1 ≤ many ∧ many ≤ 4) (hby : 0 ≤ by_ ∧ by_ ≤ 5) (ht : 0 ≤ t ∧ t ≤ 1500) :
    ∀ (L : List Nat) (x : SG) (M : Mem) (i c : Nat) (o4 : Option PV), WVi n many t L x → i + L.length = c → x.2.1.length ≤ i → c ≤ 4 → Fr (pcs r) M0 M → CPl M r J many by_ space wait x → (∀ q v : Nat, L[q]? = some v → M (r + 8) (i + q) = v) → (∀ s, s ≠ 12 → s ≠ 14 → M r s = M0 r s) → M (r + 1) = M0 (r + 1) →
    (∀ M', Fr (pcs r) M0 M' → CPl M' r J many by_ space wait (sWk by_ t L x) → (∀ s, s ≠ 12 → s ≠ 14 → M' r s = M0 r s) → M' (r + 1) = M0 (r + 1) → Q (.inl 0) M') → L_P_work_12 (d + 1) Q M r t (c : Int) (i : Int) o4
  | [], x, M, i, c, o4, _, hi, _, hc4, hf, hc, _, hs, h1, hQ => by
    have e : i = c := by simpa using hi
    subst e
    exact b_P_work_12 hr ⟨⟨by omega, by omega⟩, ⟨by omega, by omega⟩, fun _ => hQ M hf hc hs h1, fun z => absurd (Int.le_refl _) z⟩
  | j :: L, (row, srv, nx, F), M, i, c, o4, hp, hi, hsi, hc4, hf, hc, hL, hs, h1, hQ => by
    have hr' := hr.n
    have hp0 := hp
    obtain ⟨p1, p2, p3, p4, p5, p6, p7, p8, p9⟩ := hp
    obtain ⟨c0, c1, c2, c3, c4, c5, c6, c7, c8, c9⟩ := hc
    dsimp only at *
    have hlc : (j :: L).length = L.length + 1 := rfl
    have hj : j ∈ (row ++ srv) ++ j :: L := List.mem_append_right _ List.mem_cons_self
    have hjx := p3 j hj
    have hb := p6 j hj
    have e8 : M (r + 8) i = (j : Int) := hL 0 j rfl
    have e5 := (c9 j hjx).2.2.2.1
    have hL' : ∀ q v : Nat, L[q]? = some v → M (r + 8) (i + 1 + q) = v := fun q v h => by
      have := hL (q + 1) v h
      rw [show i + 1 + q = i + (q + 1) by omega]; exact this
    refine b_P_work_12 hr ?_
    rw [Int.toNat_natCast, e8, Int.toNat_natCast, u2_same, e5, u2_off (show r ≠ r + 5 by omega), c1, c5]
    -- the step of the machine and that of the play
    have hwk : sWk by_ t (j :: L) (row, srv, nx, F) = (if F 1 j - 1 ≤ 0 then sWk by_ t L (row, srv, nx, upd2 (upd2 (upd2 F 1 j (F 1 j - 1)) 0 j 0) 3 j (t + 1))
      else if 4 ≤ by_ then sWk by_ t L (row ++ [j], srv, nx, upd2 F 1 j (F 1 j - 1))
      else sWk by_ t L (row, srv ++ [j], nx, upd2 F 1 j (F 1 j - 1))) := rfl
    have n8 : r + 8 ≠ r + 5 := by omega
    have put : 0 < F 1 j - 1 → 4 ≤ by_ → cald (d + 1) cP_putInRow [.inr (.inr (.inl r)), .inl (j : Int)] (upd2 M (r + 5) j (F 1 j - 1)) (fun z M1 => Rt z (fun _v1 => L_P_work_12 (d + 1) Q M1 r t (c : Int) ((i : Int) + 1) (some (.inl (j : Int)))) (fun x => Q (.inr x) M1)) := by
      intro h0 h4
      rw [if_neg (by omega), if_pos h4] at hwk
      rw [hwk] at hQ
      refine (s_putInRow (d := d) (w := row.length) hr (by rw [u2_off (by omega)]; exact c4) (by omega)).cal fun v1 M1 hM1 => ?_
      subst hM1
      have hwv : WVi n many t L (row ++ [j], srv, nx, upd2 F 1 j (F 1 j - 1)) := by
        sorry
      refine work_loop hr hn hm hby ht L _ _ (i + 1) c _ hwv (by omega) (by show srv.length ≤ i + 1; omega) hc4 (hf.tr (((Fr.rfl'.u2 (by simp)).u2 (by simp)).u2 (by simp))) ?_ (fun q v h => ?_) (fun s q1 q2 => ?_) ?_ hQ
      · refine ⟨?_, ?_, ?_, ?_, ?_, ?_, ?_, ?_, ?_, fun k hk => ?_⟩
        · rw [u2_ne (by decide), u2_off (by omega), u2_off (by omega)]; exact c0
        · rw [u2_ne (by decide), u2_off (by omega), u2_off (by omega)]; exact c1
        · rw [u2_ne (by decide), u2_off (by omega), u2_off (by omega)]; exact c2
        · rw [u2_ne (by decide), u2_off (by omega), u2_off (by omega)]; exact c3
        · rw [u2_same]
          show (row.length : Int) + 1 = ((row ++ [j]).length : Int)
          rw [List.length_append]; rfl
        · rw [u2_ne (by decide), u2_off (by omega), u2_off (by omega)]; exact c5
        · rw [u2_ne (by decide), u2_off (by omega), u2_off (by omega)]; exact c6
        · rw [u2_off (by omega), u2_row, u2_off (by omega)]; exact c7.app
        · rw [u2_off (by omega), u2_off (by omega), u2_off (by omega)]; exact c8
        · obtain ⟨m1, m2, m3, m4, m5⟩ := c9 k hk
          rw [u2_off (show r + 2 ≠ r by omega), u2_off (show r + 2 ≠ r + 7 by omega), u2_off (show r + 2 ≠ r + 5 by omega), u2_off (show r + 3 ≠ r by omega), u2_off (show r + 3 ≠ r + 7 by omega), u2_off (show r + 3 ≠ r + 5 by omega), u2_off (show r + 4 ≠ r by omega), u2_off (show r + 4 ≠ r + 7 by omega), u2_off (show r + 4 ≠ r + 5 by omega), u2_off (show r + 5 ≠ r by omega), u2_off (show r + 5 ≠ r + 7 by omega), u2_off (show r + 6 ≠ r by omega), u2_off (show r + 6 ≠ r + 7 by omega), u2_off (show r + 6 ≠ r + 5 by omega)]
          dsimp only
          rw [u2_off (show (0 : Nat) ≠ 1 by decide), u2_off (show (2 : Nat) ≠ 1 by decide), u2_off (show (3 : Nat) ≠ 1 by decide), u2_row, u2_row]
          refine ⟨m1, m2, m3, ?_, m5⟩
          by_cases e : k = j
          · subst e; rw [sr_same, sr_same]
          · rw [sr_ne e, sr_ne e]; exact m4
      · rw [u2_off (by omega), u2_off (by omega), u2_off (by omega)]; exact hL' q v h
      · rw [u2_ne q1, u2_off (by omega), u2_off (by omega)]; exact hs s q1 q2
      · rw [u2_off (by omega), u2_off (by omega), u2_off (by omega)]; exact h1
    sorry
