/-! The reference plays: the whole play. -/
theorem s_works {d : Nat} {M : Mem} {n : Nat} {J : Nat → Int} {many by_ t : Int} {x : SG} (hV : VJ n J) (hn : M 175 6 = n) (hby : 0 ≤ by_ ∧ by_ ≤ 5) (ht : 0 ≤ t ∧ t ≤ 1500) (hp : PVi n many t x) (hR : RPl M n J x) :
    Post (d + 2) cM_works [oM, .inl t, .inl by_] M (fun _ M' => FC rcs [40, 41] M M' ∧ M' 172 = M 172 ∧ RPl M' n J (sWork by_ t x)) := by
  intro Q hQ
  obtain ⟨row, srv, nx, F⟩ := x
  have hW : WVi n many t srv (row, [], nx, F) := by
    obtain ⟨p1, p2, p3, p4, p5, p6, p7, p8, p9⟩ := hp
    refine ⟨p1, ?_, ?_, ?_, ?_, ?_, ?_, ?_, ?_⟩
    all_goals simp only [List.append_nil, List.nil_append, List.length_nil, Nat.add_zero]
    · exact p2
    · exact p3
    · exact p4
    · exact p5
    · exact p6
    · exact p7
    · exact p8
    · simpa using p9
  exact e_M_works (b_M_works_0 (worksR_loop (d := d) (M0 := M) (J := J) hV.1 hn hby ht n 0 srv row [] nx F M (by omega) hW (fun _ _ => Nat.zero_le _) (fun j hj => by simp at hj) FC.rfl' rfl hR fun M' f1 f2 f3 => hQ 0 M' ⟨f1, f2, f3⟩))
/-- the sum of the times -/
def pSum (n : Nat) (J : Nat → Int) (many by_ space wait : Int) (T : Nat) : Int := sumN (fun k => (sAt n J many by_ space wait T).2.2.2 3 k - J (4 * k)) n
/-- the play lies in the reference's memory, from its beginning to its end -/
def RunR (M : Mem) (n : Nat) (J : Nat → Int) (many by_ space wait : Int) (T : Nat) : Prop := (∀ s, s < T → sOn n (sAt n J many by_ space wait s)) ∧ ¬ sOn n (sAt n J many by_ space wait T) ∧ M 175 42 = T ∧ (∀ s, s < T → M 172 s = sNum (sMid n J many by_ space wait (s : Int) (sAt n J many by_ space wait s))) ∧
  ∀ k, k < n → M 167 k = (sAt n J many by_ space wait T).2.2.2 0 k ∧ M 169 k = (sAt n J many by_ space wait T).2.2.2 2 k ∧ M 170 k = (sAt n J many by_ space wait T).2.2.2 3 k
theorem off_all {n : Nat} {J : Nat → Int} {many t : Int} {x : SG} (hp : PVi n many t x) (h : ¬ sOn n x) : x.2.2.1 = n ∧ x.1 = [] ∧ x.2.1 = [] ∧ ∀ k, k < n → x.2.2.2 0 k ≠ 3 ∧ 0 ≤ x.2.2.2 0 k ∧ x.2.2.2 0 k ≤ 2 := by
  have hx := hp.1
  have h1 : ¬ x.2.2.1 < n := fun z => h (Or.inl z)
  have h2 : ¬ 0 < x.1.length + x.2.1.length := fun z => h (Or.inr z)
  have e1 : x.1 = [] := List.length_eq_zero_iff.mp (by omega)
  have e2 : x.2.1 = [] := List.length_eq_zero_iff.mp (by omega)
  refine ⟨by omega, e1, e2, fun k hk => ?_⟩
  obtain ⟨a1, a2, a3, _⟩ := hp.2.2.2.2.1 k (by omega)
  have : x.2.2.2 0 k ≠ 3 := fun z => by
    have := a1.mp z
    rw [e1, e2] at this
    simp at this
  exact ⟨this, a2, by omega⟩
theorem sum_loop {d : Nat} {Q : Rs → Mem → Prop} {M : Mem} {n : Nat} {f : Nat → Int} (hn : M 175 6 = n) (h24 : n ≤ 24) (hf : ∀ k, k < n → f k = M 170 k - M 151 (4 * k)) (hQ : Q (.inl (sumN f n)) M) : ∀ (m k : Nat) (o1 o2 o3 o4 o5 o6 : Option PV), k + m = n → L_M_plays_111 d Q M o1 o2 o3 o4 o5 o6 (sumN f k) (k : Int)
  | m, k, o1, o2, o3, o4, o5, o6, hk => by
    refine b_M_plays_111 ?_
    rw [hn, Int.toNat_natCast, show (4 * (k : Int)).toNat = 4 * k by omega]
    refine ⟨⟨by omega, by omega⟩, ⟨by omega, by omega⟩, fun z => ?_, fun z => ⟨⟨by omega, by omega⟩, ⟨by omega, by omega⟩, ?_⟩⟩
    · have e : k = n := by omega
      subst e
      exact hQ
    · rw [← hf k (by omega)]
      cases m with
      | zero => omega
      | succ m => exact sum_loop hn h24 hf hQ m (k + 1) _ _ _ _ _ _ (by omega)
theorem plays_loop {d : Nat} {Q : Rs → Mem → Prop} {M0 : Mem} {n : Nat} {J : Nat → Int} {many by_ space wait last : Int} (hV : VJ n J) (hn : M0 175 6 = n) (hJ : M0 151 = J) (hm : 1 ≤ many ∧ many ≤ 4) (hsp : 0 ≤ space ∧ space ≤ 24) (hby : 0 ≤ by_ ∧ by_ ≤ 5) (hw : 1 ≤ wait ∧ wait ≤ 5000) (hlast : last = if n = 0 then -1 else J (4 * (n - 1)))
    (hQ : ∀ M' T, FC rcs [40, 41, 42] M0 M' → RunR M' n J many by_ space wait T → Q (.inl (pSum n J many by_ space wait T)) M') :
    ∀ (k t : Nat) (M : Mem) (o7 o8 : Option PV), t + k = 1500 → (∀ s, s < t → sOn n (sAt n J many by_ space wait s)) → FC rcs [40, 41] M0 M → RPl M n J (sAt n J many by_ space wait t) → (∀ s, s < t → M 172 s = sNum (sMid n J many by_ space wait (s : Int) (sAt n J many by_ space wait s))) → L_M_plays_53 (d + 2) Q M many by_ space wait (t : Int) last o7 o8
  | k, t, M, o7, o8, hk, hon, hf, hR, hth => by
    have hI := at_inv (by_ := by_) (space := space) (wait := wait) hV hm.1 t
    have hp := hI.1
    have h24 := hV.1
    have en : M 175 6 = n := by rw [hf.2 6 (by simp)]; exact hn
    have eJ : M 151 = J := by rw [hf.1 151 (by decide) (by decide)]; exact hJ
    have hlt : t < 1500 := by
      rcases Nat.lt_or_ge t 1461 with q | q
      · omega
      · have := on_bound hV hm.1 (t := t - 1) (fun s hs => hon s (by omega))
        omega
    have hx1 := hp.1
    have hx8 := hp.2.2.2.2.2.2.2.1
    have hl1 : -1 ≤ last ∧ last ≤ 500 := by
      rw [hlast]
      by_cases e : n = 0
      · rw [if_pos e]; omega
      · rw [if_neg e]
        have := (hV.2.1 (n - 1) (by omega)).1
        omega
    have hiff : (t : Int) ≤ last ↔ (sAt n J many by_ space wait t).2.2.1 < n := by
      rw [hlast]
      by_cases e : n = 0
      · rw [if_pos e]; omega
      · rw [if_neg e]
        constructor
        · intro z
          rcases Nat.lt_or_ge (sAt n J many by_ space wait t).2.2.1 n with y | y
          · exact y
          · have := hI.2.1 (n - 1) (by omega)
            omega
        · intro z
          have h1 := hI.2.2.1 _ z (Nat.le_refl _)
          have h2 := hV.mono (n - 1 - (sAt n J many by_ space wait t).2.2.1) (sAt n J many by_ space wait t).2.2.1 (by omega)
          rw [show (sAt n J many by_ space wait t).2.2.1 + (n - 1 - (sAt n J many by_ space wait t).2.2.1) = n - 1 by omega] at h2
          omega
    have go : sOn n (sAt n J many by_ space wait t) → cald (d + 2) cM_goesAndComes [oM, .inl (t : Int), .inl many, .inl space, .inl wait] M (fun z M1 => Rt z (fun _v1 => L_M_plays_68 (d + 2) Q M1 many by_ space wait (t : Int) last o7 o8) (fun x => Q (.inr x) M1)) := fun hont => by
      have ht0 : (0 : Int) ≤ (t : Int) ∧ (t : Int) ≤ 1500 := ⟨by omega, by omega⟩
      refine (s_goesAndComes (d := d) hV en eJ ht0 hm hsp hw hI hR).cal fun v1 M1 hM1 => ?_
      obtain ⟨f1, t1, g1⟩ := hM1
      have p1 := sGo_pvi (J := J) (wait := wait) ht0.1 hp
      have p2 := sIn_pvi (cap := many + space) ht0.1 hV 24 _ p1
      have p3 := sSeat_pvi (J := J) (by_ := by_) ht0.1 24 _ p2
      have f1' : FC rcs [40, 41] M M1 := f1.mono (fun _ h => h) (by simp)
      refine seatR_loop (d := d) (M0 := M1) hV (by rw [f1.2 6 (by simp)]; exact en) (by rw [f1.1 151 (by decide) (by decide)]; exact eJ) hm hby ht0 24 _ M1 o7 o8 p2 (by have := p2.1; have := p2.2.2.2.2.2.2.2.1; omega) FC.rfl' rfl g1 fun M3 o7' o8' f3 t3 g3 => ?_
      have en3 : M3 175 6 = n := by rw [f3.2 6 (by simp), f1.2 6 (by simp)]; exact en
      refine (s_there (d := d + 1) (many := many) (t := (t : Int)) en3 h24 p3 g3).cal fun v4 M4 hM4 => ?_
      obtain ⟨rfl, rfl⟩ := hM4
      rw [Int.toNat_natCast]
      refine ⟨⟨by omega, by omega⟩, ?_⟩
      have g4 : RPl (upd2 M4 172 t (sNum (sSeat J many by_ (t : Int) 24 (sIn n J (many + space) (t : Int) 24 (sGo J wait (t : Int) (sAt n J many by_ space wait t)))))) n J (sSeat J many by_ (t : Int) 24 (sIn n J (many + space) (t : Int) 24 (sGo J wait (t : Int) (sAt n J many by_ space wait t)))) := by
        obtain ⟨k0, k1, k2, k3⟩ := g3
        unfold RPl
        rw [u2_off (show (175 : Nat) ≠ 172 by decide), u2_off (show (171 : Nat) ≠ 172 by decide), u2_off (show (167 : Nat) ≠ 172 by decide), u2_off (show (168 : Nat) ≠ 172 by decide), u2_off (show (169 : Nat) ≠ 172 by decide), u2_off (show (170 : Nat) ≠ 172 by decide)]
        exact ⟨k0, k1, k2, k3⟩
      refine (s_works (d := d) hV (by rw [u2_off (by decide)]; exact en3) hby ht0 p3 g4).cal fun v5 M5 hM5 => ?_
      obtain ⟨f5, t5, g5⟩ := hM5
      cases k with
      | zero => omega
      | succ k =>
        have := plays_loop (d := d) (Q := Q) (last := last) hV hn hJ hm hsp hby hw hlast hQ k (t + 1) M5 o7' o8' (by omega) (fun s hs => ?_) (((hf.tr (f1'.tr f3)).u2 (by simp) (by decide)).tr f5) g5 (fun s hs => ?_)
        · exact this
        · by_cases e : s = t
          · subst e; exact hont
          · exact hon s (by omega)
        · rw [t5, u2_row]
          by_cases e : s = t
          · subst e; rw [sr_same]; rfl
          · rw [sr_ne e, t3, t1]; exact hth s (by omega)
    refine b_M_plays_53 ?_
    rw [hR.1, hR.2.1]
    refine ⟨⟨by omega, by omega⟩, ⟨by omega, by omega⟩, fun z => go (Or.inl (hiff.mp z)), fun z => ⟨⟨by omega, by omega⟩, fun z2 => ?_, fun z2 => go (Or.inr (by omega))⟩⟩
    have hoff : ¬ sOn n (sAt n J many by_ space wait t) := fun y => by
      rcases y with y | y
      · exact z (hiff.mpr y)
      · omega
    obtain ⟨e1, e2, e3, e4⟩ := off_all (J := J) hp hoff
    have hall : ∀ k, k < n → M 167 k = (sAt n J many by_ space wait t).2.2.2 0 k ∧ M 169 k = (sAt n J many by_ space wait t).2.2.2 2 k ∧ M 170 k = (sAt n J many by_ space wait t).2.2.2 3 k := fun k hk => by
      obtain ⟨m1, m2, m3, m4⟩ := hR.2.2.2 k hk
      unfold stR at m1
      rw [e1, if_pos hk] at m1 m3
      rw [e1] at m4
      rw [e2, e3, if_neg (by simp), if_neg (by simp)] at m1
      exact ⟨m1, m3, m4 hk (e4 k hk).1⟩
    have F : FC rcs [40, 41, 42] M0 (upd2 M 175 42 (t : Int)) := (hf.mono (fun _ h => h) (by simp)).slot (by simp)
    refine sum_loop (f := fun k => (sAt n J many by_ space wait t).2.2.2 3 k - J (4 * k)) (by rw [u2_ne (by decide)]; exact en) h24 (fun k hk => ?_) (hQ _ t F ⟨hon, hoff, u2_same, fun s hs => ?_, fun k hk => ?_⟩) n 0 _ _ _ _ _ _ (by omega)
    · rw [u2_off (by decide), u2_off (by decide), eJ, (hall k hk).2.2]
    · rw [u2_off (by decide)]; exact hth s hs
    · rw [u2_off (by decide), u2_off (by decide), u2_off (by decide)]; exact hall k hk
theorem init_loop {d : Nat} {Q : Rs → Mem → Prop} {M0 : Mem} {n : Nat} {J : Nat → Int} {i1 i2 i3 i4 : Int} {o6 o7 o8 : Option PV} (hV : VJ n J) (hn : M0 175 6 = n) (hJ : M0 151 = J)
    (hQ : ∀ M' o7 o8, FC rcs [] M0 M' → (∀ k, k < n → M' 167 k = 3 ∧ M' 168 k = J (4 * k + 1) ∧ M' 169 k = -1) → L_M_plays_53 d Q M' i1 i2 i3 i4 0 (if n = 0 then -1 else J (4 * (n - 1))) o7 o8) :
    ∀ (m i : Nat) (M : Mem) (o6 o7 o8 : Option PV), i + m = n → FC rcs [] M0 M → (∀ k, k < i → M 167 k = 3 ∧ M 168 k = J (4 * k + 1) ∧ M 169 k = -1) → L_M_plays_8 d Q M i1 i2 i3 i4 (i : Int) o6 o7 o8
  | m, i, M, o6, o7, o8, hi, hf, hM => by
    have h24 := hV.1
    have en : M 175 6 = n := by rw [hf.2 6 (by simp)]; exact hn
    have eJ : M 151 = J := by rw [hf.1 151 (by decide) (by decide)]; exact hJ
    refine b_M_plays_8 ?_
    rw [en, Int.toNat_natCast, eJ, show (4 * (i : Int) + 1).toNat = 4 * i + 1 by omega]
    refine ⟨⟨by omega, by omega⟩, ⟨by omega, by omega⟩, fun z => ⟨fun z2 => ⟨⟨by omega, by omega⟩, ?_⟩, fun z2 => ?_⟩, fun z => ⟨⟨by omega, by omega⟩, ⟨by omega, by omega⟩, ?_⟩⟩
    · have e : i = n := by omega
      subst e
      have := hQ M o7 o8 hf hM
      rw [if_neg (by omega)] at this
      rw [show (4 * (i : Int) - 4).toNat = 4 * (i - 1) by omega]
      exact this
    · have e : i = n := by omega
      subst e
      have := hQ M o7 o8 hf hM
      rw [if_pos (by omega)] at this
      exact this
    · cases m with
      | zero => omega
      | succ m =>
        refine init_loop (o6 := none) (o7 := none) (o8 := none) hV hn hJ hQ m (i + 1) _ _ _ _ (by omega) (((hf.u2 (by simp) (by decide)).u2 (by simp) (by decide)).u2 (by simp) (by decide)) fun k hk => ?_
        rw [u2_off (show (167 : Nat) ≠ 169 by decide), u2_off (show (167 : Nat) ≠ 168 by decide), u2_row, u2_off (show (168 : Nat) ≠ 169 by decide), u2_row, u2_off (show (168 : Nat) ≠ 167 by decide), u2_row, u2_off (show (169 : Nat) ≠ 168 by decide), u2_off (show (169 : Nat) ≠ 167 by decide)]
        by_cases e : k = i
        · subst e; rw [sr_same, sr_same, sr_same]; exact ⟨rfl, rfl, rfl⟩
        · rw [sr_ne e, sr_ne e, sr_ne e]; exact hM k (by omega)
theorem s_plays {d : Nat} {M : Mem} {n : Nat} {J : Nat → Int} {many by_ space wait : Int} (hV : VJ n J) (hn : M 175 6 = n) (hJ : M 151 = J) (hm : 1 ≤ many ∧ many ≤ 4) (hsp : 0 ≤ space ∧ space ≤ 24) (hby : 0 ≤ by_ ∧ by_ ≤ 5) (hw : 1 ≤ wait ∧ wait ≤ 5000) :
    Post (d + 3) cM_plays [oM, .inl many, .inl by_, .inl space, .inl wait] M (fun v M' => FC rcs [40, 41, 42] M M' ∧ ∃ T, RunR M' n J many by_ space wait T ∧ v = pSum n J many by_ space wait T) := by
  intro Q hQ
  have F0 : FC [] [40, 41] M (upd2 (upd2 M 175 40 0) 175 41 0) := (FC.rfl'.slot (by simp)).slot (by simp)
  refine e_M_plays (b_M_plays_0 (init_loop (o6 := none) (o7 := none) (o8 := none) (M0 := upd2 (upd2 M 175 40 0) 175 41 0) hV (by rw [F0.2 6 (by simp)]; exact hn) (by rw [F0.1 151 (by decide) (by decide)]; exact hJ) (fun M1 o7 o8 f1 g1 => ?_) n 0 _ _ _ _ (by omega) FC.rfl' fun k hk => absurd hk (Nat.not_lt_zero k)))
  refine plays_loop (d := d) (M0 := M) hV hn hJ hm hsp hby hw rfl (fun M' T f2 g2 => hQ _ M' ⟨f2, T, g2, rfl⟩) 1500 0 M1 o7 o8 rfl (fun s hs => absurd hs (Nat.not_lt_zero s)) ((F0.mono (by simp) (by simp)).tr (f1.mono (fun _ h => h) (by simp))) ⟨?_, ?_, fun i v h => ?_, fun k hk => ?_⟩ (fun s hs => absurd hs (Nat.not_lt_zero s))
  · rw [f1.2 40 (by simp), u2_ne (by decide), u2_same]; rfl
  · rw [f1.2 41 (by simp), u2_same]; rfl
  · simp [sAt] at h
  · obtain ⟨k1, k2, k3⟩ := g1 k hk
    have e0 : ¬ k < (sAt n J many by_ space wait 0).2.2.1 := Nat.not_lt_zero k
    unfold stR
    rw [if_neg e0, if_neg e0, if_neg e0]
    exact ⟨k1, k2, k3, fun y => absurd y e0⟩
theorem s_playsLine {d : Nat} {M : Mem} {n : Nat} {J : Nat → Int} {many by_ space wait : Int} (hV : VJ n J) (hn : M 175 6 = n) (hJ : M 151 = J) (h8 : M 175 8 = many) (h9 : M 175 9 = by_) (h10 : M 175 10 = space) (h11 : M 175 11 = wait) (hm : 1 ≤ many ∧ many ≤ 4) (hsp : 0 ≤ space ∧ space ≤ 24) (hby : 0 ≤ by_ ∧ by_ ≤ 5) (hw : 1 ≤ wait ∧ wait ≤ 5000) :
    Post (d + 4) cM_playsLine [oM] M (fun v M' => FC rcs [40, 41, 42] M M' ∧ ∃ T, RunR M' n J many by_ space wait T ∧ v = pSum n J many by_ space wait T) := by
  intro Q hQ
  refine e_M_playsLine (b_M_playsLine_0 ?_)
  rw [h8, h9, h10, h11]
  exact (s_plays (d := d) hV hn hJ hm hsp hby hw).cal fun v M' h => hQ v M' h
theorem s_leastSum {d : Nat} {M : Mem} {n : Nat} {J : Nat → Int} (hV : VJ n J) (hn : M 175 6 = n) (hJ : M 151 = J) :
    Post (d + 4) cM_leastSum [oM] M (fun v M' => FC rcs [40, 41, 42] M M' ∧ ∃ T, RunR M' n J 1 5 24 5000 T ∧ v = pSum n J 1 5 24 5000 T) := by
  intro Q hQ
  refine e_M_leastSum (b_M_leastSum_0 ?_)
  exact (s_plays (d := d) hV hn hJ ⟨by decide, by decide⟩ ⟨by decide, by decide⟩ ⟨by decide, by decide⟩ ⟨by decide, by decide⟩).cal fun v M' h => hQ v M' h
