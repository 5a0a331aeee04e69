/-! errors: the reference. -/
theorem maxN_le {f : Nat → Int} {b : Int} (hb : 0 ≤ b) : ∀ n, maxN f n ≤ b ↔ ∀ k, k < n → f k ≤ b := by
  intro n
  induction n with
  | zero => exact ⟨fun _ k h => absurd h (Nat.not_lt_zero k), fun _ => hb⟩
  | succ n ih =>
    show max (maxN f n) (f n) ≤ b ↔ _
    constructor
    · intro h k hk
      by_cases e : k = n
      · rw [e]; omega
      · exact ih.mp (by omega) k (by omega)
    · intro h
      have h1 := ih.mpr fun k hk => h k (by omega)
      have h2 := h n (by omega)
      omega
theorem s_errorsOfPlays {d : Nat} {M : Mem} {n : Nat} {J : Nat → Int} {many by_ space wait : Int} (hV : VJ n J) (hn : M 175 6 = n) (hJ : M 151 = J) (h8 : M 175 8 = many) (h9 : M 175 9 = by_) (h10 : M 175 10 = space) (h11 : M 175 11 = wait) (hok : lineOk many by_ space wait) : Post (d + 5) cM_errorsOfPlays [oM] M (fun v M' => FC rcs [40, 41, 42] M M' ∧ ∃ x1 x2 : Int, flg (e1P n J many by_ space wait) x1 ∧ flg (e2P n J) x2 ∧ v = x1 + x2) := by
  intro Q hQ
  obtain ⟨k1, k2, k3, k4, k5⟩ := hok
  have hm1 := k1.1
  refine e_M_errorsOfPlays (b_M_errorsOfPlays_0 ?_)
  refine (s_playsLine (d := d) hV hn hJ h8 h9 h10 h11 k1 k2 k3 ⟨k4, by omega⟩).cal fun v1 M1 hM1 => ?_
  obtain ⟨f1, T, hT, rfl⟩ := hM1
  have hPT := hT.pt
  have hTl := hPT.le hV hm1
  have rp := pSum_r hV hm1 hPT
  have second : ∀ x1, flg (e1P n J many by_ space wait) x1 → ∀ o1, cald (d + 4) cM_leastSum [oM] M1 (fun r M2 => Rt r (fun v1 => L_M_errorsOfPlays_31 (d + 4) Q M2 o1 x1 v1 0 0) (fun x => Q (.inr x) M2)) := fun x1 h1 o1 => by
    refine (s_leastSum (d := d) hV (by rw [f1.2 6 (by decide)]; exact hn) (by rw [f1.1 151 (by decide) (by decide)]; exact hJ)).cal fun v2 M2 hM2 => ?_
    obtain ⟨f2, U, hU, rfl⟩ := hM2
    have hPU : PT n J 1 5 24 999 U := hU.pt.wait hV (by decide) (by decide) (by decide)
    have eU : pSum n J 1 5 24 5000 U = pSum n J 1 5 24 999 U := pSum_wait hV (by decide) (by decide) (by decide)
    rw [eU]
    have rU : -50000 ≤ pSum n J 1 5 24 999 U ∧ pSum n J 1 5 24 999 U ≤ 50000 := pSum_r hV (by decide) hPU
    have loop : ∀ (f k : Nat), k + f = 6 → ∀ (w : Int) M3, FC rcs [40, 41, 42] M M3 → ((w = 0 ∧ ∀ r : Nat, r < k → ∀ W, PT n J 1 (r : Int) 24 999 W → pSum n J 1 5 24 999 U ≤ pSum n J 1 (r : Int) 24 999 W) ∨ (w = 1 ∧ ¬ e2P n J)) → L_M_errorsOfPlays_31 (d + 4) Q M3 o1 x1 (pSum n J 1 5 24 999 U) w (k : Int) := by
      intro f
      induction f with
      | zero =>
        intro k hk w M3 f3 hw
        have hk : k = 6 := by omega
        subst hk
        rcases hw with ⟨rfl, h⟩ | ⟨rfl, h⟩
        · exact b_M_errorsOfPlays_31 ⟨⟨by decide, by decide⟩, fun _ => ⟨⟨by decide, by decide⟩, fun _ => hQ _ _ ⟨f3, x1, 0, h1, Or.inl ⟨rfl, fun r hr T' W hT' hW => by rw [hT'.uniq hPU]; exact h r hr W hW⟩, rfl⟩, fun z => absurd rfl z⟩, fun z => absurd (by decide) z⟩
        · exact b_M_errorsOfPlays_31 ⟨⟨by decide, by decide⟩, fun _ => ⟨⟨by decide, by decide⟩, fun z => absurd z (by decide), fun _ => hQ _ _ ⟨f3, x1, 1, h1, Or.inr ⟨rfl, h⟩, rfl⟩⟩, fun z => absurd (by decide) z⟩
      | succ f ih =>
        intro k hk w M3 f3 hw
        rcases hw with ⟨rfl, h⟩ | ⟨rfl, h⟩
        · refine b_M_errorsOfPlays_31 ⟨⟨by omega, by omega⟩, fun z => absurd z (by omega), fun _ => ⟨⟨by decide, by decide⟩, fun z => absurd rfl z, fun _ => ?_⟩⟩
          refine (s_plays (d := d + 1) (many := 1) (by_ := (k : Int)) (space := 24) (wait := 5000) hV (by rw [f3.2 6 (by decide)]; exact hn) (by rw [f3.1 151 (by decide) (by decide)]; exact hJ) ⟨by decide, by decide⟩ ⟨by decide, by decide⟩ ⟨by omega, by omega⟩ ⟨by decide, by decide⟩).cal fun v4 M4 hM4 => ?_
          obtain ⟨f4, W, hW, rfl⟩ := hM4
          have hPW : PT n J 1 (k : Int) 24 999 W := hW.pt.wait hV (by decide) (by decide) (by decide)
          have eW : pSum n J 1 (k : Int) 24 5000 W = pSum n J 1 (k : Int) 24 999 W := pSum_wait hV (by decide) (by decide) (by decide)
          rw [eW, show (k : Int) + 1 = ((k + 1 : Nat) : Int) by omega]
          have rW := pSum_r hV (by decide) hPW
          refine ⟨⟨by omega, by omega⟩, ⟨by omega, by omega⟩, fun z => ih (k + 1) (by omega) 0 M4 (f3.tr f4) (Or.inl ⟨rfl, fun r hr W' hW' => ?_⟩), fun z => ih (k + 1) (by omega) 1 M4 (f3.tr f4) (Or.inr ⟨rfl, fun h2 => z (h2 k (by omega) U W hPU hPW)⟩)⟩
          by_cases e : r = k
          · subst e; rw [hW'.uniq hPW]; exact z
          · exact h r (by omega) W' hW'
        · rw [show (k : Int) = ((k : Nat) : Int) from rfl]
          refine b_M_errorsOfPlays_31 ⟨⟨by omega, by omega⟩, fun z => absurd z (by omega), fun _ => ⟨⟨by decide, by decide⟩, fun _ => ?_, fun z => absurd (by decide) z⟩⟩
          rw [show (k : Int) + 1 = ((k + 1 : Nat) : Int) by omega]
          exact ih (k + 1) (by omega) 1 M3 f3 (Or.inr ⟨rfl, h⟩)
    exact loop 6 0 (by decide) 0 M2 (f1.tr f2) (Or.inl ⟨rfl, fun r h => absurd h (Nat.not_lt_zero r)⟩)
  have first : ∀ (f k : Nat), k + f = T → ∀ o3 o4 o5, L_M_errorsOfPlays_5 (d + 4) Q M1 (pSum n J many by_ space wait T - sumN (nmF n J many by_ space wait) k) (k : Int) o3 o4 o5 := by
    intro f
    induction f with
    | zero =>
      intro k hk o3 o4 o5
      have hk : k = T := by omega
      subst hk
      have rn := sumN_24 (nmF_r (by_ := by_) (space := space) (wait := wait) hV hm1) k
      refine b_M_errorsOfPlays_5 ?_
      rw [hT.2.2.1]
      refine ⟨⟨by omega, by omega⟩, ⟨by omega, by omega⟩, fun _ => ⟨⟨by omega, by omega⟩, fun z => second 1 (Or.inr ⟨rfl, fun h => z ?_⟩) _, fun z => second 0 (Or.inl ⟨rfl, (e1P.iff hPT).mpr ?_⟩) _⟩, fun z => absurd (Int.le_refl _) z⟩
      · have := (e1P.iff hPT).mp h
        omega
      · have := Classical.not_not.mp z
        omega
    | succ f ih =>
      intro k hk o3 o4 o5
      refine b_M_errorsOfPlays_5 ?_
      rw [hT.2.2.1, Int.toNat_natCast, hT.2.2.2.1 k (by omega), show (k : Int) + 1 = ((k + 1 : Nat) : Int) by omega]
      refine ⟨⟨by omega, by omega⟩, ⟨by omega, by omega⟩, fun z => absurd z (by omega), fun _ => ⟨⟨by omega, by omega⟩, ?_⟩⟩
      have e : pSum n J many by_ space wait T - sumN (nmF n J many by_ space wait) k - sNum (sMid n J many by_ space wait (k : Int) (sAt n J many by_ space wait k)) = pSum n J many by_ space wait T - sumN (nmF n J many by_ space wait) (k + 1) := by
        show _ = _ - (sumN (nmF n J many by_ space wait) k + nmF n J many by_ space wait k)
        unfold nmF
        omega
      rw [e]
      exact ih (k + 1) (by omega) _ _ _
  have := first T 0 (by omega) none none none
  rw [show sumN (nmF n J many by_ space wait) 0 = 0 from rfl, Int.sub_zero] at this
  exact this
theorem s_isEnveloped {d : Nat} {M : Mem} {n : Nat} {J : Nat → Int} {b : Int} (hV : VJ n J) (hn : M 175 6 = n) (hJ : M 151 = J) (h24 : M 175 24 = b) (hb : 0 ≤ b ∧ b ≤ 999) : Post (d + 4) cM_isEnveloped [oM] M (fun v M' => FC rcs [40, 41, 42] M M' ∧ ((v = 1 ∧ ∀ T, PT n J 1 0 24 999 T → maxN (pTime n J 1 0 24 999 T) n ≤ b) ∨ (v = 0 ∧ ¬ ∀ T, PT n J 1 0 24 999 T → maxN (pTime n J 1 0 24 999 T) n ≤ b))) := by
  intro Q hQ
  have hn24 := hV.1
  refine e_M_isEnveloped (b_M_isEnveloped_0 ?_)
  refine (s_plays (d := d) (many := 1) (by_ := 0) (space := 24) (wait := 5000) hV hn hJ ⟨by decide, by decide⟩ ⟨by decide, by decide⟩ ⟨by decide, by decide⟩ ⟨by decide, by decide⟩).cal fun v1 M1 hM1 => ?_
  obtain ⟨f1, T, hT, rfl⟩ := hM1
  have hPT : PT n J 1 0 24 999 T := hT.pt.wait hV (by decide) (by decide) (by decide)
  have e6 : M1 175 6 = n := by rw [f1.2 6 (by decide)]; exact hn
  have e24 : M1 175 24 = b := by rw [f1.2 24 (by decide)]; exact h24
  have e151 : M1 151 = J := by rw [f1.1 151 (by decide) (by decide)]; exact hJ
  have ht : ∀ k, k < n → M1 170 k - M1 151 (4 * k) = pTime n J 1 0 24 999 T k := fun k hk => by
    rw [(hT.2.2.2.2 k hk).2.2, e151, sAt_wait hV (by decide) (by decide) (by decide : (961 : Int) ≤ 999) T]
    rfl
  have iff : (∀ U, PT n J 1 0 24 999 U → maxN (pTime n J 1 0 24 999 U) n ≤ b) ↔ ∀ k, k < n → pTime n J 1 0 24 999 T k ≤ b := by
    rw [← maxN_le hb.1 n]
    exact ⟨fun h => h T hPT, fun h U hU => by rw [hU.uniq hPT]; exact h⟩
  have loop : ∀ (f k : Nat), k + f = n → ∀ (w : Int) o1, ((w = 1 ∧ ∀ j, j < k → pTime n J 1 0 24 999 T j ≤ b) ∨ (w = 0 ∧ ¬ ∀ j, j < n → pTime n J 1 0 24 999 T j ≤ b)) → L_M_isEnveloped_11 (d + 3) Q M1 o1 w (k : Int) := by
    intro f
    induction f with
    | zero =>
      intro k hk w o1 hw
      have hk : k = n := by omega
      subst hk
      refine b_M_isEnveloped_11 ?_
      rw [e6]
      refine ⟨⟨by omega, by omega⟩, ⟨by omega, by omega⟩, fun _ => ?_, fun z => absurd (Int.le_refl _) z⟩
      rcases hw with ⟨rfl, h⟩ | ⟨rfl, h⟩
      · exact ⟨Or.inr rfl, hQ _ _ ⟨f1, Or.inl ⟨rfl, iff.mpr h⟩⟩⟩
      · exact ⟨Or.inl rfl, hQ _ _ ⟨f1, Or.inr ⟨rfl, fun q => h (iff.mp q)⟩⟩⟩
    | succ f ih =>
      intro k hk w o1 hw
      obtain ⟨_, _, h3, h4⟩ := hPT.job hV (by decide) (show k < n by omega)
      have hp : -2000 ≤ pTime n J 1 0 24 999 T k ∧ pTime n J 1 0 24 999 T k ≤ 2000 := by
        unfold pTime
        omega
      refine b_M_isEnveloped_11 ?_
      rw [e6, e24, show (4 * (k : Int)).toNat = 4 * k by omega, Int.toNat_natCast, ht k (by omega), show (k : Int) + 1 = ((k + 1 : Nat) : Int) by omega]
      refine ⟨⟨by omega, by omega⟩, ⟨by omega, by omega⟩, fun z => absurd z (by omega), fun _ => ?_⟩
      rcases hw with ⟨rfl, h⟩ | ⟨rfl, h⟩
      · refine ⟨⟨by decide, by decide⟩, fun z => absurd z (by decide), fun _ => ⟨⟨by omega, by omega⟩, ⟨by omega, by omega⟩, ⟨by omega, by omega⟩, ⟨by omega, by omega⟩, fun z => ih (k + 1) (by omega) 0 _ (Or.inr ⟨rfl, fun q => ?_⟩), fun z => ih (k + 1) (by omega) 1 _ (Or.inl ⟨rfl, fun j hj => ?_⟩)⟩⟩
        · have := q k (by omega)
          omega
        · by_cases e : j = k
          · rw [e]; omega
          · exact h j (by omega)
      · exact ⟨⟨by decide, by decide⟩, fun _ => ih (k + 1) (by omega) 0 _ (Or.inr ⟨rfl, h⟩), fun z => absurd rfl z⟩
  exact loop n 0 (by omega) 1 _ (Or.inl ⟨rfl, fun j h => absurd h (Nat.not_lt_zero j)⟩)
abbrev erCs : List Nat := 173 :: 174 :: rcs
theorem FC.erC {cs ss : List Nat} {M M' : Mem} (h : FC cs ss M M') (h3 : 163 ∉ cs) (h4 : 164 ∉ cs) (h5 : 165 ∉ cs) (h1 : ∀ a, a ∈ cs → a ∈ erCs) (h2 : ∀ a, a ∈ ss → a ∈ [0, 40, 41, 42]) : FM erCs [0, 40, 41, 42] errF M M' := (h.fm h3 h4 h5).mono h1 h2 (by simp)
theorem RC.er {M M' : Mem} {n : Nat} {b : Int} {A : Nat → Nat → Int} {ss l : List Nat} (h : RC M n b A) (hf : FM erCs ss l M M') (h2 : 16 ∉ ss) (h3 : 17 ∉ ss) : RC M' n b A := h.fm' hf (by decide) h2 h3
theorem s_Merrors {d : Nat} {M : Mem} {n : Nat} {J : Nat → Int} {many by_ space wait : Int} {c : Nat} {cb : Int} {cA : Nat → Nat → Int} {k : Nat} {C S : Nat → Int} {A : Nat → Nat → Int} {b a p : Int} {m : Nat} {L B P GC GS : Nat → Int}
    (hV : VJ n J) (hn : M 175 6 = n) (hJ : M 151 = J) (h8 : M 175 8 = many) (h9 : M 175 9 = by_) (h10 : M 175 10 = space) (h11 : M 175 11 = wait) (hok : lineOk many by_ space wait) (hC : RC M c cb cA) (hcO : cOk c cb cA) (hN : NR M k C S A) (hO : nOk k C S A) (hE : RE M b a p m L B P) (heO : envOk b a p) (hg : gOk GC GS) (h161 : M 161 = GC) (h162 : M 162 = GS) :
    Post (d + 10) cM_errors [oM] M (fun v M' => FM erCs [0, 40, 41, 42] errF M M' ∧ M' 175 0 = 0 ∧ errV n J many by_ space wait k C S A b a p GC GS v) := by
  intro Q hQ
  refine e_M_errors (b_M_errors_0 ?_)
  refine (s_errorsOfPlays (d := d + 4) hV hn hJ h8 h9 h10 h11 hok).cal fun v1 M1 hM1 => ?_
  obtain ⟨f1, x1, x2, h1, h2, rfl⟩ := hM1
  have F1 : FM erCs [0, 40, 41, 42] errF M M1 := f1.erC (by decide) (by decide) (by decide) (fun a h => List.mem_cons_of_mem _ (List.mem_cons_of_mem _ h)) (by simp)
  have st3 : ∀ M2, FM [173] [] errF M1 M2 → L_M_errors_15 (d + 9) Q M2 (x1 + x2) := fun M2 f2 => by
    have F2 : FM erCs [0, 40, 41, 42] errF M M2 := F1.tr (f2.mono (by simp) (by simp) (fun _ h => h))
    have N2 : NR M2 k C S A := hN.kept F2 (by decide) (by decide) (by decide) (by decide)
    refine b_M_errors_15 ?_
    refine (s_MisClosed (d := d + 7) N2 hO).cal fun v3 M3 hM3 => ?_
    obtain ⟨rfl, hv3⟩ := hM3
    have go4 : ∀ x4 M4, flg (e4P k C S A) x4 → FM erCs [0, 40, 41, 42] errF M M4 → L_M_errors_27 (d + 9) Q M4 (x1 + x2 + x4) := fun x4 M4 h4 F4 => by
      have E4 : RE M4 b a p m L B P := by
        obtain ⟨e1, e2, e3, e4, e5, e6, e7⟩ := hE
        refine ⟨by rw [F4.2.1 24 (by decide)]; exact e1, by rw [F4.2.1 25 (by decide)]; exact e2, by rw [F4.2.1 26 (by decide)]; exact e3, by rw [F4.2.1 27 (by decide)]; exact e4, ?_, ?_, ?_⟩
        · rw [F4.1 158 (by decide) (by decide) (by decide) (by decide) (by decide)]; exact e5
        · rw [F4.1 159 (by decide) (by decide) (by decide) (by decide) (by decide)]; exact e6
        · rw [F4.1 160 (by decide) (by decide) (by decide) (by decide) (by decide)]; exact e7
      have n4 : M4 175 6 = n := by rw [F4.2.1 6 (by decide)]; exact hn
      have j4 : M4 151 = J := by rw [F4.1 151 (by decide) (by decide) (by decide) (by decide) (by decide)]; exact hJ
      have fin : ∀ x5 M5, flg (e5P n J b a p) x5 → FM erCs [0, 40, 41, 42] errF M M5 → L_M_errors_44 (d + 9) Q M5 (x1 + x2 + x4 + x5) := fun x5 M5 h5 F5 => by
        refine b_M_errors_44 ?_
        refine (s_isBalanced (d := d + 6) (P := 10) hg (by rw [F5.1 161 (by decide) (by decide) (by decide) (by decide) (by decide)]; exact h161) (by rw [F5.1 162 (by decide) (by decide) (by decide) (by decide) (by decide)]; exact h162) (by decide)).cal fun v6 M6 hM6 => ?_
        obtain ⟨f6, hv6⟩ := hM6
        have F6 : FM erCs [0, 40, 41, 42] errF M M6 := F5.tr (f6.erC (by decide) (by decide) (by decide) (by simp) (by simp))
        have told : ∀ x6, flg (e6P GC GS) x6 → cald (d + 9) cM_told [oM, .inl (x1 + x2 + x4 + x5 + x6)] M6 (fun r M2 => Rt r (fun v2 => Q (.inl v2) M2) (fun x => Q (.inr x) M2)) := fun x6 h6 => (s_told (d := d + 8)).cal fun v7 M7 hM7 => by
          obtain ⟨rfl, rfl⟩ := hM7
          exact hQ _ _ ⟨F6.tr ((FM.slot (s := 0)).mono (by simp) (by simp) (by simp)), u2_same, x1, x2, x4, x5, x6, h1, h2, h4, h5, h6, rfl⟩
        rcases hv6 with ⟨rfl, g⟩ | ⟨rfl, g⟩
        · exact ⟨⟨by decide, by decide⟩, fun z => absurd z (by decide), fun _ => told 0 (Or.inl ⟨rfl, g⟩)⟩
        · exact ⟨⟨by decide, by decide⟩, fun _ => told 1 (Or.inr ⟨rfl, g⟩), fun z => absurd rfl z⟩
      refine b_M_errors_27 ?_
      refine (s_Mfit (d := d + 8) E4 heO hV j4 n4).cal fun v5 M5 hM5 => ?_
      obtain ⟨rfl, hv5⟩ := hM5
      rcases hv5 with ⟨rfl, g⟩ | ⟨rfl, g⟩
      · obtain ⟨o1, o2, o3⟩ := heO
        rw [E4.2.1, E4.2.2.1]
        refine ⟨⟨by decide, by decide⟩, fun z => absurd z (by decide), fun _ => ⟨⟨by omega, by omega⟩, ⟨by omega, by omega⟩, fun z => fin 0 M5 (Or.inl ⟨rfl, fun q => absurd q (by omega)⟩) F4, fun z => ?_⟩⟩
        refine (s_isEnveloped (d := d + 5) hV n4 j4 E4.1 o1).cal fun v6 M6 hM6 => ?_
        obtain ⟨f6, hv6⟩ := hM6
        have F6 : FM erCs [0, 40, 41, 42] errF M M6 := F4.tr (f6.erC (by decide) (by decide) (by decide) (fun a h => List.mem_cons_of_mem _ (List.mem_cons_of_mem _ h)) (by simp))
        rcases hv6 with ⟨rfl, y⟩ | ⟨rfl, y⟩
        · exact ⟨⟨by decide, by decide⟩, fun z => absurd z (by decide), fun _ => fin 0 M6 (Or.inl ⟨rfl, fun _ _ => y⟩) F6⟩
        · exact ⟨⟨by decide, by decide⟩, fun _ => fin 1 M6 (Or.inr ⟨rfl, fun h => y (h (by omega) g)⟩) F6, fun z => absurd rfl z⟩
      · exact ⟨⟨by decide, by decide⟩, fun _ => fin 0 M5 (Or.inl ⟨rfl, fun _ q => absurd q g⟩) F4, fun z => absurd rfl z⟩
    rcases hv3 with ⟨rfl, g⟩ | ⟨rfl, g⟩
    · refine ⟨⟨by decide, by decide⟩, fun z => absurd z (by decide), fun _ => ?_⟩
      refine (s_allStay (d := d + 1) N2 hO g).cal fun v4 M4 hM4 => ?_
      obtain ⟨f4, hv4⟩ := hM4
      have F4 : FM erCs [0, 40, 41, 42] errF M M4 := F2.tr (f4.mono (by simp) (by simp) (fun _ h => h))
      rcases hv4 with ⟨rfl, y⟩ | ⟨rfl, y⟩
      · exact ⟨⟨by decide, by decide⟩, fun z => absurd z (by decide), fun _ => go4 0 M4 (Or.inl ⟨rfl, fun _ => y⟩) F4⟩
      · exact ⟨⟨by decide, by decide⟩, fun _ => go4 1 M4 (Or.inr ⟨rfl, fun h => y (h g)⟩) F4, fun z => absurd rfl z⟩
    · exact ⟨⟨by decide, by decide⟩, fun _ => go4 0 M3 (Or.inl ⟨rfl, fun h => absurd h g⟩) F2, fun z => absurd rfl z⟩
  have C1 := hC.er F1 (by decide) (by decide)
  refine (s_MisLawful (d := d + 7) C1 hcO).cal fun v2 M2 hM2 => ?_
  obtain ⟨rfl, hv2⟩ := hM2
  rcases hv2 with ⟨rfl, g⟩ | ⟨rfl, g⟩
  · refine ⟨⟨by decide, by decide⟩, fun z => absurd z (by decide), fun _ => ?_⟩
    refine (s_areAllShares (d := d) C1 hcO g).cal fun v3 M3 hM3 => ?_
    obtain ⟨f3, rfl⟩ := hM3
    rw [Int.add_zero]
    exact ⟨⟨by decide, by decide⟩, fun z => absurd z (by decide), fun _ => st3 M3 f3⟩
  · rw [Int.add_zero]
    exact ⟨⟨by decide, by decide⟩, fun _ => st3 M2 FM.rfl', fun z => absurd rfl z⟩
