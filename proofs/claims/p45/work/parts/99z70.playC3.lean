/-! The class plays: letIn, seat. -/
theorem IsPlay.n {r : Nat} (h : IsPlay r) : r = 54 ∨ r = 63 := h
/-- who isn't served yet stands not below o -/
def OldP (o : Nat) (x : SG) : Prop := o ≤ x.2.2.1 ∧ ∀ j, j ∈ x.1 → x.2.2.2 2 j = -1 → o ≤ j
theorem in_56 {d : Nat} {Q : Rs → Mem → Prop} {M : Mem} {r n : Nat} {J : Nat → Int} {many by_ space wait t : Int} {x : SG} (hr : IsPlay r) (hn : n ≤ 24) (hx : x.2.2.1 < n) (hm : 1 ≤ many ∧ many ≤ 4) (hsp : 0 ≤ space ∧ space ≤ 24) (h8 : x.1.length + x.2.1.length ≤ x.2.2.1)
    (hc : CPl M r J many by_ space wait x) (hnew : M (r + 3) x.2.2.1 = -1 ∧ M (r + 4) x.2.2.1 = t ∧ M (r + 5) x.2.2.1 = J (4 * x.2.2.1 + 1) ∧ M (r + 6) x.2.2.1 = if by_ = 3 then J (4 * x.2.2.1 + 2) else J (4 * x.2.2.1 + 1))
    (hQ : ∀ M', Fr (pcs r) M M' → CPl M' r J many by_ space wait (sIn1 J (many + space) t x) → (∀ s, s ≠ 12 → s ≠ 15 → M' r s = M r s) → M' (r + 1) = M (r + 1) → L_P_letIn_0 (d + 1) Q M' r t) : L_P_letIn_56 (d + 1) Q M r t := by
  obtain ⟨row, srv, nx, F⟩ := x
  obtain ⟨c0, c1, c2, c3, c4, c5, c6, c7, c8, c9⟩ := hc
  dsimp only at *
  refine b_P_letIn_56 hr ?_
  rw [c4, c5, c0, c2, c6, Int.toNat_natCast, u2_off (show r ≠ r + 2 by omega), u2_off (show r ≠ r + 2 by omega), c6]
  unfold sIn1 at hQ
  dsimp only at hQ
  have keep : ∀ (v : Int) (c k : Nat), k ≠ nx → upd2 (inF J t nx F) 0 nx v c k = F c k := fun v c k hk => by
    unfold inF
    rw [u2', if_neg fun z => hk z.2, u2', if_neg fun z => hk z.2, u2', if_neg fun z => hk z.2, u2', if_neg fun z => hk z.2]
  have new : ∀ (v : Int), upd2 (inF J t nx F) 0 nx v 0 nx = v ∧ upd2 (inF J t nx F) 0 nx v 1 nx = J (4 * nx + 1) ∧ upd2 (inF J t nx F) 0 nx v 2 nx = -1 ∧ upd2 (inF J t nx F) 0 nx v 3 nx = t := fun v => by
    unfold inF
    refine ⟨u2_same, ?_, ?_, ?_⟩
    · rw [u2_off (by decide), u2_same]
    · rw [u2_off (by decide), u2_off (by decide), u2_off (by decide), u2_same]
    · rw [u2_off (by decide), u2_off (by decide), u2_same]
  have K : ∀ (v : Int) (M' : Mem), (∀ k, k < nx → M' (r + 2) k = M (r + 2) k) → M' (r + 2) nx = v → M' (r + 3) = M (r + 3) → M' (r + 4) = M (r + 4) → M' (r + 5) = M (r + 5) → M' (r + 6) = M (r + 6) → ∀ k, k < nx + 1 → M' (r + 2) k = upd2 (inF J t nx F) 0 nx v 0 k ∧ M' (r + 3) k = upd2 (inF J t nx F) 0 nx v 2 k ∧ M' (r + 4) k = upd2 (inF J t nx F) 0 nx v 3 k ∧ M' (r + 5) k = upd2 (inF J t nx F) 0 nx v 1 k ∧ M' (r + 6) k = if by_ = 3 then J (4 * k + 2) else J (4 * k + 1) := by
    intro v M' e2 e2' e3 e4 e5 e6 k hk
    rw [e3, e4, e5, e6]
    by_cases e : k = nx
    · subst e
      obtain ⟨w0, w1, w2, w3⟩ := new v
      rw [e2', w0, w1, w2, w3]
      exact ⟨rfl, hnew.1, hnew.2.1, hnew.2.2.1, hnew.2.2.2⟩
    · rw [keep _ _ _ e, keep _ _ _ e, keep _ _ _ e, keep _ _ _ e, e2 k (by omega)]
      exact c9 k (by omega)
  refine ⟨⟨by omega, by omega⟩, ⟨by omega, by omega⟩, fun z => ⟨⟨by omega, by omega⟩, ?_⟩, fun z => ⟨⟨by omega, by omega⟩, ?_⟩⟩
  · rw [if_neg (by omega)] at hQ
    refine hQ _ ((Fr.rfl'.u2 (by simp)).u2 (by simp)) ?_ (fun s h1 h2 => ?_) ?_
    · refine ⟨?_, ?_, ?_, ?_, ?_, ?_, ?_, ?_, ?_, ?_⟩
      · rw [u2_ne (by decide), u2_off (by omega)]; exact c0
      · rw [u2_ne (by decide), u2_off (by omega)]; exact c1
      · rw [u2_ne (by decide), u2_off (by omega)]; exact c2
      · rw [u2_ne (by decide), u2_off (by omega)]; exact c3
      · rw [u2_ne (by decide), u2_off (by omega)]; exact c4
      · rw [u2_ne (by decide), u2_off (by omega)]; exact c5
      · rw [u2_same]; show (nx : Int) + 1 = ((nx + 1 : Nat) : Int); omega
      · rw [u2_off (by omega), u2_off (by omega)]; exact c7
      · rw [u2_off (by omega), u2_off (by omega)]; exact c8
      · refine K 2 _ (fun k hk => ?_) ?_ ?_ ?_ ?_ ?_
        · rw [u2_off (by omega), u2_ne (by omega)]
        · rw [u2_off (by omega), u2_same]
        · rw [u2_off (by omega), u2_off (by omega)]
        · rw [u2_off (by omega), u2_off (by omega)]
        · rw [u2_off (by omega), u2_off (by omega)]
        · rw [u2_off (by omega), u2_off (by omega)]
    · rw [u2_ne h2, u2_off (by omega)]
    · rw [u2_off (by omega), u2_off (by omega)]
  · rw [if_pos (by omega)] at hQ
    refine (s_putInRow (d := d) (w := row.length) hr (by rw [u2_off (by omega)]; exact c4) (by omega)).cal fun v1 M1 hM1 => ?_
    subst hM1
    rw [u2_ne (by decide), u2_off (show r ≠ r + 7 by omega), u2_off (show r ≠ r + 2 by omega), c6]
    refine hQ _ ((((Fr.rfl'.u2 (by simp)).u2 (by simp)).u2 (by simp)).u2 (by simp)) ?_ (fun s h1 h2 => ?_) ?_
    · refine ⟨?_, ?_, ?_, ?_, ?_, ?_, ?_, ?_, ?_, ?_⟩
      · rw [u2_ne (by decide), u2_ne (by decide), u2_off (by omega), u2_off (by omega)]; exact c0
      · rw [u2_ne (by decide), u2_ne (by decide), u2_off (by omega), u2_off (by omega)]; exact c1
      · rw [u2_ne (by decide), u2_ne (by decide), u2_off (by omega), u2_off (by omega)]; exact c2
      · rw [u2_ne (by decide), u2_ne (by decide), u2_off (by omega), u2_off (by omega)]; exact c3
      · rw [u2_ne (by decide), u2_same]
        show (row.length : Int) + 1 = ((row ++ [nx]).length : Int)
        rw [List.length_append]; rfl
      · rw [u2_ne (by decide), u2_ne (by decide), u2_off (by omega), u2_off (by omega)]; exact c5
      · rw [u2_same]; show (nx : Int) + 1 = ((nx + 1 : Nat) : Int); omega
      · rw [u2_off (by omega), u2_off (by omega), u2_row, u2_off (by omega)]; exact c7.app
      · rw [u2_off (by omega), u2_off (by omega), u2_off (by omega), u2_off (by omega)]; exact c8
      · refine K 3 _ (fun k hk => ?_) ?_ ?_ ?_ ?_ ?_
        · rw [u2_off (by omega), u2_off (by omega), u2_off (by omega), u2_ne (by omega)]
        · rw [u2_off (by omega), u2_off (by omega), u2_off (by omega), u2_same]
        · rw [u2_off (by omega), u2_off (by omega), u2_off (by omega), u2_off (by omega)]
        · rw [u2_off (by omega), u2_off (by omega), u2_off (by omega), u2_off (by omega)]
        · rw [u2_off (by omega), u2_off (by omega), u2_off (by omega), u2_off (by omega)]
        · rw [u2_off (by omega), u2_off (by omega), u2_off (by omega), u2_off (by omega)]
    · rw [u2_ne h2, u2_ne h1, u2_off (by omega), u2_off (by omega)]
    · rw [u2_off (by omega), u2_off (by omega), u2_off (by omega), u2_off (by omega)]
theorem letIn_loop {d : Nat} {Q : Rs → Mem → Prop} {M0 : Mem} {r n : Nat} {J : Nat → Int} {many by_ space wait t : Int} (hr : IsPlay r) (hV : VJ n J) (hn : M0 117 0 = n) (hJ : M0 94 = J) (hm : 1 ≤ many ∧ many ≤ 4) (hsp : 0 ≤ space ∧ space ≤ 24) (hby : 0 ≤ by_ ∧ by_ ≤ 5) (ht : 0 ≤ t ∧ t ≤ 1500) :
    ∀ (f : Nat) (x : SG) (M : Mem), PVi n many t x → n ≤ x.2.2.1 + f → Fr (pcs r) M0 M → CPl M r J many by_ space wait x → (∀ s, s ≠ 12 → s ≠ 15 → M r s = M0 r s) → M (r + 1) = M0 (r + 1) →
    (∀ M', Fr (pcs r) M0 M' → CPl M' r J many by_ space wait (sIn n J (many + space) t f x) → (∀ s, s ≠ 12 → s ≠ 15 → M' r s = M0 r s) → M' (r + 1) = M0 (r + 1) → Q (.inl 0) M') → L_P_letIn_0 (d + 1) Q M r t
  | f, x, M, hp, hfu, hf, hc, hs, h1, hQ => by
    have hr' := hr.n
    have h24 := hV.1
    have hx1 := hp.1
    have e94 : M 94 = J := by rw [hf 94 (by simp; omega)]; exact hJ
    have e117 : M 117 0 = n := by rw [hf 117 (by simp; omega)]; exact hn
    have hc0 := hc
    obtain ⟨c0, c1, c2, c3, c4, c5, c6, c7, c8, c9⟩ := hc
    have stop : ¬ (x.2.2.1 < n ∧ J (4 * x.2.2.1) ≤ t) → Q (.inl 0) M := fun z => by
      refine hQ M hf ?_ hs h1
      cases f with
      | zero => exact hc0
      | succ f => unfold sIn; rw [if_neg z]; exact hc0
    refine b_P_letIn_0 hr ?_
    rw [c6, e117, hr.al2]
    refine ⟨⟨by omega, by omega⟩, ⟨by omega, by omega⟩, fun z => stop (by omega), fun z => ⟨⟨by decide, by decide⟩, fun z2 => absurd z2 (by omega), fun z2 => ?_⟩⟩
    refine (s_Jpart (d := d) (k := x.2.2.1) (p := 0) (by omega) (by decide)).cal fun v1 M1 hM1 => ?_
    obtain ⟨rfl, rfl⟩ := hM1
    have hxn : x.2.2.1 < n := by omega
    obtain ⟨j1, j2, j3, j4⟩ := hV.2.1 x.2.2.1 hxn
    rw [e94, Nat.add_zero]
    refine ⟨⟨by omega, by omega⟩, ⟨by omega, by omega⟩, fun z3 => stop (by omega), fun z3 => ?_⟩
    cases f with
    | zero => omega
    | succ f =>
      have estep : sIn n J (many + space) t (f + 1) x = sIn n J (many + space) t f (sIn1 J (many + space) t x) := by
        show (if x.2.2.1 < n ∧ J (4 * x.2.2.1) ≤ t then _ else _) = _
        rw [if_pos ⟨hxn, by omega⟩]
      rw [estep] at hQ
      have e15 : ∀ (A : Mem), A r = M1 r → A r 15 = (x.2.2.1 : Int) := fun A h => by rw [h]; exact c6
      have e1 : ∀ (A : Mem), A r = M1 r → A r 1 = by_ := fun A h => by rw [h]; exact c1
      rw [c6, Int.toNat_natCast]
      refine ⟨⟨by omega, by omega⟩, ?_⟩
      rw [e15 _ (u2_off (show r ≠ r + 3 by omega)), Int.toNat_natCast]
      refine ⟨⟨by omega, by omega⟩, ?_⟩
      have a2 : (upd2 (upd2 M1 (r + 3) x.2.2.1 (-1)) (r + 4) x.2.2.1 t) r = M1 r := by rw [u2_off (by omega), u2_off (by omega)]
      rw [e15 _ a2]
      refine (s_Jpart (d := d) (k := x.2.2.1) (p := 1) (by omega) (by decide)).cal fun v2 M2 hM2 => ?_
      obtain ⟨rfl, rfl⟩ := hM2
      have v94 : (upd2 (upd2 M1 (r + 3) x.2.2.1 (-1)) (r + 4) x.2.2.1 t) 94 = J := by rw [u2_off (by omega), u2_off (by omega)]; exact e94
      rw [v94, Int.toNat_natCast]
      refine ⟨⟨by omega, by omega⟩, ?_⟩
      have a3 : ∀ v, (upd2 (upd2 (upd2 M1 (r + 3) x.2.2.1 (-1)) (r + 4) x.2.2.1 t) (r + 5) x.2.2.1 v) r = M1 r := fun v => by rw [u2_off (by omega), u2_off (by omega), u2_off (by omega)]
      rw [e15 _ (a3 _), e1 _ (a3 _), Int.toNat_natCast]
      have v94b : ∀ v, (upd2 (upd2 (upd2 M1 (r + 3) x.2.2.1 (-1)) (r + 4) x.2.2.1 t) (r + 5) x.2.2.1 v) 94 = J := fun v => by rw [u2_off (by omega), u2_off (by omega), u2_off (by omega)]; exact e94
      have go : ∀ (w : Int), w = (if by_ = 3 then J (4 * x.2.2.1 + 2) else J (4 * x.2.2.1 + 1)) → L_P_letIn_56 (d + 1) Q (upd2 (upd2 (upd2 (upd2 M1 (r + 3) x.2.2.1 (-1)) (r + 4) x.2.2.1 t) (r + 5) x.2.2.1 (J (4 * x.2.2.1 + 1))) (r + 6) x.2.2.1 w) r t := by
        intro w hw
        have R : ∀ q, q ≠ r + 3 → q ≠ r + 4 → q ≠ r + 5 → q ≠ r + 6 → (upd2 (upd2 (upd2 (upd2 M1 (r + 3) x.2.2.1 (-1)) (r + 4) x.2.2.1 t) (r + 5) x.2.2.1 (J (4 * x.2.2.1 + 1))) (r + 6) x.2.2.1 w) q = M1 q := fun q q3 q4 q5 q6 => by
          rw [u2_off q6, u2_off q5, u2_off q4, u2_off q3]
        have hf4 : Fr (pcs r) M1 (upd2 (upd2 (upd2 (upd2 M1 (r + 3) x.2.2.1 (-1)) (r + 4) x.2.2.1 t) (r + 5) x.2.2.1 (J (4 * x.2.2.1 + 1))) (r + 6) x.2.2.1 w) := (((Fr.rfl'.u2 (by simp)).u2 (by simp)).u2 (by simp)).u2 (by simp)
        refine in_56 (n := n) (J := J) (many := many) (by_ := by_) (space := space) (wait := wait) (x := x) hr h24 hxn hm hsp hp.2.2.2.2.2.2.2.1 ?_ ?_ (fun M' g1 g2 g3 g4 => ?_)
        · refine ⟨?_, ?_, ?_, ?_, ?_, ?_, ?_, ?_, ?_, fun k hk => ?_⟩
          · rw [R r (by omega) (by omega) (by omega) (by omega)]; exact c0
          · rw [R r (by omega) (by omega) (by omega) (by omega)]; exact c1
          · rw [R r (by omega) (by omega) (by omega) (by omega)]; exact c2
          · rw [R r (by omega) (by omega) (by omega) (by omega)]; exact c3
          · rw [R r (by omega) (by omega) (by omega) (by omega)]; exact c4
          · rw [R r (by omega) (by omega) (by omega) (by omega)]; exact c5
          · rw [R r (by omega) (by omega) (by omega) (by omega)]; exact c6
          · rw [R _ (by omega) (by omega) (by omega) (by omega)]; exact c7
          · rw [R _ (by omega) (by omega) (by omega) (by omega)]; exact c8
          · rw [R (r + 2) (by omega) (by omega) (by omega) (by omega), u2_off (show r + 3 ≠ r + 6 by omega), u2_off (show r + 3 ≠ r + 5 by omega), u2_off (show r + 3 ≠ r + 4 by omega), u2_ne (show k ≠ x.2.2.1 by omega), u2_off (show r + 4 ≠ r + 6 by omega), u2_off (show r + 4 ≠ r + 5 by omega), u2_ne (show k ≠ x.2.2.1 by omega), u2_off (show r + 4 ≠ r + 3 by omega), u2_off (show r + 5 ≠ r + 6 by omega), u2_ne (show k ≠ x.2.2.1 by omega), u2_off (show r + 5 ≠ r + 4 by omega), u2_off (show r + 5 ≠ r + 3 by omega), u2_ne (show k ≠ x.2.2.1 by omega), u2_off (show r + 6 ≠ r + 5 by omega), u2_off (show r + 6 ≠ r + 4 by omega), u2_off (show r + 6 ≠ r + 3 by omega)]
            exact c9 k hk
        · refine ⟨?_, ?_, ?_, ?_⟩
          · rw [u2_off (by omega), u2_off (by omega), u2_off (by omega), u2_same]
          · rw [u2_off (by omega), u2_off (by omega), u2_same]
          · rw [u2_off (by omega), u2_same]
          · rw [u2_same]; exact hw
        · refine letIn_loop hr hV hn hJ hm hsp hby ht f _ M' (sIn1_pvi ht.1 hV hp hxn) (by rw [sIn1_F.1]; omega) ((hf.tr hf4).tr g1) g2 (fun s q1 q2 => ?_) ?_ hQ
          · rw [g3 s q1 q2, R r (by omega) (by omega) (by omega) (by omega)]; exact hs s q1 q2
          · rw [g4, R (r + 1) (by omega) (by omega) (by omega) (by omega)]; exact h1
      have hb : R32 by_ := ⟨by omega, by omega⟩
      refine ⟨hb, fun z4 => ?_, fun z4 => ?_⟩
      · refine (s_Jpart (d := d) (k := x.2.2.1) (p := 1) (by omega) (by decide)).cal fun v3 M3 hM3 => ?_
        obtain ⟨rfl, rfl⟩ := hM3
        rw [v94b]
        exact ⟨⟨by omega, by omega⟩, go _ (by rw [if_neg z4])⟩
      · refine (s_Jpart (d := d) (k := x.2.2.1) (p := 2) (by omega) (by decide)).cal fun v3 M3 hM3 => ?_
        obtain ⟨rfl, rfl⟩ := hM3
        rw [v94b]
        exact ⟨⟨by omega, by omega⟩, go _ (by rw [if_pos (Classical.not_not.mp z4)])⟩
/-- places among those who are served -/
theorem seat_36 {d : Nat} {Q : Rs → Mem → Prop} {M0 : Mem} {r j b : Nat} {t free : Int} {srv : List Nat} (hr : IsPlay r) (hb : srv.length = b) (hb4 : b < 4) (h14 : M0 r 14 = b) (hl : LM (M0 (r + 8)) srv) (hj : j < 24) (h8 : ∀ i, i ∈ srv → i < 24)
    (hQ : ∀ M' o3 o4, Fr [r, r + 8] M0 M' → LM (M' (r + 8)) (srv.insertIdx (ipl srv j b) j) → M' r 14 = ((b + 1 : Nat) : Int) → (∀ s, s ≠ 14 → M' r s = M0 r s) → L_P_seat_6 d Q M' r t (free + -1) o3 o4) :
    ∀ (p : Nat) (M : Mem), p ≤ b → Fr [r + 8] M0 M → (∀ i, i < p → M (r + 8) i = M0 (r + 8) i) → (∀ i, p < i → i ≤ b → M (r + 8) i = M0 (r + 8) (i - 1)) → ipl srv j b = ipl srv j p → L_P_seat_36 d Q M r t free (j : Int) (p : Int)
  | p, M, hp, hf, hlo, hhi, hi => by
    have e14 : M r 14 = b := by rw [hf r (by simp)]; exact h14
    have hi' := ipl_le (l := srv) (j := j) b
    have fin : ipl srv j b = p → (0 ≤ (p : Int) ∧ (p : Int) < 4) ∧ (L_P_seat_6 d Q (upd2 (upd2 M (r + 8) p (j : Int)) r 14 (((upd2 M (r + 8) p (j : Int)) r 14) + 1)) r t (free + (-1)) (some (.inl (j : Int))) (some (.inl (p : Int)))) := by
      intro e
      refine ⟨⟨by omega, by omega⟩, ?_⟩
      rw [u2_off (show r ≠ r + 8 by omega), e14]
      refine hQ _ _ _ (((hf.mono (by simp)).u2 (by simp)).u2 (by simp)) ?_ (by rw [u2_same]; omega) (fun s hs => ?_)
      · rw [u2_off (show r + 8 ≠ r by omega), u2_row, e]
        intro i v hv
        rw [List.getElem?_insertIdx] at hv
        by_cases q : i < p
        · rw [if_pos q] at hv
          rw [sr_ne (by omega), hlo i q]
          exact hl i v hv
        · rw [if_neg q] at hv
          by_cases q2 : i = p
          · rw [if_pos q2, if_pos (by omega)] at hv
            cases hv
            subst q2
            exact sr_same
          · rw [if_neg q2] at hv
            have hib : i - 1 < b := by
              rcases Nat.lt_or_ge (i - 1) srv.length with z | z
              · omega
              · rw [List.getElem?_eq_none z] at hv; cases hv
            rw [sr_ne q2, hhi i (by omega) (by omega)]
            exact hl (i - 1) v hv
      · rw [u2_ne hs, u2_off (by omega), hf r (by simp)]
    refine b_P_seat_36 hr ?_
    rw [Int.toNat_natCast]
    refine ⟨⟨by omega, by omega⟩, fun z => ?_, fun z => ⟨⟨by omega, by omega⟩, ?_⟩⟩
    · have e : p = 0 := by omega
      subst e
      exact fin hi
    · obtain ⟨q, rfl⟩ : ∃ q, p = q + 1 := ⟨p - 1, by omega⟩
      rw [show (((q + 1 : Nat) : Int) - 1).toNat = q by omega, hlo q (by omega), hl.at_ (show q < srv.length by omega)]
      have hm : srv.getD q 0 ∈ srv := by rw [getD_lt (by omega)]; exact List.getElem_mem _
      have := h8 _ hm
      have hu : ipl srv j (q + 1) = if j < srv.getD q 0 then ipl srv j q else q + 1 := rfl
      refine ⟨⟨by omega, by omega⟩, ⟨by omega, by omega⟩, fun z2 => ?_, fun z2 => ⟨⟨by omega, by omega⟩, ?_⟩⟩
      · rw [if_neg (by omega)] at hu
        exact fin (hi.trans hu)
      · rw [if_pos (by omega)] at hu
        rw [show ((q + 1 : Nat) : Int) + -1 = (q : Int) by omega, ← hl.at_ (show q < srv.length by omega)]
        refine seat_36 hr hb hb4 h14 hl hj h8 hQ q _ (by omega) (hf.u2 (by simp)) (fun i hi => ?_) (fun i h1 h2 => ?_) (hi.trans hu)
        · rw [u2_ne (by omega)]; exact hlo i (by omega)
        · by_cases e : i = q + 1
          · subst e
            rw [u2_same, Nat.add_sub_cancel]
          · rw [u2_ne e]; exact hhi i (by omega) h2
theorem seat_loop {d : Nat} {Q : Rs → Mem → Prop} {M0 : Mem} {r n : Nat} {J : Nat → Int} {many by_ space wait t : Int} (hr : IsPlay r) (hV : VJ n J) (hm : 1 ≤ many ∧ many ≤ 4) (hby : 0 ≤ by_ ∧ by_ ≤ 5) (ht : 0 ≤ t ∧ t ≤ 1500) :
    ∀ (f : Nat) (x : SG) (M : Mem) (o3 o4 : Option PV), PVi n many t x → x.1.length ≤ f → Fr (pcs r) M0 M → CPl M r J many by_ space wait x → (∀ s, s ≠ 12 → s ≠ 14 → M r s = M0 r s) → M (r + 1) = M0 (r + 1) →
    (∀ M', Fr (pcs r) M0 M' → CPl M' r J many by_ space wait (sSeat J many by_ t f x) → (∀ s, s ≠ 12 → s ≠ 14 → M' r s = M0 r s) → M' (r + 1) = M0 (r + 1) → Q (.inl 0) M') → L_P_seat_6 (d + 2) Q M r t (many - (x.2.1.length : Int)) o3 o4
  | f, x, M, o3, o4, hp, hfu, hf, hc, hs, h1, hQ => by
    have hr' := hr.n
    have h24 := hV.1
    have hc0 := hc
    obtain ⟨row, srv, nx, F⟩ := x
    obtain ⟨p1, p2, p3, p4, p5, p6, p7, p8, p9⟩ := hp
    obtain ⟨c0, c1, c2, c3, c4, c5, c6, c7, c8, c9⟩ := hc
    dsimp only at *
    have stop : ¬ ((srv.length : Int) < many ∧ 0 < row.length) → Q (.inl 0) M := fun z => by
      refine hQ M hf ?_ hs h1
      cases f with
      | zero => exact hc0
      | succ f => unfold sSeat; rw [if_neg z]; exact hc0
    refine b_P_seat_6 hr ?_
    rw [c4]
    refine ⟨⟨by omega, by omega⟩, fun z => stop (by omega), fun z => ⟨⟨by omega, by omega⟩, fun z2 => stop (by omega), fun z2 => ?_⟩⟩
    have h8 : ∀ i, i ∈ row → i < 24 := fun i hi => by
      have := p3 i (List.mem_append_left _ hi)
      omega
    have h0 : 0 < row.length := by omega
    refine (s_placeToServe (d := d) (J := J) (F := F) hr c4 (by omega) h0 c7 h8 c1 hby (fun i hi => ?_) (fun i hi => ?_)).cal fun v1 M1 hM1 => ?_
    · have hi' := p3 i (List.mem_append_left _ hi)
      have := p6 i (List.mem_append_left _ hi)
      exact ⟨(c9 i hi').2.2.2.1, by omega, by omega⟩
    · have hi' := p3 i (List.mem_append_left _ hi)
      obtain ⟨j1, j2, j3, j4⟩ := hV.2.1 i (by omega)
      exact ⟨(c9 i hi').2.2.2.2, ⟨by omega, by omega⟩, by omega, by omega⟩
    obtain ⟨rfl, rfl⟩ := hM1
    have hpl := plc_lt (J := J) (by_ := by_) (row := row) (F := F) h0
    cases f with
    | zero => omega
    | succ f =>
      have estep : sSeat J many by_ t (f + 1) (row, srv, nx, F) = sSeat J many by_ t f (sSeat1 J by_ t (row, srv, nx, F)) := by
        show (if (srv.length : Int) < many ∧ 0 < row.length then _ else _) = _
        rw [if_pos ⟨by omega, h0⟩]
      rw [estep] at hQ
      have hp1 := sSeat1_pvi (J := J) (by_ := by_) ht.1 (show PVi n many t (row, srv, nx, F) from ⟨p1, p2, p3, p4, p5, p6, p7, p8, p9⟩) h0 (show (srv.length : Int) < many by omega)
      have hx1 : sSeat1 J by_ t (row, srv, nx, F) = (row.eraseIdx (plc J by_ row F), srv.insertIdx (ipl srv (row.getD (plc J by_ row F) 0) srv.length) (row.getD (plc J by_ row F) 0), nx, if F 2 (row.getD (plc J by_ row F) 0) = -1 then upd2 F 2 (row.getD (plc J by_ row F) 0) t else F) := rfl
      rw [hx1] at hQ hp1
      generalize plc J by_ row F = p at *
      refine (s_takeOut (d := d + 1) hr c4 (by omega) c7 hpl).cal fun v2 M2 hM2 => ?_
      obtain ⟨rfl, f2, g1, g2, g3⟩ := hM2
      have hmem : row.getD p 0 ∈ row := by rw [getD_lt hpl]; exact List.getElem_mem _
      have hj24 := h8 _ hmem
      have hjx := p3 _ (List.mem_append_left _ hmem)
      have h5 := p5 _ hjx
      have e3 : M2 (r + 3) = M1 (r + 3) := f2 _ (by simp)
      have ev := (c9 _ hjx).2.1
      generalize row.getD p 0 = v at *
      rw [e3, Int.toNat_natCast, ev, hr.al8]
      have g14 : M2 r 14 = srv.length := by rw [g3 14 (by decide)]; exact c5
      have e8 : M2 (r + 8) = M1 (r + 8) := f2 _ (by simp)
      -- from here on with the first tick set
      have go : ∀ (M3 : Mem), Fr [r + 3] M2 M3 → (∀ k, k < nx → M3 (r + 3) k = (if F 2 v = -1 then upd2 F 2 v t else F) 2 k) → L_P_seat_36 (d + 2) Q M3 r t (many - (srv.length : Int)) (v : Int) (srv.length : Int) := by
        intro M3 f3 k3
        refine seat_36 (M0 := M3) (srv := srv) (b := srv.length) hr rfl (by omega) (by rw [f3 r (by simp)]; exact g14) (by rw [f3 (r + 8) (by simp), e8]; exact c8) hj24 (fun i hi => by have := p3 i (List.mem_append_right _ hi); omega) (fun M4 o3' o4' f4 l4 m4 s4 => ?_) srv.length M3 (Nat.le_refl _) Fr.rfl' (fun _ _ => rfl) (fun i h1 h2 => by omega) rfl
        have hlen : ((srv.insertIdx (ipl srv v srv.length) v).length : Int) = (srv.length : Int) + 1 := by rw [List.length_insertIdx_of_le_length (ipl_le _)]; rfl
        have := seat_loop (d := d) hr hV hm hby ht f _ M4 o3' o4' hp1 (by
          show (row.eraseIdx p).length ≤ f
          rw [List.length_eraseIdx_of_lt hpl]; omega) ((hf.tr (f2.mono (by simp))).tr ((f3.mono (by simp)).tr (f4.mono (by simp)))) ?_ (fun s q1 q2 => ?_) ?_ hQ
        · rw [show many - (srv.length : Int) + -1 = many - ((srv.insertIdx (ipl srv v srv.length) v).length : Int) by omega]
          exact this
        · refine ⟨?_, ?_, ?_, ?_, ?_, ?_, ?_, ?_, l4, fun k hk => ?_⟩
          · rw [s4 0 (by decide), f3 r (by simp), g3 0 (by decide)]; exact c0
          · rw [s4 1 (by decide), f3 r (by simp), g3 1 (by decide)]; exact c1
          · rw [s4 2 (by decide), f3 r (by simp), g3 2 (by decide)]; exact c2
          · rw [s4 3 (by decide), f3 r (by simp), g3 3 (by decide)]; exact c3
          · rw [s4 12 (by decide), f3 r (by simp)]; exact g2
          · rw [m4]
            show ((srv.length + 1 : Nat) : Int) = ((srv.insertIdx (ipl srv v srv.length) v).length : Int)
            omega
          · rw [s4 15 (by decide), f3 r (by simp), g3 15 (by decide)]; exact c6
          · rw [f4 (r + 7) (by simp), f3 (r + 7) (by simp)]; exact g1
          · have R : ∀ q, q ≠ r → q ≠ r + 3 → q ≠ r + 7 → q ≠ r + 8 → M4 q = M1 q := fun q q0 q3 q7 q8 => by
              rw [f4 q (by simp; omega), f3 q (by simp; omega), f2 q (by simp; omega)]
            obtain ⟨m1, m2, m3, m5, m6⟩ := c9 k hk
            have hF : ∀ c, c ≠ 2 → (if F 2 v = -1 then upd2 F 2 v t else F) c k = F c k := fun c hc => by
              by_cases e : F 2 v = -1
              · rw [if_pos e, u2_off hc]
              · rw [if_neg e]
            rw [R (r + 2) (by omega) (by omega) (by omega) (by omega), f4 (r + 3) (by simp), k3 k hk, R (r + 4) (by omega) (by omega) (by omega) (by omega), R (r + 5) (by omega) (by omega) (by omega) (by omega), R (r + 6) (by omega) (by omega) (by omega) (by omega)]
            dsimp only
            rw [hF 0 (by decide), hF 3 (by decide), hF 1 (by decide)]
            exact ⟨m1, rfl, m3, m5, m6⟩
        · rw [s4 s q2, f3 r (by simp), g3 s q1]; exact hs s q1 q2
        · rw [f4 (r + 1) (by simp), f3 (r + 1) (by simp), f2 (r + 1) (by simp)]; exact h1
      refine ⟨⟨by omega, by omega⟩, ⟨by omega, by omega⟩, fun z3 => ?_, fun z3 => ?_⟩
      · rw [g14]
        refine ⟨⟨by omega, by omega⟩, ⟨by decide, by decide⟩, ?_⟩
        rw [show min (srv.length : Int) (((4 : Nat) : Int) - 1) = (srv.length : Int) by omega]
        refine go M2 Fr.rfl' fun k hk => ?_
        rw [if_neg z3, e3]
        exact (c9 k hk).2.1
      · rw [u2_off (show r ≠ r + 3 by omega), g14]
        refine ⟨⟨by omega, by omega⟩, ⟨by decide, by decide⟩, ?_⟩
        rw [show min (srv.length : Int) (((4 : Nat) : Int) - 1) = (srv.length : Int) by omega]
        refine go _ (Fr.rfl'.u2 (by simp)) fun k hk => ?_
        rw [if_pos (Classical.not_not.mp z3), u2', u2']
        by_cases e : k = v
        · rw [if_pos ⟨rfl, e⟩, if_pos ⟨rfl, e⟩]
        · rw [if_neg fun z => e z.2, if_neg fun z => e z.2, e3]
          exact (c9 k hk).2.1
