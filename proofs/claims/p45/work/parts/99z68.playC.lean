/-! The class plays. -/
/-- a list lies in a row -/
def LM (f : Nat → Int) (l : List Nat) : Prop := ∀ (i v : Nat), l[i]? = some v → f i = (v : Int)
theorem LM.at_ {f : Nat → Int} {l : List Nat} {p : Nat} (h : LM f l) (hp : p < l.length) : f p = (l.getD p 0 : Nat) := by
  refine h p _ ?_
  rw [getD_lt hp]
  exact List.getElem?_eq_getElem hp
theorem LM.app {f : Nat → Int} {l : List Nat} {v : Nat} (h : LM f l) : LM (sr f l.length (v : Int)) (l ++ [v]) := by
  intro i w hi
  rw [List.getElem?_append] at hi
  by_cases q : i < l.length
  · rw [if_pos q] at hi
    rw [sr_ne (by omega)]
    exact h i w hi
  · rw [if_neg q] at hi
    have e : i = l.length := by
      rcases Nat.lt_or_ge (i - l.length) 1 with z | z
      · omega
      · rw [List.getElem?_eq_none (by simpa using z)] at hi
        cases hi
    subst e
    rw [Nat.sub_self] at hi
    cases hi
    exact sr_same
theorem LM.congr {f g : Nat → Int} {l : List Nat} (h : LM f l) (e : ∀ i, i < l.length → g i = f i) : LM g l := fun i v hi => by
  have : i < l.length := by
    rcases Nat.lt_or_ge i l.length with z | z
    · exact z
    · rw [List.getElem?_eq_none z] at hi; cases hi
  rw [e i this]
  exact h i v hi
theorem LM.erase {f g : Nat → Int} {l : List Nat} {p : Nat} (h : LM f l) (hp : p < l.length) (e : ∀ i, i < l.length - 1 → g i = if p ≤ i then f (i + 1) else f i) : LM g (l.eraseIdx p) := by
  intro i v hi
  have hl : i < l.length - 1 := by
    rcases Nat.lt_or_ge i (l.eraseIdx p).length with z | z
    · rwa [List.length_eraseIdx_of_lt hp] at z
    · rw [List.getElem?_eq_none z] at hi; cases hi
  rw [e i hl]
  rw [List.getElem?_eraseIdx] at hi
  by_cases q : i < p
  · rw [if_pos q] at hi
    rw [if_neg (by omega)]
    exact h i v hi
  · rw [if_neg q] at hi
    rw [if_pos (by omega)]
    exact h (i + 1) v hi
/-- the cells of a play -/
abbrev pcs (r : Nat) : List Nat := [r, r + 1, r + 2, r + 3, r + 4, r + 5, r + 6, r + 7, r + 8]
theorem s_putInRow {d : Nat} {M : Mem} {r w : Nat} {j : Int} (hr : IsPlay r) (hw : M r 12 = w) (h24 : w < 24) : Post (d + 1) cP_putInRow [.inr (.inr (.inl r)), .inl j] M (fun _ M' => M' = upd2 (upd2 M (r + 7) w j) r 12 ((w : Int) + 1)) := by
  intro Q hQ
  refine e_P_putInRow hr (b_P_putInRow_0 hr ?_)
  rw [u2_off (show r ≠ r + 7 by omega), hw, hr.al7, Int.toNat_natCast]
  exact ⟨⟨by omega, by omega⟩, ⟨by decide, by decide⟩, fun h => absurd h (by omega), fun _ => ⟨⟨by omega, by omega⟩, hQ _ _ rfl⟩⟩
theorem take_loop {d : Nat} {Q : Rs → Mem → Prop} {M0 : Mem} {r w p : Nat} {v : Int} {o1 : Option PV} (hr : IsPlay r) (hw : M0 r 12 = w) (h24 : w < 24)
    (hQ : ∀ M', Fr [r + 7] M0 M' → (∀ i, M' (r + 7) i = if p ≤ i ∧ i < w then M0 (r + 7) (i + 1) else M0 (r + 7) i) → Q (.inl v) M') : ∀ (k i : Nat) (M : Mem), i + k = w → p ≤ i → Fr [r + 7] M0 M → (∀ q, M (r + 7) q = if p ≤ q ∧ q < i then M0 (r + 7) (q + 1) else M0 (r + 7) q) → L_P_takeOut_21 d Q M r o1 v (i : Int)
  | k, i, M, hk, hp, hf, hM => by
    have e12 : M r 12 = w := by rw [hf r (by simp)]; exact hw
    refine b_P_takeOut_21 hr ?_
    rw [e12, Int.toNat_natCast, show ((i : Int) + 1).toNat = i + 1 by omega, hM (i + 1), if_neg (by omega)]
    refine ⟨⟨by omega, by omega⟩, ⟨by omega, by omega⟩, fun z => ?_, fun z => ⟨⟨by omega, by omega⟩, ⟨by omega, by omega⟩, ?_⟩⟩
    · have e : i = w := by omega
      subst e
      exact hQ M hf hM
    · cases k with
      | zero => omega
      | succ k =>
        refine take_loop hr hw h24 hQ k (i + 1) _ (by omega) (by omega) (hf.u2 (by simp)) fun q => ?_
        rw [u2_row]
        by_cases e : q = i
        · subst e
          rw [sr_same, if_pos ⟨hp, by omega⟩]
        · rw [sr_ne e, hM q]
          by_cases q2 : p ≤ q ∧ q < i
          · rw [if_pos q2, if_pos ⟨q2.1, by omega⟩]
          · rw [if_neg q2, if_neg fun y => q2 ⟨y.1, by omega⟩]
theorem s_takeOut {d : Nat} {M : Mem} {r p : Nat} {row : List Nat} (hr : IsPlay r) (hw : M r 12 = row.length) (h24 : row.length ≤ 24) (hl : LM (M (r + 7)) row) (hp : p < row.length) :
    Post (d + 1) cP_takeOut [.inr (.inr (.inl r)), .inl (p : Int)] M (fun v M' => v = (row.getD p 0 : Nat) ∧ Fr [r, r + 7] M M' ∧ LM (M' (r + 7)) (row.eraseIdx p) ∧ M' r 12 = (row.eraseIdx p).length ∧ ∀ s, s ≠ 12 → M' r s = M r s) := by
  intro Q hQ
  have n7 : r ≠ r + 7 := by omega
  refine e_P_takeOut hr (b_P_takeOut_0 hr ?_)
  rw [hw, Int.toNat_natCast, hl.at_ hp]
  refine ⟨⟨by omega, by omega⟩, fun z => absurd z (by omega), fun _ => ⟨⟨by omega, by omega⟩, fun _ => ⟨⟨by omega, by omega⟩, ?_⟩, fun z => absurd (by omega) z⟩⟩
  refine take_loop (M0 := upd2 M r 12 ((row.length : Int) - 1)) (w := row.length - 1) (p := p) hr (by rw [u2_same]; omega) (by omega) (fun M' f1 f2 => hQ _ M' ⟨rfl, ?_, ?_, ?_, fun s hs => ?_⟩) (row.length - 1 - p) p _ (by omega) (Nat.le_refl p) Fr.rfl' (fun q => by rw [if_neg (by omega)])
  · exact (Fr.rfl'.u2 (by simp)).tr (f1.mono (by simp))
  · refine hl.erase hp fun i hi => ?_
    rw [f2 i, u2_off (show r + 7 ≠ r by omega)]
    by_cases q : p ≤ i
    · rw [if_pos ⟨q, hi⟩, if_pos q]
    · rw [if_neg fun z => q z.1, if_neg q]
  · rw [f1 r (by simp), u2_same, List.length_eraseIdx_of_lt hp]
    omega
  · rw [f1 r (by simp), u2_ne hs]
theorem pir_loop {d : Nat} {Q : Rs → Mem → Prop} {M : Mem} {r j : Nat} {row : List Nat} (hr : IsPlay r) (hw : M r 12 = row.length) (h24 : row.length ≤ 24) (hl : LM (M (r + 7)) row) (h8 : ∀ i, i ∈ row → i < 24) (hj24 : j < 24)
    (hQ : ∀ p, p < row.length → row.getD p 0 = j → Q (.inl (p : Int)) M) : ∀ (k i : Nat), i + k = row.length → (∃ p, i ≤ p ∧ p < row.length ∧ row.getD p 0 = j) → L_P_placeInRow_2 d Q M r (j : Int) (i : Int)
  | k, i, hk, ⟨p, p1, p2, p3⟩ => by
    have hm : row.getD i 0 ∈ row := by rw [getD_lt (by omega)]; exact List.getElem_mem _
    have := h8 _ hm
    refine b_P_placeInRow_2 hr ?_
    rw [hw, Int.toNat_natCast, hl.at_ (show i < row.length by omega)]
    refine ⟨⟨by omega, by omega⟩, ⟨by omega, by omega⟩, fun z => absurd z (by omega), fun _ => ⟨⟨by omega, by omega⟩, ⟨by omega, by omega⟩, ⟨by omega, by omega⟩, fun z => hQ i (by omega) (by omega), fun z => ?_⟩⟩
    cases k with
    | zero => omega
    | succ k =>
      refine pir_loop hr hw h24 hl h8 hj24 hQ k (i + 1) (by omega) ⟨p, ?_, p2, p3⟩
      rcases Nat.lt_or_ge i p with y | y
      · exact y
      · have : i = p := by omega
        subst this
        rw [p3] at z
        exact absurd rfl z
theorem mem_idx {l : List Nat} {j : Nat} (h : j ∈ l) : ∃ p, p < l.length ∧ l.getD p 0 = j := by
  obtain ⟨p, hp, e⟩ := List.getElem_of_mem h
  exact ⟨p, hp, by rw [getD_lt hp]; exact e⟩
theorem s_placeInRow {d : Nat} {M : Mem} {r j : Nat} {row : List Nat} (hr : IsPlay r) (hw : M r 12 = row.length) (h24 : row.length ≤ 24) (hl : LM (M (r + 7)) row) (h8 : ∀ i, i ∈ row → i < 24) (hj : j ∈ row) :
    Post (d + 1) cP_placeInRow [.inr (.inr (.inl r)), .inl (j : Int)] M (fun v M' => M' = M ∧ ∃ p : Nat, v = p ∧ p < row.length ∧ row.getD p 0 = j) := by
  intro Q hQ
  obtain ⟨p, p1, p2⟩ := mem_idx hj
  exact e_P_placeInRow hr (b_P_placeInRow_0 hr (pir_loop hr hw h24 hl h8 (h8 j hj) (fun p h1 h2 => hQ _ _ ⟨rfl, p, rfl, h1, h2⟩) row.length 0 (by omega) ⟨p, Nat.zero_le _, p1, p2⟩))
theorem pol_loop {d : Nat} {Q : Rs → Mem → Prop} {M : Mem} {r r1 : Nat} {row : List Nat} {kf : Nat → Int} (hr : IsPlay r) (hw : M r 12 = row.length) (h24 : row.length ≤ 24) (hl : LM (M (r + 7)) row) (h8 : ∀ i, i ∈ row → i < 24) (ha : wAk r1 = 1) (hal : wAl r1 = 24)
    (hk : ∀ i, i ∈ row → M r1 i = kf i) (hkr : ∀ i, i ∈ row → 0 ≤ kf i ∧ kf i ≤ 1000) : ∀ (f b k : Nat) (o4 : Option PV), k + f = row.length → b < row.length → Q (.inl (bpl kf row f b k : Nat)) M → L_P_placeOfLeast_4 d Q M r r1 (b : Int) (k : Int) o4
  | 0, b, k, o4, hf, hb, hQ => b_P_placeOfLeast_4 hr ⟨⟨by omega, by omega⟩, ⟨by omega, by omega⟩, fun _ => hQ, fun z => absurd (by omega) z⟩
  | f + 1, b, k, o4, hf, hb, hQ => by
    have mk : row.getD k 0 ∈ row := by rw [getD_lt (by omega)]; exact List.getElem_mem _
    have mb : row.getD b 0 ∈ row := by rw [getD_lt hb]; exact List.getElem_mem _
    have lk := h8 _ mk
    have lb := h8 _ mb
    have kk := hkr _ mk
    have kb := hkr _ mb
    refine b_P_placeOfLeast_4 hr ?_
    rw [hw, Int.toNat_natCast, Int.toNat_natCast, hl.at_ (show k < row.length by omega), hl.at_ hb, Int.toNat_natCast, Int.toNat_natCast, hk _ mk, hk _ mb, hal]
    unfold bpl at hQ
    have ih := fun (b : Nat) (o4 : Option PV) (hb : b < row.length) (hQ : Q (.inl (bpl kf row f b (k + 1) : Nat)) M) => pol_loop (d := d) hr hw h24 hl h8 ha hal hk hkr f b (k + 1) o4 (by omega) hb hQ
    refine ⟨⟨by omega, by omega⟩, ⟨by omega, by omega⟩, fun z => absurd z (by omega), fun _ => ⟨⟨by omega, by omega⟩, ha, ⟨by omega, by omega⟩, ⟨by omega, by omega⟩, ⟨by omega, by omega⟩, ⟨by omega, by omega⟩, fun z => ?_, fun z => ⟨fun z2 => ?_, fun z2 => ⟨⟨by omega, by omega⟩, ⟨by omega, by omega⟩, fun z3 => ?_, fun z3 => ?_⟩⟩⟩⟩
    · rw [if_pos (by omega)] at hQ
      exact ih k _ (by omega) hQ
    · rw [if_neg (by omega)] at hQ
      exact ih b _ hb hQ
    · rw [if_neg (by omega)] at hQ
      exact ih b _ hb hQ
    · rw [if_pos (by omega)] at hQ
      exact ih k _ (by omega) hQ
theorem s_placeToServe {d : Nat} {M : Mem} {r : Nat} {row : List Nat} {J : Nat → Int} {F : Mem} {by_ : Int} (hr : IsPlay r) (hw : M r 12 = row.length) (h24 : row.length ≤ 24) (h0 : 0 < row.length) (hl : LM (M (r + 7)) row) (h8 : ∀ i, i ∈ row → i < 24) (hb : M r 1 = by_) (hbr : 0 ≤ by_ ∧ by_ ≤ 5)
    (hrest : ∀ i, i ∈ row → M (r + 5) i = F 1 i ∧ 0 ≤ F 1 i ∧ F 1 i ≤ 1000) (hrank : ∀ i, i ∈ row → M (r + 6) i = (if by_ = 3 then J (4 * i + 2) else J (4 * i + 1)) ∧ (0 ≤ J (4 * i + 1) ∧ J (4 * i + 1) ≤ 1000) ∧ 0 ≤ J (4 * i + 2) ∧ J (4 * i + 2) ≤ 1000) :
    Post (d + 2) cP_placeToServe [.inr (.inr (.inl r))] M (fun v M' => M' = M ∧ v = (plc J by_ row F : Nat)) := by
  intro Q hQ
  refine e_P_placeToServe hr (b_P_placeToServe_0 hr ?_)
  rw [hb, hw]
  have pol : ∀ (r1 : Nat) (kf : Nat → Int), wAk r1 = 1 → wAl r1 = 24 → (∀ i, i ∈ row → M r1 i = kf i ∧ 0 ≤ kf i ∧ kf i ≤ 1000) → plc J by_ row F = bpl kf row (row.length - 1) 0 1 → cald (d + 1) cP_placeOfLeast [.inr (.inr (.inl r)), .inr (.inr (.inl r1))] M (fun z M1 => Rt z (fun v1 => Q (.inl v1) M1) (fun x => Q (.inr x) M1)) := by
    intro r1 kf ha hal hk he
    refine Post.cal (P := fun v M' => M' = M ∧ v = (plc J by_ row F : Nat)) (fun Q' hQ' => ?_) fun v M' h => hQ v M' h
    refine e_P_placeOfLeast hr (b_P_placeOfLeast_0 hr (pol_loop hr hw h24 hl h8 ha hal (fun i hi => (hk i hi).1) (fun i hi => (hk i hi).2) (row.length - 1) 0 1 none (by omega) h0 (hQ' _ _ ⟨rfl, by rw [he]⟩)))
  have res : plc J by_ row F = bpl (keyF J by_ F) row (row.length - 1) 0 1 ∨ by_ = 1 ∨ by_ = 0 ∨ by_ = 4 := by
    unfold plc
    by_cases e1 : by_ = 1
    · exact Or.inr (Or.inl e1)
    · rw [if_neg e1]
      by_cases e2 : by_ = 0 ∨ by_ = 4
      · exact Or.inr (Or.inr e2)
      · rw [if_neg e2]; exact Or.inl rfl
  have K6 : by_ = 2 ∨ by_ = 3 → ∀ i, i ∈ row → M (r + 6) i = keyF J by_ F i ∧ 0 ≤ keyF J by_ F i ∧ keyF J by_ F i ≤ 1000 := by
    intro hb i hi
    obtain ⟨k1, k2, k3⟩ := hrank i hi
    unfold keyF
    rcases hb with e | e
    · rw [if_pos e]
      rw [if_neg (by omega)] at k1
      exact ⟨k1, k2⟩
    · rw [if_neg (by omega), if_pos e]
      rw [if_pos e] at k1
      exact ⟨k1, k3⟩
  refine ⟨⟨by omega, by omega⟩, fun z => ⟨fun z2 => ⟨fun z3 => ?_, fun z3 => ⟨fun z4 => ?_, fun z4 => ?_⟩⟩, fun z2 => ?_⟩, fun z => ?_⟩
  · exact pol (r + 6) (keyF J by_ F) hr.ak6 hr.al6 (K6 (Or.inl z3)) (by omega)
  · have : by_ = 0 ∨ by_ = 4 := by omega
    refine hQ _ _ ⟨rfl, ?_⟩
    unfold plc
    rw [if_neg z, if_pos this]
    rfl
  · exact pol (r + 6) (keyF J by_ F) hr.ak6 hr.al6 (K6 (Or.inr (Classical.not_not.mp z4))) (by omega)
  · have e5 : by_ = 5 := Classical.not_not.mp z2
    refine pol (r + 5) (keyF J by_ F) hr.ak5 hr.al5 (fun i hi => ?_) (by omega)
    obtain ⟨k1, k2⟩ := hrest i hi
    unfold keyF
    rw [if_neg (by omega), if_neg (by omega)]
    exact ⟨k1, k2⟩
  · refine hQ _ _ ⟨rfl, ?_⟩
    unfold plc
    rw [if_pos (Classical.not_not.mp z)]
    omega
