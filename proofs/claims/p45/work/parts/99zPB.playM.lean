/-! The law's play and the class's: what ties them. -/
def PRl (n : Nat) (J : Nat → Int) (L : List Nat) (x : SG) (E F G R P B : Nat → Int) (st : Int) : Prop :=
  (∀ k, k < n → E k = if k < x.2.2.1 ∧ x.2.2.2 0 k ≠ 3 then x.2.2.2 0 k else -1) ∧ (∀ k, k < n → G k = if k < x.2.2.1 then x.2.2.2 2 k else -1) ∧ (∀ k, k < x.2.2.1 → x.2.2.2 0 k ≠ 3 → F k = x.2.2.2 3 k) ∧
  (∀ k, k < n → (k < x.2.2.1 → x.2.2.2 0 k = 3 → R k = x.2.2.2 1 k) ∧ (x.2.2.1 ≤ k → R k = J (4 * k + 1))) ∧ (∀ k, k < n → B k = if k ∈ x.2.1 ∨ k ∈ L then 1 else 0) ∧
  x.1.Pairwise (fun i j => P i < P j) ∧ (∀ i, i ∈ x.1 → 0 ≤ P i ∧ P i < st)
def cntE (E : Nat → Int) (n : Nat) : Int := sumN (fun k => if E k < 0 then 1 else 0) n
theorem cntE_sr {E : Nat → Int} {n k : Nat} {v : Int} (hk : k < n) (h0 : E k < 0) (hv : 0 ≤ v) : cntE (sr E k v) n = cntE E n - 1 := by
  have := sumN_dec (f := fun i => if sr E k v i < 0 then (1 : Int) else 0) (g := fun i => if E i < 0 then (1 : Int) else 0) (m := k) (by rw [sr_same, if_neg (by omega), if_pos h0]; decide) n hk (fun i _ hi => by rw [sr_ne hi])
  unfold cntE
  omega
theorem cntE_congr {E E' : Nat → Int} {n : Nat} (h : ∀ k, k < n → E k = E' k) : cntE E n = cntE E' n := sumN_congr n fun k hk => by rw [h k hk]
theorem cntE_r (E : Nat → Int) : ∀ n, 0 ≤ cntE E n ∧ cntE E n ≤ n
  | 0 => ⟨Int.le_refl 0, Int.le_refl 0⟩
  | n + 1 => by
    have := cntE_r E n
    show 0 ≤ cntE E n + (if E n < 0 then 1 else 0) ∧ cntE E n + (if E n < 0 then 1 else 0) ≤ ((n + 1 : Nat) : Int)
    split <;> omega
theorem cntE_pos {E : Nat → Int} : ∀ {n k : Nat}, k < n → E k < 0 → 0 < cntE E n
  | n + 1, k, hk, h0 => by
    have hr := cntE_r E n
    show 0 < cntE E n + (if E n < 0 then 1 else 0)
    by_cases e : k = n
    · rw [← e, if_pos h0, e]; omega
    · have := cntE_pos (n := n) (k := k) (by omega) h0
      split <;> omega
theorem cntE_zero {E : Nat → Int} : ∀ {n : Nat}, (∀ k, k < n → 0 ≤ E k) → cntE E n = 0
  | 0, _ => rfl
  | n + 1, h => by
    show cntE E n + (if E n < 0 then 1 else 0) = 0
    rw [cntE_zero fun k hk => h k (by omega), if_neg (by have := h n (by omega); omega)]
    rfl
theorem cntE_on {n : Nat} {J : Nat → Int} {many t : Int} {x : SG} {E F G R P B : Nat → Int} {st : Int} (hp : PVi n many t x) (h : PRl n J [] x E F G R P B st) : cntE E n ≤ 0 ↔ ¬ sOn n x := by
  obtain ⟨p1, p2, p3, p4, p5, p6, p7, p8, p9⟩ := hp
  constructor
  · intro h0 hon
    rcases hon with z | z
    · have e := h.1 x.2.2.1 z
      rw [if_neg (fun w => absurd w.1 (by omega))] at e
      have := cntE_pos (E := E) z (by omega)
      omega
    · obtain ⟨j, hj⟩ : ∃ j, j ∈ x.1 ++ x.2.1 := by
        rw [← List.length_append] at z
        exact ⟨_, List.getElem_mem z⟩
      have hjn := p3 j hj
      have e := h.1 j (by omega)
      rw [if_neg (fun w => w.2 ((p5 j hjn).1.mpr hj))] at e
      have := cntE_pos (E := E) (n := n) (k := j) (by omega) (by omega)
      omega
  · intro hn
    have h1 : ¬ x.2.2.1 < n := fun z => hn (Or.inl z)
    have h2 : ¬ 0 < x.1.length + x.2.1.length := fun z => hn (Or.inr z)
    rw [cntE_zero]
    · exact Int.le_refl 0
    · intro k hk
      have hj : k ∉ x.1 ++ x.2.1 := fun z => by
        have := List.length_pos_of_mem z
        rw [List.length_append] at this
        omega
      have hf : x.2.2.2 0 k ≠ 3 := fun z => hj ((p5 k (by omega)).1.mp z)
      rw [h.1 k hk, if_pos ⟨by omega, hf⟩]
      exact (p5 k (by omega)).2.1
section PRL
variable {n : Nat} {J : Nat → Int} {many t wait cap by_ : Int} {x : SG} {L : List Nat} {E F G R P B E1 F1 : Nat → Int} {st : Int}
theorem rel_go (hp : PVi n many t x) (h : PRl n J [] x E F G R P B st) (hE : ∀ k, k < n → E1 k = if k ∈ x.1 ∧ gonD J wait t x.2.2.2 k = true then 1 else E k) (hF : ∀ k, k < n → F1 k = if k ∈ x.1 ∧ gonD J wait t x.2.2.2 k = true then t else F k) : PRl n J [] (sGo J wait t x) E1 F1 G R P B st := by
  obtain ⟨h1, h2, h3, h4, h5, h6, h7⟩ := h
  obtain ⟨p1, p2, p3, p4, p5, p6, p7, p8, p9⟩ := hp
  have g0 : ∀ k, goF J wait t x.1 x.2.2.2 0 k = if k ∈ x.1 ∧ gonD J wait t x.2.2.2 k = true then 1 else x.2.2.2 0 k := fun k => rfl
  have g1 : ∀ k, goF J wait t x.1 x.2.2.2 1 k = x.2.2.2 1 k := fun k => by unfold goF; split <;> rfl
  have g2 : ∀ k, goF J wait t x.1 x.2.2.2 2 k = x.2.2.2 2 k := fun k => by unfold goF; split <;> rfl
  have g3 : ∀ k, goF J wait t x.1 x.2.2.2 3 k = if k ∈ x.1 ∧ gonD J wait t x.2.2.2 k = true then t else x.2.2.2 3 k := fun k => rfl
  refine ⟨fun k hk => ?_, fun k hk => ?_, fun k hk hk2 => ?_, fun k hk => ⟨fun hk1 hk2 => ?_, fun hk1 => ?_⟩, fun k hk => h5 k hk, ?_, fun i hi => h7 i (List.mem_filter.mp hi).1⟩
  · show E1 k = if k < x.2.2.1 ∧ goF J wait t x.1 x.2.2.2 0 k ≠ 3 then goF J wait t x.1 x.2.2.2 0 k else -1
    rw [hE k hk, g0]
    by_cases q : k ∈ x.1 ∧ gonD J wait t x.2.2.2 k = true
    · rw [if_pos q, if_pos q, if_pos ⟨p3 k (List.mem_append_left _ q.1), by decide⟩]
    · rw [if_neg q, if_neg q]
      exact h1 k hk
  · show G k = if k < x.2.2.1 then goF J wait t x.1 x.2.2.2 2 k else -1
    rw [g2]
    exact h2 k hk
  · have hk2 : goF J wait t x.1 x.2.2.2 0 k ≠ 3 := hk2
    show F1 k = goF J wait t x.1 x.2.2.2 3 k
    have hk : k < x.2.2.1 := hk
    rw [hF k (by omega), g3]
    rw [g0] at hk2
    by_cases q : k ∈ x.1 ∧ gonD J wait t x.2.2.2 k = true
    · rw [if_pos q, if_pos q]
    · rw [if_neg q] at hk2 ⊢
      rw [if_neg q]
      exact h3 k hk hk2
  · have hk2 : goF J wait t x.1 x.2.2.2 0 k = 3 := hk2
    show R k = goF J wait t x.1 x.2.2.2 1 k
    rw [g1]
    rw [g0] at hk2
    by_cases q : k ∈ x.1 ∧ gonD J wait t x.2.2.2 k = true
    · rw [if_pos q] at hk2
      exact absurd hk2 (by decide)
    · rw [if_neg q] at hk2
      exact (h4 k hk).1 hk1 hk2
  · exact (h4 k hk).2 hk1
  · exact h6.sublist List.filter_sublist
theorem in_F {v : Int} {k c : Nat} : upd2 (inF J t x.2.2.1 x.2.2.2) 0 x.2.2.1 v c k = if k = x.2.2.1 then (if c = 0 then v else if c = 1 then J (4 * k + 1) else if c = 3 then t else if c = 2 then -1 else x.2.2.2 c k) else x.2.2.2 c k := by
  unfold inF
  rw [u2', u2', u2', u2']
  by_cases e : k = x.2.2.1
  · subst e
    rw [if_pos rfl]
    by_cases c0 : c = 0
    · rw [if_pos ⟨c0, rfl⟩, if_pos c0]
    · rw [if_neg (fun z => c0 z.1), if_neg c0]
      by_cases c1 : c = 1
      · rw [if_pos ⟨c1, rfl⟩, if_pos c1]
      · rw [if_neg (fun z => c1 z.1), if_neg c1]
        by_cases c3 : c = 3
        · rw [if_pos ⟨c3, rfl⟩, if_pos c3]
        · rw [if_neg (fun z => c3 z.1), if_neg c3]
          by_cases c2 : c = 2
          · rw [if_pos ⟨c2, rfl⟩, if_pos c2]
          · rw [if_neg (fun z => c2 z.1), if_neg c2]
  · rw [if_neg e, if_neg (fun z => e z.2), if_neg (fun z => e z.2), if_neg (fun z => e z.2), if_neg (fun z => e z.2)]
theorem rel_in (hp : PVi n many t x) (h : PRl n J [] x E F G R P B st) (hx : x.2.2.1 < n) (hst : 0 ≤ st) : ((x.1.length : Int) + x.2.1.length < cap → PRl n J [] (sIn1 J cap t x) E F G R (sr P x.2.2.1 st) B (st + 1)) ∧ (¬ (x.1.length : Int) + x.2.1.length < cap → PRl n J [] (sIn1 J cap t x) (sr E x.2.2.1 2) (sr F x.2.2.1 t) G R P B st) := by
  obtain ⟨h1, h2, h3, h4, h5, h6, h7⟩ := h
  obtain ⟨p1, p2, p3, p4, p5, p6, p7, p8, p9⟩ := hp
  have e0 : ∀ (v : Int), upd2 (inF J t x.2.2.1 x.2.2.2) 0 x.2.2.1 v 0 x.2.2.1 = v := fun v => by rw [in_F, if_pos rfl, if_pos rfl]
  have eo : ∀ (v : Int) (c k : Nat), k ≠ x.2.2.1 → upd2 (inF J t x.2.2.1 x.2.2.2) 0 x.2.2.1 v c k = x.2.2.2 c k := fun v c k hk => by rw [in_F, if_neg hk]
  have e1 : ∀ (v : Int), upd2 (inF J t x.2.2.1 x.2.2.2) 0 x.2.2.1 v 1 x.2.2.1 = J (4 * x.2.2.1 + 1) := fun v => by rw [in_F, if_pos rfl, if_neg (by decide), if_pos rfl]
  have e2 : ∀ (v : Int), upd2 (inF J t x.2.2.1 x.2.2.2) 0 x.2.2.1 v 2 x.2.2.1 = -1 := fun v => by rw [in_F, if_pos rfl, if_neg (by decide), if_neg (by decide), if_neg (by decide), if_pos rfl]
  have e3 : ∀ (v : Int), upd2 (inF J t x.2.2.1 x.2.2.2) 0 x.2.2.1 v 3 x.2.2.1 = t := fun v => by rw [in_F, if_pos rfl, if_neg (by decide), if_neg (by decide), if_pos rfl]
  constructor
  · intro hc
    unfold sIn1
    rw [if_pos hc]
    refine ⟨fun k hk => ?_, fun k hk => ?_, fun k hk hk2 => ?_, fun k hk => ⟨fun hk1 hk2 => ?_, fun hk1 => ?_⟩, h5, ?_, fun i hi => ?_⟩
    · show E k = if k < x.2.2.1 + 1 ∧ upd2 (inF J t x.2.2.1 x.2.2.2) 0 x.2.2.1 3 0 k ≠ 3 then upd2 (inF J t x.2.2.1 x.2.2.2) 0 x.2.2.1 3 0 k else -1
      rw [h1 k hk]
      by_cases q : k = x.2.2.1
      · subst q
        rw [e0, if_neg (fun z => absurd z.1 (by omega)), if_neg (fun z => z.2 rfl)]
      · rw [eo _ _ _ q]
        by_cases q2 : k < x.2.2.1 ∧ x.2.2.2 0 k ≠ 3
        · rw [if_pos q2, if_pos ⟨by omega, q2.2⟩]
        · rw [if_neg q2, if_neg (fun z => q2 ⟨by omega, z.2⟩)]
    · show G k = if k < x.2.2.1 + 1 then upd2 (inF J t x.2.2.1 x.2.2.2) 0 x.2.2.1 3 2 k else -1
      rw [h2 k hk]
      by_cases q : k = x.2.2.1
      · subst q
        rw [e2, if_neg (by omega), if_pos (by omega)]
      · rw [eo _ _ _ q]
        by_cases q2 : k < x.2.2.1
        · rw [if_pos q2, if_pos (by omega)]
        · rw [if_neg q2, if_neg (by omega)]
    · have hk : k < x.2.2.1 + 1 := hk
      have hk2 : upd2 (inF J t x.2.2.1 x.2.2.2) 0 x.2.2.1 3 0 k ≠ 3 := hk2
      have q : k ≠ x.2.2.1 := fun z => hk2 (by rw [z, e0])
      show F k = upd2 (inF J t x.2.2.1 x.2.2.2) 0 x.2.2.1 3 3 k
      rw [eo _ _ _ q] at hk2 ⊢
      exact h3 k (by omega) hk2
    · have hk1 : k < x.2.2.1 + 1 := hk1
      have hk2 : upd2 (inF J t x.2.2.1 x.2.2.2) 0 x.2.2.1 3 0 k = 3 := hk2
      show R k = upd2 (inF J t x.2.2.1 x.2.2.2) 0 x.2.2.1 3 1 k
      by_cases q : k = x.2.2.1
      · subst q
        rw [e1]
        exact (h4 _ hk).2 (Nat.le_refl _)
      · rw [eo _ _ _ q] at hk2 ⊢
        exact (h4 k hk).1 (by omega) hk2
    · have hk1 : x.2.2.1 + 1 ≤ k := hk1
      exact (h4 k hk).2 (by omega)
    · show (x.1 ++ [x.2.2.1]).Pairwise _
      refine List.pairwise_append.mpr ⟨h6.imp_of_mem (fun {a b} ha hb hab => ?_), List.pairwise_singleton _ _, fun a ha b hb => ?_⟩
      · have na := p3 a (List.mem_append_left _ ha)
        have nb := p3 b (List.mem_append_left _ hb)
        rw [sr_ne (by omega), sr_ne (by omega)]
        exact hab
      · rw [List.mem_singleton.mp hb, sr_same]
        have na := p3 a (List.mem_append_left _ ha)
        rw [sr_ne (by omega)]
        exact (h7 a ha).2
    · have hi : i ∈ x.1 ++ [x.2.2.1] := hi
      rcases List.mem_append.mp hi with z | z
      · have na := p3 i (List.mem_append_left _ z)
        have := h7 i z
        rw [sr_ne (by omega)]
        omega
      · rw [List.mem_singleton.mp z, sr_same]
        omega
  · intro hc
    unfold sIn1
    rw [if_neg hc]
    refine ⟨fun k hk => ?_, fun k hk => ?_, fun k hk hk2 => ?_, fun k hk => ⟨fun hk1 hk2 => ?_, fun hk1 => ?_⟩, h5, h6, h7⟩
    · show sr E x.2.2.1 2 k = if k < x.2.2.1 + 1 ∧ upd2 (inF J t x.2.2.1 x.2.2.2) 0 x.2.2.1 2 0 k ≠ 3 then upd2 (inF J t x.2.2.1 x.2.2.2) 0 x.2.2.1 2 0 k else -1
      by_cases q : k = x.2.2.1
      · subst q
        rw [e0, sr_same, if_pos ⟨by omega, by decide⟩]
      · rw [eo _ _ _ q, sr_ne q, h1 k hk]
        by_cases q2 : k < x.2.2.1 ∧ x.2.2.2 0 k ≠ 3
        · rw [if_pos q2, if_pos ⟨by omega, q2.2⟩]
        · rw [if_neg q2, if_neg (fun z => q2 ⟨by omega, z.2⟩)]
    · show G k = if k < x.2.2.1 + 1 then upd2 (inF J t x.2.2.1 x.2.2.2) 0 x.2.2.1 2 2 k else -1
      rw [h2 k hk]
      by_cases q : k = x.2.2.1
      · subst q
        rw [e2, if_neg (by omega), if_pos (by omega)]
      · rw [eo _ _ _ q]
        by_cases q2 : k < x.2.2.1
        · rw [if_pos q2, if_pos (by omega)]
        · rw [if_neg q2, if_neg (by omega)]
    · have hk : k < x.2.2.1 + 1 := hk
      have hk2 : upd2 (inF J t x.2.2.1 x.2.2.2) 0 x.2.2.1 2 0 k ≠ 3 := hk2
      show sr F x.2.2.1 t k = upd2 (inF J t x.2.2.1 x.2.2.2) 0 x.2.2.1 2 3 k
      by_cases q : k = x.2.2.1
      · subst q
        rw [e3, sr_same]
      · rw [eo _ _ _ q] at hk2 ⊢
        rw [sr_ne q]
        exact h3 k (by omega) hk2
    · have hk1 : k < x.2.2.1 + 1 := hk1
      have hk2 : upd2 (inF J t x.2.2.1 x.2.2.2) 0 x.2.2.1 2 0 k = 3 := hk2
      show R k = upd2 (inF J t x.2.2.1 x.2.2.2) 0 x.2.2.1 2 1 k
      by_cases q : k = x.2.2.1
      · subst q
        rw [e0] at hk2
        exact absurd hk2 (by decide)
      · rw [eo _ _ _ q] at hk2 ⊢
        exact (h4 k hk).1 (by omega) hk2
    · have hk1 : x.2.2.1 + 1 ≤ k := hk1
      exact (h4 k hk).2 (by omega)
theorem rel_seat (hp : PVi n many t x) (h : PRl n J [] x E F G R P B st) (h0 : 0 < x.1.length) (ht : 0 ≤ t) : PRl n J [] (sSeat1 J by_ t x) E F (if G (x.1.getD (plc J by_ x.1 x.2.2.2) 0) < 0 then sr G (x.1.getD (plc J by_ x.1 x.2.2.2) 0) t else G) R P (sr B (x.1.getD (plc J by_ x.1 x.2.2.2) 0) 1) st := by
  obtain ⟨h1, h2, h3, h4, h5, h6, h7⟩ := h
  obtain ⟨p1, p2, p3, p4, p5, p6, p7, p8, p9⟩ := hp
  have hpl := plc_lt (J := J) (by_ := by_) (F := x.2.2.2) h0
  have hm : x.1.getD (plc J by_ x.1 x.2.2.2) 0 ∈ x.1 := by rw [getD_lt hpl]; exact List.getElem_mem _
  have hil : ipl x.2.1 (x.1.getD (plc J by_ x.1 x.2.2.2) 0) x.2.1.length ≤ x.2.1.length := by
    have : ∀ p, ipl x.2.1 (x.1.getD (plc J by_ x.1 x.2.2.2) 0) p ≤ p := by
      intro p
      induction p with
      | zero => exact Nat.le_refl 0
      | succ p ih =>
        unfold ipl
        split
        · omega
        · omega
    exact this _
  unfold sSeat1
  generalize x.1.getD (plc J by_ x.1 x.2.2.2) 0 = j at *
  have hjn := p3 j (List.mem_append_left _ hm)
  have hGj : G j = x.2.2.2 2 j := by rw [h2 j (by omega), if_pos hjn]
  have hF2 := (p5 j hjn).2.2.2
  have f0 : ∀ c, c ≠ 2 → ∀ k, (if x.2.2.2 2 j = -1 then upd2 x.2.2.2 2 j t else x.2.2.2) c k = x.2.2.2 c k := fun c hc k => by
    split
    · rw [u2_off hc]
    · rfl
  refine ⟨fun k hk => ?_, fun k hk => ?_, fun k hk hk2 => ?_, fun k hk => ⟨fun hk1 hk2 => ?_, fun hk1 => ?_⟩, fun k hk => ?_, ?_, fun i hi => h7 i (List.mem_of_mem_eraseIdx hi)⟩
  · show E k = if k < x.2.2.1 ∧ (if x.2.2.2 2 j = -1 then upd2 x.2.2.2 2 j t else x.2.2.2) 0 k ≠ 3 then (if x.2.2.2 2 j = -1 then upd2 x.2.2.2 2 j t else x.2.2.2) 0 k else -1
    rw [f0 0 (by decide)]
    exact h1 k hk
  · show (if G j < 0 then sr G j t else G) k = if k < x.2.2.1 then (if x.2.2.2 2 j = -1 then upd2 x.2.2.2 2 j t else x.2.2.2) 2 k else -1
    rw [hGj]
    by_cases q : x.2.2.2 2 j = -1
    · rw [if_pos q, if_pos (by omega)]
      by_cases q2 : k = j
      · subst q2
        rw [sr_same, if_pos hjn, u2_same]
      · rw [sr_ne q2, u2_ne q2]
        exact h2 k hk
    · rw [if_neg q, if_neg (by omega)]
      exact h2 k hk
  · have hk2 : (if x.2.2.2 2 j = -1 then upd2 x.2.2.2 2 j t else x.2.2.2) 0 k ≠ 3 := hk2
    show F k = (if x.2.2.2 2 j = -1 then upd2 x.2.2.2 2 j t else x.2.2.2) 3 k
    rw [f0 0 (by decide)] at hk2
    rw [f0 3 (by decide)]
    exact h3 k hk hk2
  · have hk2 : (if x.2.2.2 2 j = -1 then upd2 x.2.2.2 2 j t else x.2.2.2) 0 k = 3 := hk2
    show R k = (if x.2.2.2 2 j = -1 then upd2 x.2.2.2 2 j t else x.2.2.2) 1 k
    rw [f0 0 (by decide)] at hk2
    rw [f0 1 (by decide)]
    exact (h4 k hk).1 hk1 hk2
  · exact (h4 k hk).2 hk1
  · show sr B j 1 k = if k ∈ x.2.1.insertIdx _ j ∨ k ∈ [] then 1 else 0
    by_cases q : k = j
    · subst q
      rw [sr_same, if_pos (Or.inl ((List.mem_insertIdx hil).mpr (Or.inl rfl)))]
    · rw [sr_ne q, h5 k hk]
      by_cases q2 : k ∈ x.2.1
      · rw [if_pos (Or.inl q2), if_pos (Or.inl ((List.mem_insertIdx hil).mpr (Or.inr q2)))]
      · rw [if_neg (fun z => z.elim q2 List.not_mem_nil), if_neg (fun z => z.elim (fun w => ((List.mem_insertIdx hil).mp w).elim q q2) List.not_mem_nil)]
  · exact h6.sublist (List.eraseIdx_sublist _ _)
/-- one who is served works a tick -/
theorem rel_work {j : Nat} (p1 : x.2.2.1 ≤ n) (p2 : ((x.1 ++ x.2.1) ++ j :: L).Nodup) (p3 : ∀ i, i ∈ (x.1 ++ x.2.1) ++ j :: L → i < x.2.2.1) (hj3 : x.2.2.2 0 j = 3) (h : PRl n J (j :: L) x E F G R P B st) (hst : 0 ≤ st) :
    (¬ j ∈ x.1 ++ x.2.1 ∧ j < x.2.2.1 ∧ B j = 1 ∧ R j = x.2.2.2 1 j ∧ E j = -1) ∧
    (x.2.2.2 1 j - 1 ≤ 0 → PRl n J L (x.1, x.2.1, x.2.2.1, upd2 (upd2 (upd2 x.2.2.2 1 j (x.2.2.2 1 j - 1)) 0 j 0) 3 j (t + 1)) (sr E j 0) (sr F j (t + 1)) G (sr R j (R j - 1)) P (sr B j 0) st) ∧
    (¬ x.2.2.2 1 j - 1 ≤ 0 → PRl n J L (x.1 ++ [j], x.2.1, x.2.2.1, upd2 x.2.2.2 1 j (x.2.2.2 1 j - 1)) E F G (sr R j (R j - 1)) (sr P j st) (sr B j 0) (st + 1)) ∧
    (¬ x.2.2.2 1 j - 1 ≤ 0 → PRl n J L (x.1, x.2.1 ++ [j], x.2.2.1, upd2 x.2.2.2 1 j (x.2.2.2 1 j - 1)) E F G (sr R j (R j - 1)) P B st) := by
  obtain ⟨h1, h2, h3, h4, h5, h6, h7⟩ := h
  have hjn : j < x.2.2.1 := p3 j (List.mem_append_right _ List.mem_cons_self)
  have hdis : ∀ i, i ∈ x.1 ++ x.2.1 → i ≠ j := fun i hi z => by
    have := (List.nodup_append.mp p2).2.2 i hi j List.mem_cons_self
    exact this z
  have hL : j ∉ L := fun z => by
    have := (List.nodup_append.mp p2).2.1
    exact (List.nodup_cons.mp this).1 z
  have hnot : ¬ j ∈ x.1 ++ x.2.1 := fun z => hdis j z rfl
  have hRj : R j = x.2.2.2 1 j := (h4 j (by omega)).1 hjn hj3
  have hBj : B j = 1 := by rw [h5 j (by omega), if_pos (Or.inr List.mem_cons_self)]
  have hEj : E j = -1 := by rw [h1 j (by omega), if_neg (fun z => z.2 hj3)]
  have hBo : ∀ k, k < n → k ≠ j → B k = if k ∈ x.2.1 ∨ k ∈ L then 1 else 0 := fun k hk hkj => by
    rw [h5 k hk]
    by_cases q : k ∈ x.2.1 ∨ k ∈ L
    · rw [if_pos q, if_pos (q.elim Or.inl (fun z => Or.inr (List.mem_cons_of_mem _ z)))]
    · rw [if_neg q, if_neg (fun z => z.elim (fun w => q (Or.inl w)) (fun w => (List.mem_cons.mp w).elim hkj (fun y => q (Or.inr y))))]
  have hBn : ∀ k, k < n → sr B j 0 k = if k ∈ x.2.1 ∨ k ∈ L then 1 else 0 := fun k hk => by
    by_cases q : k = j
    · subst q
      rw [sr_same, if_neg (fun z => z.elim (fun w => hnot (List.mem_append_right _ w)) hL)]
    · rw [sr_ne q]
      exact hBo k hk q
  refine ⟨⟨hnot, hjn, hBj, hRj, hEj⟩, fun hz => ?_, fun hz => ?_, fun hz => ?_⟩
  · have g : ∀ c k, upd2 (upd2 (upd2 x.2.2.2 1 j (x.2.2.2 1 j - 1)) 0 j 0) 3 j (t + 1) c k = if k = j then (if c = 3 then t + 1 else if c = 0 then 0 else if c = 1 then x.2.2.2 1 j - 1 else x.2.2.2 c k) else x.2.2.2 c k := fun c k => by
      rw [u2', u2', u2']
      by_cases q : k = j
      · subst q
        rw [if_pos rfl]
        by_cases c3 : c = 3
        · rw [if_pos ⟨c3, rfl⟩, if_pos c3]
        · rw [if_neg (fun z => c3 z.1), if_neg c3]
          by_cases c0 : c = 0
          · rw [if_pos ⟨c0, rfl⟩, if_pos c0]
          · rw [if_neg (fun z => c0 z.1), if_neg c0]
            by_cases c1 : c = 1
            · rw [if_pos ⟨c1, rfl⟩, if_pos c1]
            · rw [if_neg (fun z => c1 z.1), if_neg c1]
      · rw [if_neg q, if_neg (fun z => q z.2), if_neg (fun z => q z.2), if_neg (fun z => q z.2)]
    unfold PRl
    dsimp only
    generalize upd2 (upd2 (upd2 x.2.2.2 1 j (x.2.2.2 1 j - 1)) 0 j 0) 3 j (t + 1) = U at g
    refine ⟨fun k hk => ?_, fun k hk => ?_, fun k hk hk2 => ?_, fun k hk => ⟨fun hk1 hk2 => ?_, fun hk1 => ?_⟩, hBn, h6, h7⟩
    · show sr E j 0 k = if k < x.2.2.1 ∧ U 0 k ≠ 3 then U 0 k else -1
      by_cases q : k = j
      · subst q
        have e : U 0 k = 0 := by rw [g, if_pos rfl, if_neg (by decide), if_pos rfl]
        rw [e, sr_same, if_pos ⟨hjn, by decide⟩]
      · rw [g, if_neg q, sr_ne q]
        exact h1 k hk
    · show G k = if k < x.2.2.1 then U 2 k else -1
      have e : U 2 k = x.2.2.2 2 k := by rw [g]; split <;> rfl
      rw [e]
      exact h2 k hk
    · by_cases q : k = j
      · subst q
        rw [g, if_pos rfl, if_pos rfl, sr_same]
      · rw [g, if_neg q] at hk2 ⊢
        rw [sr_ne q]
        exact h3 k hk hk2
    · by_cases q : k = j
      · subst q
        rw [g, if_pos rfl, if_neg (by decide), if_pos rfl] at hk2
        exact absurd hk2 (by decide)
      · rw [g, if_neg q] at hk2 ⊢
        rw [sr_ne q]
        exact (h4 k hk).1 hk1 hk2
    · rw [sr_ne (by omega)]
      exact (h4 k hk).2 hk1
  all_goals
    have g : ∀ c k, upd2 x.2.2.2 1 j (x.2.2.2 1 j - 1) c k = if c = 1 ∧ k = j then x.2.2.2 1 j - 1 else x.2.2.2 c k := fun c k => u2'
    unfold PRl
    dsimp only
    generalize upd2 x.2.2.2 1 j (x.2.2.2 1 j - 1) = U at g
    have g0 : ∀ k, U 0 k = x.2.2.2 0 k := fun k => by rw [g, if_neg (fun z => absurd z.1 (by decide))]
    have g2 : ∀ k, U 2 k = x.2.2.2 2 k := fun k => by rw [g, if_neg (fun z => absurd z.1 (by decide))]
    have g3 : ∀ k, U 3 k = x.2.2.2 3 k := fun k => by rw [g, if_neg (fun z => absurd z.1 (by decide))]
    have gr : ∀ k, k < n → (k < x.2.2.1 → U 0 k = 3 → sr R j (R j - 1) k = U 1 k) ∧ (x.2.2.1 ≤ k → sr R j (R j - 1) k = J (4 * k + 1)) := fun k hk => by
      by_cases q : k = j
      · subst q
        rw [sr_same, g 1, if_pos ⟨rfl, rfl⟩, hRj]
        exact ⟨fun _ _ => rfl, fun z => absurd z (by omega)⟩
      · rw [sr_ne q, g 1, if_neg (fun z => q z.2), g0]
        exact h4 k hk
  · refine ⟨fun k hk => by show E k = if k < x.2.2.1 ∧ U 0 k ≠ 3 then U 0 k else -1; rw [g0]; exact h1 k hk, fun k hk => by show G k = if k < x.2.2.1 then U 2 k else -1; rw [g2]; exact h2 k hk, fun k hk hk2 => by rw [g0] at hk2; rw [g3]; exact h3 k hk hk2, gr, hBn, ?_, fun i hi => ?_⟩
    · refine List.pairwise_append.mpr ⟨h6.imp_of_mem (fun {a b} ha hb hab => ?_), List.pairwise_singleton _ _, fun a ha b hb => ?_⟩
      · rw [sr_ne (hdis a (List.mem_append_left _ ha)), sr_ne (hdis b (List.mem_append_left _ hb))]
        exact hab
      · rw [List.mem_singleton.mp hb, sr_same, sr_ne (hdis a (List.mem_append_left _ ha))]
        exact (h7 a ha).2
    · rcases List.mem_append.mp hi with z | z
      · have := h7 i z
        rw [sr_ne (hdis i (List.mem_append_left _ z))]
        omega
      · rw [List.mem_singleton.mp z, sr_same]
        omega
  · refine ⟨fun k hk => by show E k = if k < x.2.2.1 ∧ U 0 k ≠ 3 then U 0 k else -1; rw [g0]; exact h1 k hk, fun k hk => by show G k = if k < x.2.2.1 then U 2 k else -1; rw [g2]; exact h2 k hk, fun k hk hk2 => by rw [g0] at hk2; rw [g3]; exact h3 k hk hk2, gr, fun k hk => ?_, h6, h7⟩
    show B k = if k ∈ x.2.1 ++ [j] ∨ k ∈ L then 1 else 0
    by_cases q : k = j
    · subst q
      rw [hBj, if_pos (Or.inl (List.mem_append_right _ List.mem_cons_self))]
    · rw [hBo k hk q]
      by_cases q2 : k ∈ x.2.1 ∨ k ∈ L
      · rw [if_pos q2, if_pos (q2.elim (fun z => Or.inl (List.mem_append_left _ z)) Or.inr)]
      · rw [if_neg q2, if_neg (fun z => z.elim (fun w => (List.mem_append.mp w).elim (fun y => q2 (Or.inl y)) (fun y => q (List.mem_singleton.mp y))) (fun w => q2 (Or.inr w)))]
end PRL
/-! whom the law takes next -/
def isBst (kf : Nat → Int) (row : List Nat) (b : Nat) : Prop := b ∈ row ∧ ∀ i, i ∈ row → kf b < kf i ∨ (kf b = kf i ∧ b ≤ i)
theorem isBst.uniq {kf : Nat → Int} {row : List Nat} {b c : Nat} (h : isBst kf row b) (g : isBst kf row c) : b = c := by
  have h1 := h.2 c g.1
  have h2 := g.2 b h.1
  omega
theorem bpl_min {kf : Nat → Int} {row : List Nat} : ∀ (f b k : Nat), k + f = row.length → b < row.length → (∀ i, i < k → kf (row.getD b 0) < kf (row.getD i 0) ∨ (kf (row.getD b 0) = kf (row.getD i 0) ∧ row.getD b 0 ≤ row.getD i 0)) → ∀ i, i < row.length → kf (row.getD (bpl kf row f b k) 0) < kf (row.getD i 0) ∨ (kf (row.getD (bpl kf row f b k) 0) = kf (row.getD i 0) ∧ row.getD (bpl kf row f b k) 0 ≤ row.getD i 0)
  | 0, b, k, hk, hb, h => fun i hi => h i (by omega)
  | f + 1, b, k, hk, hb, h => by
    unfold bpl
    by_cases q : kf (row.getD k 0) < kf (row.getD b 0) ∨ (kf (row.getD k 0) = kf (row.getD b 0) ∧ row.getD k 0 < row.getD b 0)
    · rw [if_pos q]
      refine bpl_min f k (k + 1) (by omega) (by omega) fun i hi => ?_
      by_cases e : i = k
      · subst e; omega
      · have := h i (by omega)
        omega
    · rw [if_neg q]
      refine bpl_min f b (k + 1) (by omega) hb fun i hi => ?_
      by_cases e : i = k
      · subst e; omega
      · exact h i (by omega)
/-- the law's measure -/
def lkey (J : Nat → Int) (by_ : Int) (P R : Nat → Int) (k : Nat) : Int := if by_ = 0 ∨ by_ = 4 then P k else if by_ = 1 then - P k else if by_ = 2 then J (4 * k + 1) else if by_ = 3 then J (4 * k + 2) else R k
theorem plc_best {J : Nat → Int} {by_ : Int} {row : List Nat} {F : Mem} {P R : Nat → Int} (hb : 0 ≤ by_ ∧ by_ ≤ 5) (h0 : 0 < row.length) (hP : row.Pairwise (fun i j => P i < P j)) (hR : ∀ i, i ∈ row → R i = F 1 i) : isBst (lkey J by_ P R) row (row.getD (plc J by_ row F) 0) := by
  have hpl := plc_lt (J := J) (by_ := by_) (F := F) h0
  have hmem : ∀ p, p < row.length → row.getD p 0 ∈ row := fun p hp => by rw [getD_lt hp]; exact List.getElem_mem _
  have hidx : ∀ i, i ∈ row → ∃ p, p < row.length ∧ row.getD p 0 = i := fun i hi => by
    obtain ⟨p, hp, e⟩ := List.getElem_of_mem hi
    exact ⟨p, hp, by rw [getD_lt hp]; exact e⟩
  have hlt : ∀ p q, p < q → q < row.length → P (row.getD p 0) < P (row.getD q 0) := fun p q h1 h2 => by
    rw [getD_lt (by omega), getD_lt h2]
    exact List.pairwise_iff_getElem.mp hP p q (by omega) h2 h1
  refine ⟨hmem _ hpl, fun i hi => ?_⟩
  obtain ⟨p, hp, rfl⟩ := hidx i hi
  by_cases e1 : by_ = 1
  · have e : plc J by_ row F = row.length - 1 := by unfold plc; rw [if_pos e1]
    rw [e]
    unfold lkey
    rw [if_neg (by omega), if_pos e1, if_neg (by omega), if_pos e1]
    by_cases q : p = row.length - 1
    · rw [q]; exact Or.inr ⟨rfl, Nat.le_refl _⟩
    · have := hlt p (row.length - 1) (by omega) (by omega)
      exact Or.inl (by omega)
  · by_cases e0 : by_ = 0 ∨ by_ = 4
    · have e : plc J by_ row F = 0 := by unfold plc; rw [if_neg e1, if_pos e0]
      rw [e]
      unfold lkey
      rw [if_pos e0, if_pos e0]
      by_cases q : p = 0
      · rw [q]; exact Or.inr ⟨rfl, Nat.le_refl _⟩
      · exact Or.inl (hlt 0 p (by omega) hp)
    · have e : plc J by_ row F = bpl (keyF J by_ F) row (row.length - 1) 0 1 := by unfold plc; rw [if_neg e1, if_neg e0]
      have hk : ∀ i, i ∈ row → lkey J by_ P R i = keyF J by_ F i := fun i hi => by
        unfold lkey keyF
        rw [if_neg e0, if_neg e1]
        by_cases e2 : by_ = 2
        · rw [if_pos e2, if_pos e2]
        · rw [if_neg e2, if_neg e2]
          by_cases e3 : by_ = 3
          · rw [if_pos e3, if_pos e3]
          · rw [if_neg e3, if_neg e3]
            exact hR i hi
      have hm := bpl_min (kf := keyF J by_ F) (row := row) (row.length - 1) 0 1 (by omega) h0 (fun i hi => by
        have : i = 0 := by omega
        subst this
        exact Or.inr ⟨rfl, Nat.le_refl _⟩) p hp
      rw [hk _ (hmem _ hpl), hk _ (hmem _ hp), e]
      exact hm
