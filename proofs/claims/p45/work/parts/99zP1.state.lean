/-! What the class holds between the calls, as values. -/
abbrev StJ : Type := Nat × (Nat → Int)
abbrev StL : Type := Int × Int × Int × Int
abbrev StC : Type := Nat × Int × (Nat → Nat → Int)
abbrev StN : Type := Nat × (Nat → Int) × (Nat → Int) × (Nat → Nat → Int)
abbrev StE : Type := Int × Int × Int × Nat × (Nat → Int) × (Nat → Int) × (Nat → Int)
abbrev StG : Type := (Nat → Int) × (Nat → Int)
abbrev StH : Type := Nat × (Nat → Int) × (Nat → Nat → Int)
abbrev StT : Type := Nat × (Nat → Int)
def qT (t : StT) (M : Mem) : Prop := TP M t.1 ∧ M 91 = t.2 ∧ ∀ i, R32 (M 92 i)
def qJ (j : StJ) (h : StH) (M : Mem) : Prop := VJ j.1 j.2 ∧ M 117 0 = j.1 ∧ M 94 = j.2 ∧ CH M h.1 h.2.1 h.2.2 ∧ ∀ k, k < h.1 → ∃ m : Nat, h.2.1 k = m ∧ VJ m (h.2.2 k)
def qL (j : StJ) (l : StL) (M : Mem) : Prop := lineC M j.1 j.2 l.1 l.2.1 l.2.2.1 l.2.2.2 ∧ freeC M j.1 j.2
def qC (c : StC) (M : Mem) : Prop := cOk c.1 c.2.1 c.2.2 ∧ CC M c.1 c.2.1 c.2.2
def qN (n : StN) (M : Mem) : Prop := nOk n.1 n.2.1 n.2.2.1 n.2.2.2 ∧ NC M n.1 n.2.1 n.2.2.1 n.2.2.2
def qE (e : StE) (M : Mem) : Prop := eOk e.1 e.2.1 e.2.2.1 e.2.2.2.1 e.2.2.2.2.1 e.2.2.2.2.2.1 e.2.2.2.2.2.2 ∧ CE M e.1 e.2.1 e.2.2.1 e.2.2.2.1 e.2.2.2.2.1 e.2.2.2.2.2.1 e.2.2.2.2.2.2
def qG (g : StG) (M : Mem) : Prop := gOk g.1 g.2 ∧ M 144 = g.1 ∧ M 145 = g.2
abbrev qlT : List Nat := [91, 92, 93]
abbrev qlJ : List Nat := [94, 95, 96, 97, 98, 99, 100, 101, 102, 103, 104, 105, 106, 107, 108, 109, 110, 111, 112, 113, 114, 115, 117]
abbrev qlL : List Nat := [54, 55, 56, 57, 58, 148, 149]
abbrev qlC : List Nat := [118, 119, 120, 121, 122, 123, 124, 130]
abbrev qlN : List Nat := [132, 133, 134, 135, 136, 137, 142]
abbrev qlE : List Nat := [143]
abbrev qlG : List Nat := [144, 145]
theorem Fr.at9 {l k : List Nat} {M M' : Mem} (f : Fr l M M') (h : nin l k = true) {a : Nat} (ha : a ∈ k) : M' a = M a := f a (nin_out h a ha)
theorem qT.fr {t : StT} {l : List Nat} {M M' : Mem} (h : qT t M) (f : Fr l M M') (hl : nin l qlT = true) : qT t M' :=
  ⟨h.1.fr (f.at9 hl (by decide)) (by rw [f.at9 hl (a := 93) (by decide)]), (f.at9 hl (by decide)).trans h.2.1, by rw [f.at9 hl (a := 92) (by decide)]; exact h.2.2⟩
theorem qJ.fr {j : StJ} {h9 : StH} {l : List Nat} {M M' : Mem} (h : qJ j h9 M) (f : Fr l M M') (hl : nin l qlJ = true) : qJ j h9 M' := by
  obtain ⟨h1, h2, h3, h4, h5⟩ := h
  refine ⟨h1, by rw [f.at9 hl (a := 117) (by decide)]; exact h2, (f.at9 hl (by decide)).trans h3, h4.fr (by rw [f.at9 hl (a := 117) (by decide)]) (by rw [f.at9 hl (a := 117) (by decide)]) (f.at9 hl (by decide)) fun p hp => f.at9 hl ?_, h5⟩
  have : ∀ p, p < 20 → 96 + p ∈ qlJ := by decide
  exact this p hp
theorem qL.fr {j : StJ} {l9 : StL} {l : List Nat} {M M' : Mem} (h : qL j l9 M) (f : Fr l M M') (hl : nin l qlL = true) : qL j l9 M' :=
  ⟨h.1.kept f (nin_out hl _ (by decide)) (nin_out hl _ (by decide)) (nin_out hl _ (by decide)) (nin_out hl _ (by decide)) (nin_out hl _ (by decide)) (by rw [f.at9 hl (a := 149) (by decide)]), h.2.kept f (nin_out hl _ (by decide)) (by rw [f.at9 hl (a := 149) (by decide)])⟩
theorem qC.fr {c : StC} {l : List Nat} {M M' : Mem} (h : qC c M) (f : Fr l M M') (hl : nin l qlC = true) : qC c M' :=
  ⟨h.1, h.2.kept f (nin_out hl _ (by decide)) fun i hi => nin_out hl _ (by
    have : ∀ i, i < 7 → 118 + i ∈ qlC := by decide
    exact this i hi)⟩
theorem qN.fr {n : StN} {l : List Nat} {M M' : Mem} (h : qN n M) (f : Fr l M M') (hl : nin l qlN = true) : qN n M' :=
  ⟨h.1, h.2.kept f (nin_out hl _ (by decide)) (nin_out hl _ (by decide)) (nin_out hl _ (by decide)) fun i hi => nin_out hl _ (by
    have : ∀ i, i < 4 → 134 + i ∈ qlN := by decide
    exact this i hi)⟩
theorem qE.fr {e : StE} {l : List Nat} {M M' : Mem} (h : qE e M) (f : Fr l M M') (hl : nin l qlE = true) : qE e M' := by
  refine ⟨h.1, ?_⟩
  have h2 := h.2
  unfold CE at h2 ⊢
  rw [f.at9 hl (a := 143) (by decide)]
  exact h2
theorem qG.fr {g : StG} {l : List Nat} {M M' : Mem} (h : qG g M) (f : Fr l M M') (hl : nin l qlG = true) : qG g M' :=
  ⟨h.1, (f.at9 hl (a := 144) (by decide)).trans h.2.1, (f.at9 hl (a := 145) (by decide)).trans h.2.2⟩
/-- all that the class holds, but for its result -/
def IQ (j : StJ) (l : StL) (c : StC) (n : StN) (e : StE) (g : StG) (h : StH) (t : StT) (M : Mem) : Prop := (∃ q, CF M q) ∧ AZ M ∧ qT t M ∧ qJ j h M ∧ qL j l M ∧ qC c M ∧ qN n M ∧ qE e M ∧ qG g M
section IQS
variable {j : StJ} {l : StL} {c : StC} {n : StN} {e : StE} {g : StG} {h : StH} {t : StT} {M M' : Mem} {k : List Nat}
theorem IQ.cf (q : IQ j l c n e g h t M) : ∃ q, CF M q := q.1
theorem IQ.az (q : IQ j l c n e g h t M) : AZ M := q.2.1
theorem IQ.tp (q : IQ j l c n e g h t M) : qT t M := q.2.2.1
theorem IQ.jb (q : IQ j l c n e g h t M) : qJ j h M := q.2.2.2.1
theorem IQ.ln (q : IQ j l c n e g h t M) : qL j l M := q.2.2.2.2.1
theorem IQ.ch (q : IQ j l c n e g h t M) : qC c M := q.2.2.2.2.2.1
theorem IQ.nt (q : IQ j l c n e g h t M) : qN n M := q.2.2.2.2.2.2.1
theorem IQ.ev (q : IQ j l c n e g h t M) : qE e M := q.2.2.2.2.2.2.2.1
theorem IQ.gm (q : IQ j l c n e g h t M) : qG g M := q.2.2.2.2.2.2.2.2
/-- what is no place of the class's state has changed -/
theorem IQ.fr (q : IQ j l c n e g h t M) (f : Fr k M M') (hk : nin k (qlT ++ qlJ ++ qlL ++ qlC ++ qlN ++ qlE ++ qlG) = true) (hz : AZ M') (hc : ∃ q, CF M' q) : IQ j l c n e g h t M' :=
  ⟨hc, hz, q.tp.fr f (nin_s hk (by decide)), q.jb.fr f (nin_s hk (by decide)), q.ln.fr f (nin_s hk (by decide)), q.ch.fr f (nin_s hk (by decide)), q.nt.fr f (nin_s hk (by decide)), q.ev.fr f (nin_s hk (by decide)), q.gm.fr f (nin_s hk (by decide))⟩
theorem AZ.off (h : AZ M) (f : Fr k M M') (hk : nin k (List.range 54) = true) : AZ M' := h.low fun a ha => f.at9 hk (List.mem_range.mpr ha)
theorem CF.off {q : Rat} (h : CF M q) (f : Fr k M M') (hk : nin k (List.range 54) = true) : CF M' q := h.kept f (nin_out hk _ (by decide)) (nin_out hk _ (by decide)) (nin_out hk _ (by decide)) (nin_out hk _ (by decide))
theorem IQ.off (q : IQ j l c n e g h t M) (f : Fr k M M') (hk : nin k (List.range 54 ++ (qlT ++ qlJ ++ qlL ++ qlC ++ qlN ++ qlE ++ qlG)) = true) : IQ j l c n e g h t M' :=
  have h1 : nin k (List.range 54) = true := nin_s hk fun a ha => List.mem_append_left _ ha
  q.fr f (nin_s hk fun a ha => List.mem_append_right _ ha) (q.az.off f h1) (let ⟨x, hx⟩ := q.cf; ⟨x, hx.off f h1⟩)
end IQS
/-! the class's answers, under a catch -/
def rA (r : Rs) : Int := match r with
  | .inl v => v
  | .inr x => noX x
def xOk (r : Rs) : Prop := match r with
  | .inl _ => True
  | .inr x => 2 ≤ x ∧ x ≤ 5
/-- a call of the law: the ends that it has -/
def LPo (d y : Nat) (a : List PV) (M : Mem) (C : LMem) (P : Int → Mem → LMem → Prop) : Prop := ∀ Q : LQ, (∀ v m c, P v m c → Q v m c) → lcal d y a M C Q
theorem LPo.of {d y : Nat} {a : List PV} {M : Mem} {C : LMem} {P : Int → Mem → LMem → Prop} (h : lcal d y a M C P) : LPo d y a M C P := fun _ hQ => lcalM hQ h
theorem LPo.up {d y : Nat} {a : List PV} {M : Mem} {C : LMem} {P : Int → Mem → LMem → Prop} (h : LPo d y a M C P) : LPo (d + 1) y a M C P := fun Q hQ => lcal_le (h Q hQ)
theorem LPo.le {d e y : Nat} {a : List PV} {M : Mem} {C : LMem} {P : Int → Mem → LMem → Prop} (h : LPo d y a M C P) (he : d ≤ e) : LPo e y a M C P := by
  obtain ⟨k, rfl⟩ := Nat.exists_eq_add_of_le he
  induction k with
  | zero => exact h
  | succ k ih => exact (ih (Nat.le_add_right _ _)).up
theorem LT_done : LTf cW_done = none := rfl
theorem e_done {d : Nat} {a : List PV} {M : Mem} {C : LMem} {Q : LQ} (h : extL cW_done a M C Q) : lcal (d + 1) cW_done a M C Q := by
  unfold lcal calL
  rw [LT_done]
  exact h
abbrev oH : PV := .inr (.inr (.inr 0))
theorem dn {d : Nat} {w a b c e : Int} {M : Mem} {C : LMem} {P : Rs → Mem → Prop} (hw : (0 ≤ w ∧ w < 30) ∧ w ≠ 17) (ha : R32 a ∧ R32 b) (hc : R32 c ∧ R32 e) (h : PostE 12 (doneY w.toNat a b c e).1 (oQ :: (doneY w.toNat a b c e).2) M P) (hx : ∀ r m, P r m → xOk r) :
    LPo (d + 1) cW_done [oH, .inl w, .inl a, .inl b, .inl c, .inl e] M C (fun v m c' => c' = C ∧ ∃ r, P r m ∧ v = rA r) := fun Q hQ => by
  refine e_done ?_
  refine ⟨rfl, hw.1, ⟨ha, hc⟩, h _ fun r m hr => ?_⟩
  have h9 := hx r m hr
  rcases r with v | x
  · exact ⟨fun z => absurd z hw.2, fun _ => hQ _ _ _ ⟨rfl, _, hr, rfl⟩⟩
  · exact ⟨h9, hQ _ _ _ ⟨rfl, _, hr, rfl⟩⟩
theorem dnZ {d : Nat} {a b c e : Int} {M : Mem} {C : LMem} {P : Rs → Mem → Prop} (ha : R32 a ∧ R32 b) (hc : R32 c ∧ R32 e) (h : PostE 12 cQ_isStable [oQ, .inl a] M P) (hx : ∀ r m, P r m → xOk r ∧ (r = .inl 0 ∨ r = .inl 1 ∨ ∃ x, r = .inr x)) :
    LPo (d + 1) cW_done [oH, .inl 17, .inl a, .inl b, .inl c, .inl e] M C (fun v m c' => c' = C ∧ ∃ r, P r m ∧ v = rA r) := fun Q hQ => by
  refine e_done ?_
  refine ⟨rfl, ⟨by omega, by omega⟩, ⟨ha, hc⟩, h _ fun r m hr => ?_⟩
  obtain ⟨h9, h8⟩ := hx r m hr
  rcases h8 with rfl | rfl | ⟨x, rfl⟩
  · exact ⟨fun _ => ⟨⟨by omega, by omega⟩, hQ _ _ _ ⟨rfl, _, hr, rfl⟩⟩, fun z => absurd rfl z⟩
  · exact ⟨fun _ => ⟨⟨by omega, by omega⟩, hQ _ _ _ ⟨rfl, _, hr, rfl⟩⟩, fun z => absurd rfl z⟩
  · exact ⟨h9, hQ _ _ _ ⟨rfl, _, hr, rfl⟩⟩
