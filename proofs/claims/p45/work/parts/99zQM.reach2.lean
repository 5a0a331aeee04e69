/-! isReached: the rows of fractions. -/
def VN (C : LMem) (q n m : Nat) (S : Nat → Prop) (R : Nat → Nat) (w : Nat → Rat) : Prop := ∃ f, C q = (6, n, f) ∧ ∀ i, i < m → (S i → f i = ((R i + 1 : Nat) : Int) ∧ FL C (R i) (w i)) ∧ (¬ S i → f i = 0)
theorem FL.not6 {C : LMem} {y q n : Nat} {v : Rat} {f : Nat → Int} (hy : FL C y v) (hq : C q = (6, n, f)) : y ≠ q := fun e => by
  obtain ⟨g, g1, -⟩ := hy
  rw [e, hq] at g1
  have h9 : (6 : Nat) = 2 := congrArg (fun x : LCel => x.1) g1
  omega
theorem FL.st6 {C : LMem} {y q n : Nat} {v : Rat} {f : Nat → Int} {x : LCel} (hy : FL C y v) (hq : C q = (6, n, f)) : FL (cst C q x) y v := by
  have hn := hy.not6 hq
  obtain ⟨g, g1, g2⟩ := hy
  exact ⟨g, by rw [cst_ne hn]; exact g1, g2⟩
section VNS
variable {C C' : LMem} {q q2 n m : Nat} {S : Nat → Prop} {R : Nat → Nat} {w : Nat → Rat} {f : Nat → Int}
theorem VN.off (h : VN C q n m S R w) (hf : LF [] C C') : VN C' q n m S R w := by
  obtain ⟨f, h1, h2⟩ := h
  have z : ∀ x : Nat, x ∉ ([] : List Nat) := fun x hx => by cases hx
  exact ⟨f, hf.at' (k := 5) (z _) h1, fun i hi => ⟨fun s => ⟨((h2 i hi).1 s).1, ((h2 i hi).1 s).2.kept hf (z _)⟩, (h2 i hi).2⟩⟩
theorem VN.oth {x : LCel} (h : VN C q n m S R w) (hq : C q2 = (6, n, f)) (hne : q ≠ q2) : VN (cst C q2 x) q n m S R w := by
  obtain ⟨f', h1, h2⟩ := h
  exact ⟨f', by rw [cst_ne hne]; exact h1, fun i hi => ⟨fun s => ⟨((h2 i hi).1 s).1, ((h2 i hi).1 s).2.st6 hq⟩, (h2 i hi).2⟩⟩
theorem VQ.oth {x : LCel} (h : VQ C q n m R w) (hq : C q2 = (6, n, f)) (hne : q ≠ q2) : VQ (cst C q2 x) q n m R w := by
  obtain ⟨f', h1, h2⟩ := h
  exact ⟨f', by rw [cst_ne hne]; exact h1, fun i hi => ⟨(h2 i hi).1, (h2 i hi).2.st6 hq⟩⟩
theorem VN.set {x : Rat} {q' : Nat} (h : VN C q n m S R w) (hq : C q = (6, n, f)) (hx : FL C q' x) (hs : S m) : VN (cst C q (6, n, sr f m ((q' + 1 : Nat) : Int))) q n (m + 1) S (fun i => if i = m then q' else R i) (fun i => if i = m then x else w i) := by
  obtain ⟨f', h1, h2⟩ := h
  have ef : f' = f := by rw [h1] at hq; exact congrArg (fun x : LCel => x.2.2) hq
  refine ⟨_, cst_self, fun i hi => ?_⟩
  show (S i → sr f m _ i = (((if i = m then q' else R i) + 1 : Nat) : Int) ∧ FL _ (if i = m then q' else R i) (if i = m then x else w i)) ∧ (¬ S i → sr f m _ i = 0)
  by_cases e : i = m
  · rw [if_pos e, if_pos e, e, sr_same]
    exact ⟨fun _ => ⟨rfl, hx.st6 hq⟩, fun z => absurd hs z⟩
  · rw [if_neg e, if_neg e, sr_ne e, ← ef]
    obtain ⟨a1, a2⟩ := h2 i (by omega)
    rw [ef] at a1 a2 ⊢
    exact ⟨fun s => ⟨(a1 s).1, (a1 s).2.st6 hq⟩, a2⟩
theorem VN.no (h : VN C q n m S R w) (hq : C q = (6, n, f)) (hs : ¬ S m) : VN (cst C q (6, n, sr f m 0)) q n (m + 1) S R w := by
  obtain ⟨f', h1, h2⟩ := h
  have ef : f' = f := by rw [h1] at hq; exact congrArg (fun x : LCel => x.2.2) hq
  refine ⟨_, cst_self, fun i hi => ?_⟩
  show (S i → sr f m 0 i = _ ∧ _) ∧ (¬ S i → sr f m 0 i = 0)
  by_cases e : i = m
  · rw [e, sr_same]
    exact ⟨fun z => absurd z hs, fun _ => rfl⟩
  · rw [sr_ne e, ← ef]
    obtain ⟨a1, a2⟩ := h2 i (by omega)
    rw [ef] at a1 a2 ⊢
    exact ⟨fun s => ⟨(a1 s).1, (a1 s).2.st6 hq⟩, a2⟩
end VNS
/-- all that isReached holds -/
def CRq (C0 : LMem) (r r4 r5 r7 r8 n : Nat) (P : Nat → Nat) (T : Nat → Nat → Int) (PB : Nat → Nat) (B : Nat → Nat → Int) (m : Nat) (R : Nat → Nat) (x : Nat → Rat) (m' : Nat) (S : Nat → Prop) (R' : Nat → Nat) (t : Nat → Rat) (C : LMem) : Prop := CWq C0 r r4 r5 n P T PB B C ∧ ((C0 r7).1 = 0 ∧ (C0 r8).1 = 0 ∧ r7 ≠ r8) ∧ VQ C r7 n m R x ∧ VN C r8 n m' S R' t
section CRS
variable {C0 C C' : LMem} {r r4 r5 r7 r8 n m m' : Nat} {P PB : Nat → Nat} {T B : Nat → Nat → Int} {R R' : Nat → Nat} {x t : Nat → Rat} {S : Nat → Prop} {f : Nat → Int}
theorem CRq.off (h : CRq C0 r r4 r5 r7 r8 n P T PB B m R x m' S R' t C) (hf : LF [] C C') : CRq C0 r r4 r5 r7 r8 n P T PB B m R x m' S R' t C' := ⟨h.1.off hf, h.2.1, h.2.2.1.off hf, h.2.2.2.off hf⟩
theorem CWq.st6 {q : Nat} {y : LCel} (h : CWq C0 r r4 r5 n P T PB B C) (hq0 : (C0 q).1 = 0) (hq : C q = (6, n, f)) : CWq C0 r r4 r5 n P T PB B (cst C q y) := by
  obtain ⟨h1, h2, h3, h4, h5⟩ := h
  exact ⟨h1.set hq0, h2.okd (k' := 5) hq (by decide) (by decide), h3, h4.okd (k' := 5) hq (by decide) (by decide), h5⟩
theorem CRq.setx {v : Rat} {q' : Nat} (h : CRq C0 r r4 r5 r7 r8 n P T PB B m R x m' S R' t C) (hq : C r7 = (6, n, f)) (hx : FL C q' v) : CRq C0 r r4 r5 r7 r8 n P T PB B (m + 1) (fun i => if i = m then q' else R i) (fun i => if i = m then v else x i) m' S R' t (cst C r7 (6, n, sr f m ((q' + 1 : Nat) : Int))) :=
  ⟨h.1.st6 h.2.1.1 hq, h.2.1, h.2.2.1.set hq hx, h.2.2.2.oth hq (Ne.symm h.2.1.2.2)⟩
theorem CRq.sett {v : Rat} {q' : Nat} (h : CRq C0 r r4 r5 r7 r8 n P T PB B m R x m' S R' t C) (hq : C r8 = (6, n, f)) (hx : FL C q' v) (hs : S m') : CRq C0 r r4 r5 r7 r8 n P T PB B m R x (m' + 1) S (fun i => if i = m' then q' else R' i) (fun i => if i = m' then v else t i) (cst C r8 (6, n, sr f m' ((q' + 1 : Nat) : Int))) :=
  ⟨h.1.st6 h.2.1.2.1 hq, h.2.1, h.2.2.1.oth hq h.2.1.2.2, h.2.2.2.set hq hx hs⟩
theorem CRq.setn (h : CRq C0 r r4 r5 r7 r8 n P T PB B m R x m' S R' t C) (hq : C r8 = (6, n, f)) (hs : ¬ S m') : CRq C0 r r4 r5 r7 r8 n P T PB B m R x (m' + 1) S R' t (cst C r8 (6, n, sr f m' 0)) :=
  ⟨h.1.st6 h.2.1.2.1 hq, h.2.1, h.2.2.1.oth hq h.2.1.2.2, h.2.2.2.no hq hs⟩
end CRS
