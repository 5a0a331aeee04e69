/-! Rows of rows. -/
def MxQ (kk k : Nat) (C : LMem) (q n m : Nat) (P : Nat → Nat) (A : Nat → Nat → Int) : Prop := (∃ f, C q = (kk + 1, n, f) ∧ ∀ i, i < n → f i = ((P i + 1 : Nat) : Int)) ∧ (∀ i, i < n → ∃ g, C (P i) = (k + 1, m, g) ∧ ∀ j, j < m → g j = A i j) ∧ ∀ i j, i < n → j < n → P i = P j → i = j
section MQS
variable {kk k q n m : Nat} {C C' C0 : LMem} {P : Nat → Nat} {A : Nat → Nat → Int} {S : List Nat}
theorem MxQ.off (h : MxQ kk k C q n m P A) (hf : LF S C C') (hq : q ∉ S) (hP : ∀ i, i < n → P i ∉ S) : MxQ kk k C' q n m P A := by
  obtain ⟨⟨f, h1, h2⟩, h3, h4⟩ := h
  refine ⟨⟨f, hf.at' hq h1, h2⟩, fun i hi => ?_, h4⟩
  obtain ⟨g, g1, g2⟩ := h3 i hi
  exact ⟨g, hf.at' (hP i hi) g1, g2⟩
theorem MxQ.off0 (h : MxQ kk k C q n m P A) (hf : LF [] C C') : MxQ kk k C' q n m P A := h.off hf (fun z => by cases z) (fun i _ z => by cases z)
theorem MxQ.rnd {r : Nat} {x : Nat → Int} (h : MxQ kk k C q n m P A) (hf : LF [r] C C') (hr : C r = (1, 1, x)) (hk : 0 < kk) (hm : k = 0 → m ≠ 1) : MxQ kk k C' q n m P A := by
  obtain ⟨⟨f, h1, h2⟩, h3, h4⟩ := id h
  refine h.off hf (nin1 fun z => ?_) (fun i hi => nin1 fun z => ?_)
  · rw [z, hr] at h1
    have h9 : (1 : Nat) = kk + 1 := congrArg (fun x : LCel => x.1) h1
    omega
  · obtain ⟨g, g1, g2⟩ := h3 i hi
    rw [z, hr] at g1
    have h9 : (1 : Nat) = k + 1 := congrArg (fun x : LCel => x.1) g1
    have h8 : (1 : Nat) = m := congrArg (fun x : LCel => x.2.1) g1
    exact hm (by omega) h8.symm
theorem MxQ.new {x : LCel} {z : Nat} (h : MxQ kk k C q n m P A) (hz : (C z).1 = 0) : MxQ kk k (cst C z x) q n m P A := by
  obtain ⟨⟨f, h1, h2⟩, h3, h4⟩ := id h
  refine ⟨⟨f, by rw [cst_ne (Ne.symm (ne_new h1 hz))]; exact h1, h2⟩, fun i hi => ?_, h4⟩
  obtain ⟨g, g1, g2⟩ := h3 i hi
  exact ⟨g, by rw [cst_ne (Ne.symm (ne_new g1 hz))]; exact g1, g2⟩
/-- one place of a row of it -/
theorem MxQ.set {i j : Nat} {v : Int} {g : Nat → Int} (h : MxQ kk k C q n m P A) (hi : i < n) (hg : C (P i) = (k + 1, m, g)) (hne : q ≠ P i) : MxQ kk k (cst C (P i) (k + 1, m, sr g j v)) q n m P (upA A i j v) := by
  obtain ⟨⟨f, h1, h2⟩, h3, h4⟩ := id h
  refine ⟨⟨f, by rw [cst_ne hne]; exact h1, h2⟩, fun a ha => ?_, h4⟩
  by_cases e : a = i
  · subst e
    refine ⟨_, cst_self, fun c hc => ?_⟩
    unfold upA
    by_cases z : c = j
    · rw [z, sr_same, if_pos ⟨rfl, rfl⟩]
    · rw [sr_ne z, if_neg (fun w => z w.2)]
      obtain ⟨g2, g3, g4⟩ := h3 a ha
      rw [hg] at g3
      have : g = g2 := congrArg (fun x : LCel => x.2.2) g3
      rw [this]
      exact g4 c hc
  · obtain ⟨g2, g3, g4⟩ := h3 a ha
    refine ⟨g2, by rw [cst_ne (fun z => e (h4 a i ha hi z))]; exact g3, fun c hc => ?_⟩
    unfold upA
    rw [if_neg (fun w => e w.1)]
    exact g4 c hc
/-- another row in the place of one -/
theorem MxQ.row {i z : Nat} {f g : Nat → Int} (h : MxQ kk k C q n m P A) (hi : i < n) (hq : C q = (kk + 1, n, f)) (hz : C z = (k + 1, m, g)) (hne : z ≠ q) (hfr : ∀ a, a < n → z ≠ P a) (hkk : kk ≠ k) : MxQ kk k (cst C q (kk + 1, n, sr f i ((z + 1 : Nat) : Int))) q n m (fun a => if a = i then z else P a) (fun a c => if a = i then g c else A a c) := by
  obtain ⟨⟨f', h1, h2⟩, h3, h4⟩ := id h
  have ef : f = f' := by
    rw [hq] at h1
    exact congrArg (fun x : LCel => x.2.2) h1
  have hPq : ∀ a, a < n → P a ≠ q := fun a ha w => by
    obtain ⟨g2, g3, g4⟩ := h3 a ha
    rw [w, hq] at g3
    have h9 : kk + 1 = k + 1 := congrArg (fun x : LCel => x.1) g3
    omega
  refine ⟨⟨_, cst_self, fun a ha => ?_⟩, fun a ha => ?_, fun a c ha hc he => ?_⟩
  · by_cases e : a = i
    · show sr f i _ a = (((if a = i then z else P a) + 1 : Nat) : Int)
      rw [if_pos e, e, sr_same]
    · show sr f i _ a = (((if a = i then z else P a) + 1 : Nat) : Int)
      rw [sr_ne e, if_neg e, ef]
      exact h2 a ha
  · by_cases e : a = i
    · refine ⟨g, ?_, fun c hc => ?_⟩
      · show cst C q _ (if a = i then z else P a) = _
        rw [if_pos e, cst_ne hne]; exact hz
      · show g c = if a = i then g c else A a c
        rw [if_pos e]
    · obtain ⟨g2, g3, g4⟩ := h3 a ha
      refine ⟨g2, ?_, fun c hc => ?_⟩
      · show cst C q _ (if a = i then z else P a) = _
        rw [if_neg e, cst_ne (hPq a ha)]; exact g3
      · show g2 c = if a = i then g c else A a c
        rw [if_neg e]; exact g4 c hc
  · have he : (if a = i then z else P a) = (if c = i then z else P c) := he
    by_cases e1 : a = i
    · by_cases e2 : c = i
      · rw [e1, e2]
      · rw [if_pos e1, if_neg e2] at he
        exact absurd he (hfr c hc)
    · by_cases e2 : c = i
      · rw [if_neg e1, if_pos e2] at he
        exact absurd he.symm (hfr a ha)
      · rw [if_neg e1, if_neg e2] at he
        exact h4 a c ha hc he
theorem MxQ.mk {kd ke : Nat} (hfr : ∀ j, j ≤ n → (C (q + j)).1 = 0) : MxQ kd ke (cmn C q n (kd + 1) (ke + 1) m) q n m (fun i => q + 1 + i) (fun _ _ => 0) := by
  refine ⟨⟨_, by unfold cmn; rw [if_pos rfl], fun i hi => if_pos hi⟩, fun i hi => ⟨fun _ => 0, ?_, fun _ _ => rfl⟩, fun i j _ _ h => by
    have h : q + 1 + i = q + 1 + j := h
    omega⟩
  show cmn C q n (kd + 1) (ke + 1) m (q + 1 + i) = _
  unfold cmn
  rw [if_neg (by omega), if_pos ⟨by omega, by omega⟩]
theorem cmn_off {kd ke x : Nat} (hfr : ∀ j, j ≤ n → (C (q + j)).1 = 0) (hx : (C x).1 ≠ 0) : cmn C q n kd ke m x = C x := by
  unfold cmn
  by_cases e : x = q
  · exact absurd (hfr 0 (Nat.zero_le n)) (by rw [Nat.add_zero, ← e]; exact hx)
  · rw [if_neg e]
    by_cases z : q < x ∧ x ≤ q + n
    · exact absurd (hfr (x - q) (by omega)) (by rw [show q + (x - q) = x by omega]; exact hx)
    · rw [if_neg z]
theorem LF.mkn {kd ke : Nat} (h : LF S C0 C) (hfr : ∀ j, j ≤ n → (C (q + j)).1 = 0) : LF S C0 (cmn C q n kd ke m) := fun x hx => by
  have h1 := h x hx
  rw [cmn_off hfr (by rw [h1.1]; exact hx)]
  exact h1
theorem MxQ.ocmn {kd ke z u v : Nat} (h : MxQ kk k C q n m P A) (hfr : ∀ j, j ≤ u → (C (z + j)).1 = 0) : MxQ kk k (cmn C z u kd ke v) q n m P A := by
  obtain ⟨⟨f, h1, h2⟩, h3, h4⟩ := id h
  refine ⟨⟨f, by rw [cmn_off hfr (by rw [h1]; exact Nat.succ_ne_zero _)]; exact h1, h2⟩, fun i hi => ?_, h4⟩
  obtain ⟨g, g1, g2⟩ := h3 i hi
  exact ⟨g, by rw [cmn_off hfr (by rw [g1]; exact Nat.succ_ne_zero _)]; exact g1, g2⟩
end MQS
