/-! The reference's fractions: a sign and two rows. -/
/-- nothing but these rows and these signs has changed -/
def RS (l ls : List Nat) (M M' : Mem) : Prop := (∀ a, a ≠ 163 → a ≠ 164 → a ≠ 165 → M' a = M a) ∧ (∀ q, q ∉ l → M' 164 q = M 164 q) ∧ (∀ q i, q ∉ l → i < 300 → M' 163 (300 * q + i) = M 163 (300 * q + i)) ∧ ∀ j, j ∉ ls → M' 165 j = M 165 j
theorem RF.rs {l ls : List Nat} {M M' : Mem} (h : RF l M M') : RS l ls M M' := ⟨fun a h1 h2 _ => h.1 a h1 h2, h.2.1, h.2.2, fun j _ => by rw [h.1 165 (by decide) (by decide)]⟩
theorem RS.tr {l ls : List Nat} {M M' M'' : Mem} (h : RS l ls M M') (h2 : RS l ls M' M'') : RS l ls M M'' := ⟨fun a q1 q2 q3 => (h2.1 a q1 q2 q3).trans (h.1 a q1 q2 q3), fun q hq => (h2.2.1 q hq).trans (h.2.1 q hq), fun q i hq hi => (h2.2.2.1 q i hq hi).trans (h.2.2.1 q i hq hi), fun j hj => (h2.2.2.2 j hj).trans (h.2.2.2 j hj)⟩
theorem RS.mono {l l' ls ls' : List Nat} {M M' : Mem} (h : RS l ls M M') (hl : ∀ a, a ∈ l → a ∈ l') (hs : ∀ a, a ∈ ls → a ∈ ls') : RS l' ls' M M' := ⟨h.1, fun q hq => h.2.1 q fun z => hq (hl q z), fun q i hq hi => h.2.2.1 q i (fun z => hq (hl q z)) hi, fun j hj => h.2.2.2 j fun z => hj (hs j z)⟩
theorem RS.sign {l ls : List Nat} {M : Mem} {i : Nat} {v : Int} (hi : i ∈ ls) : RS l ls M (upd2 M 165 i v) := ⟨fun a _ _ h3 => u2_off h3, fun q _ => by rw [u2_off (by decide)], fun q j _ _ => by rw [u2_off (by decide)], fun j hj => u2_ne fun e => hj (by rw [e]; exact hi)⟩
theorem Row.keptS {M M' : Mem} {r : Nat} {v : Int} {l ls : List Nat} (h : Row M r v) (hf : RS l ls M M') (hr : r ∉ l) : Row M' r v := by
  have hs := h.size
  have e : rd M' r = rd M r := funext fun i => by
    unfold rd
    rw [hf.2.1 r hr]
    by_cases q : (i : Int) < M 164 r
    · rw [if_pos q, if_pos q, hf.2.2.1 r i hr (by omega)]
    · rw [if_neg q, if_neg q]
  obtain ⟨h1, n, h2, h3, h4, h5⟩ := h
  unfold Row
  rw [e, hf.2.1 r hr]
  exact ⟨h1, n, h2, h3, h4, h5⟩