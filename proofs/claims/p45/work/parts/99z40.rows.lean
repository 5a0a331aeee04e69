/-! The reference's rows: digits of four, 200 rows of 300 places. -/
abbrev oM : PV := .inr (.inr (.inl 175))
theorem DD0 : (0 : Int) < 10000 := by decide
/-- nothing but these rows has changed -/
def RF (l : List Nat) (M M' : Mem) : Prop := (∀ a, a ≠ 163 → a ≠ 164 → M' a = M a) ∧ (∀ q, q ∉ l → M' 164 q = M 164 q) ∧ ∀ q i, q ∉ l → i < 300 → M' 163 (300 * q + i) = M 163 (300 * q + i)
theorem RF.rfl' {l : List Nat} {M : Mem} : RF l M M := ⟨fun _ _ _ => rfl, fun _ _ => rfl, fun _ _ _ _ => rfl⟩
theorem RF.tr {l : List Nat} {M M' M'' : Mem} (h : RF l M M') (h2 : RF l M' M'') : RF l M M'' := ⟨fun a h3 h4 => (h2.1 a h3 h4).trans (h.1 a h3 h4), fun q hq => (h2.2.1 q hq).trans (h.2.1 q hq), fun q i hq hi => (h2.2.2 q i hq hi).trans (h.2.2 q i hq hi)⟩
theorem RF.mono {l l' : List Nat} {M M' : Mem} (h : RF l M M') (hl : ∀ a, a ∈ l → a ∈ l') : RF l' M M' := ⟨h.1, fun q hq => h.2.1 q fun z => hq (hl q z), fun q i hq hi => h.2.2 q i (fun z => hq (hl q z)) hi⟩
theorem RF.digit {l : List Nat} {M M' : Mem} {r i : Nat} {v : Int} (h : RF l M M') (hr : r ∈ l) (hi : i < 300) : RF l M (upd2 M' 163 (300 * r + i) v) := by
  refine ⟨fun a h3 h4 => ?_, fun q hq => ?_, fun q j hq hj => ?_⟩
  · rw [u2_off h3]; exact h.1 a h3 h4
  · rw [u2_off (by decide)]; exact h.2.1 q hq
  · have : q ≠ r := fun e => hq (by rw [e]; exact hr)
    rw [u2_ne (by omega)]
    exact h.2.2 q j hq hj
theorem RF.size {l : List Nat} {M M' : Mem} {r : Nat} {v : Int} (h : RF l M M') (hr : r ∈ l) : RF l M (upd2 M' 164 r v) := by
  refine ⟨fun a h3 h4 => ?_, fun q hq => ?_, fun q j hq hj => ?_⟩
  · rw [u2_off h4]; exact h.1 a h3 h4
  · rw [u2_ne fun e => hq (by rw [e]; exact hr)]; exact h.2.1 q hq
  · rw [u2_off (by decide)]
    exact h.2.2 q j hq hj
/-- what stands at a place of a row -/
def rd (M : Mem) (r i : Nat) : Int := if (i : Int) < M 164 r then M 163 (300 * r + i) else 0
def Row (M : Mem) (r : Nat) (v : Int) : Prop := Dg 10000 (rd M r) ∧ ∃ n : Nat, n ≤ 300 ∧ M 164 r = n ∧ (n = 0 ∨ rd M r (n - 1) ≠ 0) ∧ v = bs 10000 (rd M r) n
theorem rd_kept {l : List Nat} {M M' : Mem} {r : Nat} (hf : RF l M M') (hr : r ∉ l) (h : M 164 r ≤ 300) : rd M' r = rd M r := funext fun i => by
  unfold rd
  rw [hf.2.1 r hr]
  by_cases q : (i : Int) < M 164 r
  · rw [if_pos q, if_pos q, hf.2.2 r i hr (by omega)]
  · rw [if_neg q, if_neg q]
theorem Row.kept {M M' : Mem} {r : Nat} {v : Int} {l : List Nat} (h : Row M r v) (hf : RF l M M') (hr : r ∉ l) : Row M' r v := by
  obtain ⟨h1, n, h2, h3, h4, h5⟩ := h
  unfold Row
  rw [rd_kept hf hr (by omega), hf.2.1 r hr]
  exact ⟨h1, n, h2, h3, h4, h5⟩
theorem Row.size {M : Mem} {r : Nat} {v : Int} (h : Row M r v) : 0 ≤ M 164 r ∧ M 164 r ≤ 300 := by
  obtain ⟨h1, n, h2, h3, h4, h5⟩ := h
  omega
theorem rd_top {M : Mem} {r i : Nat} (h : M 164 r ≤ i) : rd M r i = 0 := if_neg (by omega)
theorem Row.at_ {M : Mem} {r : Nat} {v : Int} {m : Nat} (h : Row M r v) (hm : M 164 r ≤ m) : v = bs 10000 (rd M r) m := by
  obtain ⟨h1, n, h2, h3, h4, h5⟩ := h
  rw [h5]
  exact (bs_top (by omega) fun i hi _ => rd_top (by omega)).symm
theorem Row.nonneg {M : Mem} {r : Nat} {v : Int} (h : Row M r v) : 0 ≤ v := by
  obtain ⟨h1, n, h2, h3, h4, rfl⟩ := h
  exact h1.bs0 DD0 n
theorem Row.range {M : Mem} {r : Nat} {v : Int} {n : Nat} (h : Row M r v) (hn : M 164 r = n) : v < 10000 ^ n ∧ (0 < n → 10000 ^ (n - 1) ≤ v) ∧ v = bs 10000 (rd M r) n := by
  obtain ⟨h1, n', h2, h3, h4, h5⟩ := h
  have : n = n' := by omega
  subst this
  refine ⟨by rw [h5]; exact h1.bsl DD0 n, fun h0 => ?_, h5⟩
  obtain ⟨m, rfl⟩ : ∃ m, n = m + 1 := ⟨n - 1, by omega⟩
  rw [h5, Nat.add_sub_cancel]
  refine bs_ge_top DD0 (fun i => (h1 i).1) ?_
  rcases h4 with h4 | h4
  · omega
  · simpa using h4
/-- the value bounds the size -/
theorem Row.fits {M : Mem} {r : Nat} {v : Int} {k : Nat} (h : Row M r v) (hv : v < 10000 ^ k) : M 164 r ≤ k := by
  have hs := h.size
  obtain ⟨n, hn⟩ : ∃ n : Nat, M 164 r = n := ⟨(M 164 r).toNat, by omega⟩
  obtain ⟨a1, a2, a3⟩ := h.range hn
  rcases Nat.lt_or_ge k n with q | q
  · exfalso
    have h2 := a2 (by omega)
    have : (10000 : Int) ^ k ≤ 10000 ^ (n - 1) := pw_mono (by decide) (by omega)
    omega
  · omega
theorem Row.zero_iff {M : Mem} {r : Nat} {v : Int} (h : Row M r v) : M 164 r = 0 ↔ v = 0 := by
  have hs := h.size
  obtain ⟨n, hn⟩ : ∃ n : Nat, M 164 r = n := ⟨(M 164 r).toNat, by omega⟩
  obtain ⟨h1, h2, h3⟩ := h.range hn
  constructor
  · intro e
    have : n = 0 := by omega
    subst this
    exact h3
  · intro e
    rcases Nat.eq_zero_or_pos n with q | q
    · omega
    · have h4 := h2 q
      have h5 := pw_pos DD0 (n - 1)
      omega
theorem Row.mk {M : Mem} {r k : Nat} (hk : k ≤ 300) (hs : M 164 r = k) (hd : ∀ i, i < k → 0 ≤ M 163 (300 * r + i) ∧ M 163 (300 * r + i) < 10000) (ht : k = 0 ∨ M 163 (300 * r + (k - 1)) ≠ 0) : Row M r (bs 10000 (fun i => M 163 (300 * r + i)) k) := by
  have hin : ∀ i, i < k → rd M r i = M 163 (300 * r + i) := fun i hi => if_pos (by omega)
  refine ⟨fun i => ?_, k, hk, hs, ?_, bs_congr fun i hi => (hin i hi).symm⟩
  · by_cases q : i < k
    · rw [hin i q]; exact hd i q
    · rw [rd_top (by omega)]; exact ⟨by decide, by decide⟩
  · rcases ht with q | q
    · exact Or.inl q
    · by_cases e : k = 0
      · exact Or.inl e
      · exact Or.inr (by rw [hin _ (by omega)]; exact q)