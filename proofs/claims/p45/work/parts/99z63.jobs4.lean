/-! read of the reference. -/
theorem addT_congr {f : Nat → Int} {n : Nat} {T U : Nat → Int} : ∀ c, (∀ i, i < 4 * c → T i = U i) → addT f n T c = addT f n U c
  | 0, _ => rfl
  | c + 1, h => by
    show add4 (addT f n T c) _ _ _ _ _ = add4 (addT f n U c) _ _ _ _ _
    rw [addT_congr c (fun i hi => h i (by omega)), h _ (by omega), h _ (by omega), h _ (by omega), h _ (by omega)]
theorem allOk_congr {T U : Nat → Int} {c : Nat} (h : ∀ i, i < 4 * c → T i = U i) : allOk T c ↔ allOk U c := by
  unfold allOk
  constructor
  · intro g k hk
    rw [← h _ (by omega), ← h _ (by omega), ← h _ (by omega), ← h _ (by omega)]
    exact g k hk
  · intro g k hk
    rw [h _ (by omega), h _ (by omega), h _ (by omega), h _ (by omega)]
    exact g k hk
theorem inOrder_congr {l : Int} {T U : Nat → Int} {c : Nat} (h : ∀ i, i < 4 * c → T i = U i) : inOrder l T c ↔ inOrder l U c := by
  unfold inOrder
  have e : ∀ k, k < c → (if k = 0 then l else T (4 * (k - 1))) = (if k = 0 then l else U (4 * (k - 1))) := fun k hk => by
    by_cases q : k = 0
    · rw [if_pos q, if_pos q]
    · rw [if_neg q, if_neg q, h _ (by omega)]
  constructor
  · intro g k hk
    rw [← e k hk, ← h _ (by omega)]
    exact g k hk
  · intro g k hk
    rw [e k hk, h _ (by omega)]
    exact g k hk