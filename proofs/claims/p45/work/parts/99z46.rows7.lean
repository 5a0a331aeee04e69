/-! The reference's rows: divideRows. -/
theorem raw_rf {l : List Nat} {M M' : Mem} {r i : Nat} (h : RF l M M') (hr : r ∉ l) (hi : i < 300) : raw M' r i = raw M r i := h.2.2 r i hr hi
/-- what holds between the steps of a division -/
def DV (M0 M : Mem) (b sh : Nat) (v w R : Int) : Prop := RF [195, 196] M0 M ∧ Row M 196 R ∧ Row M b w ∧ v = bs 10000 (raw M 195) (sh + 1) * w + R ∧ ∀ p, p ≤ sh → 0 ≤ raw M 195 p ∧ raw M 195 p < 10000