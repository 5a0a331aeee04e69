/-! The reference's rows: adding, subtracting, multiplying. -/
/-- so far only these places of the row are written -/
def AL (r i : Nat) (M0 M : Mem) : Prop := (∀ a, a ≠ 163 → M a = M0 a) ∧ ∀ p, (∀ j, j < i → p ≠ 300 * r + j) → M 163 p = M0 163 p
theorem AL.rf {r i : Nat} {M0 M : Mem} (h : AL r i M0 M) (hi : i ≤ 300) : RF [r] M0 M := by
  refine ⟨fun a h1 _ => h.1 a h1, fun q _ => by rw [h.1 164 (by decide)], fun q k hq hk => h.2 _ fun j hj e => hq ?_⟩
  have : q = r := by omega
  simp [this]
theorem AL.rdE {r i q : Nat} {M0 M : Mem} (h : AL r i M0 M) (hi : i < 300) : rd M q i = rd M0 q i := by
  unfold rd
  rw [h.1 164 (by decide)]
  by_cases e : (i : Int) < M0 164 q
  · rw [if_pos e, if_pos e]
    exact h.2 _ fun j hj e2 => by omega
  · rw [if_neg e, if_neg e]
theorem AL.step {r i : Nat} {M0 M : Mem} {v : Int} (h : AL r i M0 M) : AL r (i + 1) M0 (upd2 M 163 (300 * r + i) v) := by
  refine ⟨fun a h1 => by rw [u2_off h1]; exact h.1 a h1, fun p hp => ?_⟩
  rw [u2_ne (hp i (by omega))]
  exact h.2 p fun j hj => hp j (by omega)
theorem AL.zero {r : Nat} {M : Mem} : AL r 0 M M := ⟨fun _ _ => rfl, fun _ _ => rfl⟩
theorem raw_lo {f : Nat → Int} {b i : Nat} {x : Int} : bs 10000 (fun j => sr f (b + i) x (b + j)) i = bs 10000 (fun j => f (b + j)) i := bs_congr fun j hj => sr_ne (by omega)
theorem sbr_step {a b c x y z B P r c' : Int} (ih : r = a - b + c * P) (hs : z = x - y - c + c' * B) : r + z * P = a + x * P - (b + y * P) + c' * (P * B) := by
  rw [ih, hs]; grind