/-! What the pure proofs owe, out of what nets owe. -/
set_option maxRecDepth 200000 in
theorem law_pure0 (HN : NetOK) (H4 : E4OK) : PureOK := fun x => by
  have hQ : ∀ (M : Mem) (C : LMem), (fun (v : Int) (_ : Mem) (_ : LMem) => v = 1) 1 M C := fun _ _ => rfl
  have r0 : R32 0 := ⟨by decide, by decide⟩
  refine b_W_plays2_4 (d := 200) (r0 := 0) (r1 := 1) (r2 := 2) ?_
  have l6 : ∀ (u k : Nat) (C : LMem) (f : Nat → Int), k + u = 10 → C 0 = (1, 1, fun _ => x) → C 1 = (1, 120, fun _ => 0) → C 2 = (1, 10, f) → (∀ i, i < k → f i = 0) → L_W_plays2_6 200 (fun v _ _ => v = 1) M1 C 150 0 1 2 (k : Int) none none := by
    intro u
    induction u with
    | zero =>
      intro k C f hk h0 h1 h2 hf
      have hj : JCs 0 1 2 stJ0 stL0 C := ⟨⟨_, h0⟩, ⟨_, h1, fun i hi => absurd hi (Nat.not_lt_zero i)⟩, f, h2, hf 0 (by omega), hf 2 (by omega)⟩
      obtain ⟨q, hcf⟩ := iq_first
      refine b_W_plays2_6 ?_
      simp only [h2]
      refine ⟨⟨by decide, by decide⟩, ⟨by omega, by omega⟩, ⟨by decide, by decide⟩, fun _ => ⟨by omega, ?_⟩, fun z => absurd (by omega) z⟩
      refine c_undoNo (d := 199) q (w := 0) (x := 0) (y := 0) (z := 0) rfl ⟨r0, r0⟩ r0 r0 _ ?_
      rintro v1 M2 C2 ⟨rfl, rfl, rfl⟩
      refine ⟨⟨by decide, by decide⟩, fun z => absurd rfl z, fun _ => ⟨by omega, ?_⟩⟩
      refine d_result (b := 0) hcf r0 (by decide) (by decide) _ ?_
      rintro v2 M2 ⟨rfl, hv2⟩
      rw [if_pos rfl] at hv2
      have hv2 : v2 = 0 := hv2
      show R64 v2 ∧ _
      refine ⟨⟨by omega, by omega⟩, fun z => absurd hv2 z, fun _ => ⟨by omega, ?_⟩⟩
      refine d_result (b := 1) hcf ⟨by decide, by decide⟩ (by decide) (by decide) _ ?_
      rintro v3 M2 ⟨rfl, hv3⟩
      rw [if_neg (by decide)] at hv3
      have hv3 : v3 = 1 := hv3
      show R64 v3 ∧ _
      refine ⟨⟨by omega, by omega⟩, fun z => absurd hv3 z, fun _ => ⟨by omega, ?_⟩⟩
      refine c_write (d := 199) q hcf (w := 0) (x := 0) (y := 0) (z := 0) ⟨r0, r0⟩ r0 r0 _ ?_
      rintro v4 M3 C3' ⟨rfl, rfl, U, hU, q4⟩
      refine ⟨⟨by decide, by decide⟩, fun z => absurd rfl z, fun _ => ⟨by omega, ?_⟩⟩
      refine d_sign q4 (i := 0) ⟨by decide, by show (0 : Int) < 3; decide⟩ _ ?_
      rintro v5 M4 ⟨rfl, hv5⟩
      have hv5 : v5 = 48 := hv5.trans hU
      show R32 v5 ∧ _
      refine ⟨⟨by omega, by omega⟩, fun z => absurd hv5 z, fun _ => ⟨by omega, ?_⟩⟩
      refine d_sum1 q4 _ ?_
      rintro v6 M5 ⟨q6, T, -, hv6⟩
      have hv6 : v6 = 0 := hv6
      show R32 v6 ∧ _
      exact ⟨⟨by omega, by omega⟩, fun z => absurd hv6 z, fun _ => p2_61 HN H4 hQ 12 0 M5 _ _ _ _ _ _ _ _ _ _ _ (by omega) (by omega) q6 hj⟩
    | succ u ih =>
      intro k C f hk h0 h1 h2 hf
      refine b_W_plays2_6 ?_
      simp only [h2, cup_of h2, Int.toNat_natCast]
      refine ⟨⟨by decide, by decide⟩, ⟨by omega, by omega⟩, ⟨by decide, by decide⟩, fun z => absurd z (by omega), fun _ => ⟨trivial, ⟨by omega, by omega⟩, ?_⟩⟩
      refine ih (k + 1) _ (sr f k 0) (by omega) (by rw [cst_ne (by decide)]; exact h0) (by rw [cst_ne (by decide)]; exact h1) cst_self (fun i hi => ?_)
      by_cases z : i = k
      · rw [z, sr_same]
      · rw [sr_ne z]; exact hf i (by omega)
  exact l6 10 0 (C3 x) (fun _ => 0) (by omega) rfl rfl rfl (fun _ _ => rfl)
