theorem s_MserversFor {d : Nat} {M : Mem} {a b c e : Int} (ha : R32 a) (hb : R32 b) (hc : R32 c) (he : R32 e) : Post (d + 8) cM_serversFor [oM, .inl a, .inl b, .inl c, .inl e] M (fun v M' => (¬ (fracOk a b ∧ fracOk c e) ∧ M' = upd2 M 175 0 1) ∨ ((fracOk a b ∧ fracOk c e) ∧ FM [] [0] [64, 65, 66, 67, 68, 81] M M' ∧ ((∃ n : Nat, n ≤ 30 ∧ v = n ∧ M' 175 0 = 0 ∧ lossF (mkRat a b.toNat) n ≤ mkRat c e.toNat ∧ ∀ k, k < n → ¬ lossF (mkRat a b.toNat) k ≤ mkRat c e.toNat) ∨ (M' 175 0 = 2 ∧ ∀ k, k ≤ 30 → ¬ lossF (mkRat a b.toNat) k ≤ mkRat c e.toNat)))) := by
  intro Q hQ
  have no : ¬ (fracOk a b ∧ fracOk c e) → cald (d + 7) cM_refuse [oM, .inl 1] M (fun r M2 => Rt r (fun v2 => Q (.inl v2) M2) (fun x => Q (.inr x) M2)) := fun h => (s_refuse (d := d + 6)).cal fun v2 M2 hM2 => by
    obtain ⟨rfl, rfl⟩ := hM2
    exact hQ _ _ (Or.inl ⟨h, rfl⟩)
  refine e_M_serversFor (b_M_serversFor_0 ?_)
  refine (s_isFraction (d := d + 5) ha hb).cal fun v1 M1 hM1 => ?_
  obtain ⟨rfl, ⟨rfl, g1⟩ | ⟨rfl, g1⟩⟩ := hM1
  · refine ⟨⟨by decide, by decide⟩, fun z => absurd z (by decide), fun _ => ?_⟩
    refine (s_isFraction (d := d + 5) hc he).cal fun v1 M1 hM1 => ?_
    obtain ⟨rfl, ⟨rfl, g3⟩ | ⟨rfl, g3⟩⟩ := hM1
    · refine ⟨⟨by decide, by decide⟩, fun _ => ?_, fun z => absurd (by decide) z⟩
      obtain ⟨q1, q2⟩ := g1
      obtain ⟨q3, q4⟩ := g3
      obtain ⟨A, rfl⟩ : ∃ A : Nat, a = A := ⟨a.toNat, by omega⟩
      obtain ⟨B, rfl⟩ : ∃ B : Nat, b = B := ⟨b.toNat, by omega⟩
      obtain ⟨C, rfl⟩ : ∃ C : Nat, c = C := ⟨c.toNat, by omega⟩
      obtain ⟨E, rfl⟩ : ∃ E : Nat, e = E := ⟨e.toNat, by omega⟩
      simp only [Int.toNat_natCast] at hQ
      have ok : fracOk (A : Int) B ∧ fracOk (C : Int) E := ⟨⟨q1, q2⟩, q3, q4⟩
      obtain ⟨_, _, _, p4⟩ := p156
      refine (s_sets (d := d + 2) (i := 81) (x := 1) (y := 1) (by decide) (by decide) (by decide) (by decide)).cal fun v1 M2 hM2 => ?_
      obtain ⟨f2, k2⟩ := hM2
      refine ⟨hc, he, ?_⟩
      refine (s_sets (d := d + 2) (i := 67) (x := (C : Int)) (y := E) (by decide) (by omega) (by omega) (by omega)).cal fun v1 M3 hM3 => ?_
      obtain ⟨f3, k3⟩ := hM3
      have loop : ∀ (m k : Nat), k + m = 31 → ∀ M4 o3 o4, FM [] [] [64, 65, 66, 67, 68, 81] M1 M4 → FQ M4 81 (lossF (mkRat (A : Int) B) k) → FQ M4 67 (mkRat (C : Int) E) → (∀ j, j < k → ¬ lossF (mkRat (A : Int) B) j ≤ mkRat (C : Int) E) → L_M_serversFor_26 (d + 7) Q M4 (A : Int) (B : Int) o3 o4 (k : Int) := by
        intro m
        induction m with
        | zero =>
          intro k hk M4 o3 o4 f g gc hall
          refine b_M_serversFor_26 ⟨⟨by omega, by omega⟩, fun _ => ⟨fun z => absurd z (by omega), fun _ => ?_⟩, fun z => absurd (by omega) z⟩
          refine (s_refuse (d := d + 6)).cal fun v2 M5 hM5 => ?_
          obtain ⟨rfl, rfl⟩ := hM5
          exact hQ _ _ (Or.inr ⟨ok, (f.mono (fun _ h => h) (by simp) (fun _ h => h)).tr (FM.slot.mono (by simp) (by simp) (by simp)), Or.inr ⟨u2_same, fun j hj => hall j (by omega)⟩⟩)
        | succ m ih =>
          intro k hk M4 o3 o4 f g gc hall
          refine b_M_serversFor_26 ⟨⟨by omega, by omega⟩, fun z => absurd z (by omega), fun _ => ?_⟩
          refine (s_compares (d := d + 1) (a := 81) (b := 67) (ka := 39) (kb := 1) (by decide) (by decide) g gc (Bd_loss (by omega) (by omega) (by omega)) (Bd_mk (by omega) (by omega) (by omega)) (by decide)).cal fun v5 M5 hM5 => ?_
          obtain ⟨f5, rfl⟩ := hM5
          have F5 : FM [] [] [64, 65, 66, 67, 68, 81] M1 M5 := f.tr (f5.fm.mono (by simp) (by simp) (by simp))
          rw [sign_sub_le]
          have := sign_r (lossF (mkRat (A : Int) B) k - mkRat (C : Int) E).num
          refine ⟨⟨by omega, by omega⟩, fun z => ⟨fun _ => ?_, fun z2 => absurd (by omega) z2⟩, fun z => ?_⟩
          · refine (s_told (d := d + 6)).cal fun v6 M6 hM6 => ?_
            obtain ⟨rfl, rfl⟩ := hM6
            exact hQ _ _ (Or.inr ⟨ok, (F5.mono (fun _ h => h) (by simp) (fun _ h => h)).tr (FM.slot.mono (by simp) (by simp) (by simp)), Or.inl ⟨k, by omega, rfl, u2_same, z, hall⟩⟩)
          · have hk30 : k ≤ 30 := by omega
            refine (s_addsServer (d := d + 1) (x := A) (y := B) (k := k) (by omega) (by omega) (by omega) (g.kept f5 (by decide) (by decide))).cal fun v6 M6 hM6 => ?_
            obtain ⟨f6, k6⟩ := hM6
            refine ih (k + 1) (by omega) M6 _ _ (F5.tr (f6.fm.mono (by simp) (by simp) (by simp))) k6 ((gc.kept f5 (by decide) (by decide)).kept f6 (by decide) (by decide)) fun j hj => ?_
            by_cases ej : j = k
            · rw [ej]; exact z
            · exact hall j (by omega)
      exact loop 31 0 (by omega) M3 _ _ ((f2.fm.mono (by simp) (by simp) (by simp)).tr (f3.fm.mono (by simp) (by simp) (by simp))) (by rw [show mkRat (1 : Int) 1 = 1 from Rat.mkRat_self 1] at k2; exact k2.kept f3 (by decide) (by decide)) k3 (fun j hj => absurd hj (Nat.not_lt_zero j))
    · exact ⟨⟨by decide, by decide⟩, fun z => absurd rfl z, fun _ => no fun h => g3 h.2⟩
  · exact ⟨⟨by decide, by decide⟩, fun _ => no fun h => g1 h.1, fun z => absurd rfl z⟩
