theorem s_Mfit {d : Nat} {M : Mem} {b a p : Int} {n m : Nat} {L B P J : Nat → Int} (hE : RE M b a p n L B P) (hO : envOk b a p) (hV : VJ m J) (hJ : M 151 = J) (hm : M 175 6 = m) : Post (d + 1) cM_fit [oM] M (fun v M' => M' = M ∧ ((v = 1 ∧ fitOk m J b a p) ∨ (v = 0 ∧ ¬ fitOk m J b a p))) := by
  intro Q hQ
  obtain ⟨c0, c1, c2, -, -, -⟩ := hE
  obtain ⟨o1, o2, o3⟩ := hO
  have h24 := hV.1
  rw [fit_iff hV (by omega)] at hQ
  have toN4 : ∀ k : Nat, (4 * (k : Int)).toNat = 4 * k := fun k => by omega
  have toN41 : ∀ k : Nat, (4 * (k : Int) + 1).toNat = 4 * k + 1 := fun k => by omega
  have toN44 : ∀ k : Nat, (4 * (k : Int) + 4).toNat = 4 * (k + 1) := fun k => by omega
  refine e_M_fit (b_M_fit_0 ?_)
  /- what stands before (i, k) -/
  have outer : ∀ (f i : Nat), i + f = m → ∀ x : Int, ((x = 1 ∧ ∀ i' k, i' < i → k < m → fitC m J b a p i' k) ∨ (x = 0 ∧ ¬ ∀ i' k, i' < m → k < m → fitC m J b a p i' k)) → ∀ o3 o4 o5, L_M_fit_4 d Q M x (i : Int) o3 o4 o5 := by
    intro f
    induction f with
    | zero =>
      intro i hi x hx o3 o4 o5
      refine b_M_fit_4 ?_
      rw [hm]
      refine ⟨⟨by omega, by omega⟩, ⟨by omega, by omega⟩, fun _ => ?_, fun z => absurd (by omega) z⟩
      rcases hx with ⟨rfl, hx⟩ | ⟨rfl, hx⟩
      · exact ⟨Or.inr rfl, hQ _ _ ⟨rfl, Or.inl ⟨rfl, fun i' k h1 h2 => hx i' k (by omega) h2⟩⟩⟩
      · exact ⟨Or.inl rfl, hQ _ _ ⟨rfl, Or.inr ⟨rfl, hx⟩⟩⟩
    | succ f ih =>
      intro i hi x hx o3 o4 o5
      refine b_M_fit_4 ?_
      rw [hm]
      refine ⟨⟨by omega, by omega⟩, ⟨by omega, by omega⟩, fun z => absurd z (by omega), fun _ => ?_⟩
      have inner : ∀ (g k : Nat), k + g = m → ∀ x : Int, ((x = 1 ∧ (∀ i' k', i' < i → k' < m → fitC m J b a p i' k') ∧ ∀ k', k' < k → fitC m J b a p i k') ∨ (x = 0 ∧ ¬ ∀ i' k, i' < m → k < m → fitC m J b a p i' k)) → ∀ o5, L_M_fit_12 d Q M x (i : Int) (sT J (J (4 * i)) k) (k : Int) o5 := by
        intro g
        induction g with
        | zero =>
          intro k hk x hx o5
          refine b_M_fit_12 ?_
          rw [hm]
          refine ⟨⟨by omega, by omega⟩, ⟨by omega, by omega⟩, fun _ => ?_, fun z => absurd (by omega) z⟩
          rw [show (i : Int) + 1 = ((i + 1 : Nat) : Int) by omega]
          refine ih (i + 1) (by omega) x ?_ _ _ _
          rcases hx with ⟨rfl, hx, hx2⟩ | hx
          · refine Or.inl ⟨rfl, fun i' k' h1 h2 => ?_⟩
            by_cases e : i' = i
            · rw [e]; exact hx2 k' (by omega)
            · exact hx i' k' (by omega) h2
          · exact Or.inr hx
        | succ g ihg =>
          intro k hk x hx o5
          have q1 := hV.2.1 k (by omega)
          have q2 := hV.2.1 i (by omega)
          unfold jobOk at q1 q2
          have w := sT_r (t := J (4 * i)) hV (k + 1) (by omega)
          have nx : ∀ x : Int, ((x = 1 ∧ (∀ i' k', i' < i → k' < m → fitC m J b a p i' k') ∧ ∀ k', k' < k + 1 → fitC m J b a p i k') ∨ (x = 0 ∧ ¬ ∀ i' k, i' < m → k < m → fitC m J b a p i' k)) → ∀ o5, L_M_fit_12 d Q M x (i : Int) (sT J (J (4 * i)) (k + 1)) ((k : Int) + 1) o5 := fun x hx o5 => by
            have := ihg (k + 1) (by omega) x hx o5
            rw [show ((k + 1 : Nat) : Int) = (k : Int) + 1 by omega] at this
            exact this
          have b67 : ∀ y : Int, ((y = 1 ∧ (k + 1 = m ∨ J (4 * (k + 1)) ≠ J (4 * k))) ∨ (y = 0 ∧ ¬ (k + 1 = m ∨ J (4 * (k + 1)) ≠ J (4 * k)))) → L_M_fit_67 d Q M x (i : Int) (sT J (J (4 * i)) (k + 1)) (k : Int) y := by
            intro y hy
            refine b_M_fit_67 ?_
            rw [c0, c1, c2, hJ, toN4, toN4]
            rcases hx with ⟨rfl, hx, hx2⟩ | ⟨rfl, hx⟩
            · have ok : fitC m J b a p i k → ((1 : Int) = 1 ∧ (∀ i' k', i' < i → k' < m → fitC m J b a p i' k') ∧ ∀ k', k' < k + 1 → fitC m J b a p i k') ∨ ((1 : Int) = 0 ∧ ¬ ∀ i' k, i' < m → k < m → fitC m J b a p i' k) := fun h => Or.inl ⟨rfl, hx, fun k' h1 => by
                by_cases e : k' = k
                · rw [e]; exact h
                · exact hx2 k' (by omega)⟩
              refine ⟨⟨by decide, by decide⟩, fun z => absurd z (by decide), fun _ => ?_⟩
              rcases hy with ⟨rfl, hy⟩ | ⟨rfl, hy⟩
              · refine ⟨⟨by decide, by decide⟩, fun z => absurd z (by decide), fun _ => ⟨⟨by omega, by omega⟩, ⟨by omega, by omega⟩, ⟨by omega, by omega⟩, ⟨by omega, by omega⟩, fun z => nx 1 (ok fun _ h => absurd z (by omega)) _, fun z => ?_⟩⟩
                have w3 := prod_r (x := sT J (J (4 * i)) (k + 1)) (y := p) (k := 960) ⟨by omega, by omega⟩ ⟨by omega, by omega⟩
                have w4 := prod_r (x := b) (y := p) (k := 999) ⟨by omega, by omega⟩ ⟨by omega, by omega⟩
                have w5 := prod_r (x := J (4 * k) - J (4 * i)) (y := a) (k := 500) ⟨by omega, by omega⟩ ⟨by omega, by omega⟩
                refine ⟨⟨by omega, by omega⟩, ⟨by omega, by omega⟩, fun z1 => nx 0 (Or.inr ⟨rfl, fun h => ?_⟩) _, fun z1 => nx 1 (ok fun _ _ => by omega) _⟩
                have := h i k (by omega) (by omega) hy (by omega)
                omega
              · exact ⟨⟨by decide, by decide⟩, fun _ => nx 1 (ok fun h => absurd h hy) _, fun z => absurd rfl z⟩
            · exact ⟨⟨by decide, by decide⟩, fun _ => nx 0 (Or.inr ⟨rfl, hx⟩) _, fun z => absurd rfl z⟩
          have b42 : L_M_fit_42 d Q M x (i : Int) (sT J (J (4 * i)) (k + 1)) (k : Int) o5 := by
            refine b_M_fit_42 ?_
            rw [hm, hJ, toN4, toN44]
            refine ⟨⟨by omega, by omega⟩, ⟨by omega, by omega⟩, fun z => b_M_fit_63 (b67 1 (Or.inl ⟨rfl, Or.inl (by omega)⟩)), fun z => ?_⟩
            have q3 := hV.2.1 (k + 1) (by omega)
            unfold jobOk at q3
            refine ⟨⟨by omega, by omega⟩, ⟨by omega, by omega⟩, ⟨by omega, by omega⟩, ⟨by omega, by omega⟩, fun z1 => b67 0 (Or.inr ⟨rfl, fun h => ?_⟩), fun z1 => b_M_fit_63 (b67 1 (Or.inl ⟨rfl, Or.inr z1⟩))⟩
            rcases h with h | h
            · omega
            · exact h z1
          refine b_M_fit_12 ?_
          rw [hm, hJ, toN4, toN4, toN41]
          have es : sT J (J (4 * i)) (k + 1) = sT J (J (4 * i)) k + (if J (4 * k) < J (4 * i) then 0 else J (4 * k + 1)) := rfl
          refine ⟨⟨by omega, by omega⟩, ⟨by omega, by omega⟩, fun z => absurd z (by omega), fun _ => ⟨⟨by omega, by omega⟩, ⟨by omega, by omega⟩, ⟨by omega, by omega⟩, ⟨by omega, by omega⟩, fun z => ?_, fun z => ⟨⟨by omega, by omega⟩, ?_⟩⟩⟩
          · rw [if_pos z] at es
            rw [← es]
            exact b42
          · rw [if_neg z] at es
            rw [← es]
            exact b42
      refine inner m 0 (by omega) x ?_ _
      rcases hx with ⟨rfl, hx⟩ | hx
      · exact Or.inl ⟨rfl, hx, fun k' h => absurd h (Nat.not_lt_zero k')⟩
      · exact Or.inr hx
  exact outer m 0 (by omega) 1 (Or.inl ⟨rfl, fun i' k h => absurd h (Nat.not_lt_zero i')⟩) _ _ _
theorem s_Mfits {d : Nat} {M : Mem} {b a p : Int} {n m : Nat} {L B P J : Nat → Int} (hE : RE M b a p n L B P) (hO : envOk b a p) (hV : VJ m J) (hJ : M 151 = J) (hm : M 175 6 = m) : Post (d + 2) cM_fits [oM] M (fun v M' => M' = upd2 M 175 0 0 ∧ ((v = 1 ∧ fitOk m J b a p) ∨ (v = 0 ∧ ¬ fitOk m J b a p))) := by
  intro Q hQ
  refine e_M_fits (b_M_fits_0 ?_)
  obtain ⟨c0, c1, c2, c3, c4, c5, c6⟩ := hE
  have o : ∀ c, c ≠ 175 → upd2 M 175 0 0 c = M c := fun c h => u2_off h
  refine (s_Mfit (d := d) (M := upd2 M 175 0 0) (b := b) (a := a) (p := p) (n := n) (L := L) (B := B) (P := P) (J := J) (m := m) ⟨by rw [u2_ne (by decide)]; exact c0, by rw [u2_ne (by decide)]; exact c1, by rw [u2_ne (by decide)]; exact c2, by rw [u2_ne (by decide)]; exact c3, by rw [o _ (by decide)]; exact c4, by rw [o _ (by decide)]; exact c5, by rw [o _ (by decide)]; exact c6⟩ hO hV (by rw [o _ (by decide)]; exact hJ) (by rw [u2_ne (by decide)]; exact hm)).cal fun v1 M1 hM1 => ?_
  obtain ⟨rfl, h⟩ := hM1
  refine ⟨?_, hQ _ _ ⟨rfl, h⟩⟩
  rcases h with ⟨h, _⟩ | ⟨h, _⟩
  · exact Or.inr h
  · exact Or.inl h
