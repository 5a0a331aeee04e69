/-! The law's plays: seats and work. -/
section PL2
variable {d kc : Nat} {Q : LQ} {M : Mem} {C0 : LMem} {r0 re rf rg rn rr rp rb n : Nat} {J fj : Nat → Int} {many by_ space wait : Int}
theorem pl_133 (hD : PD r0 re rf rg rn rr rp rb) {t : Nat} {y : SG} {E F G N R P B : Nat → Int} {st i14 i15 : Int} (h24 : n ≤ 24) (hp : PVi n many t y) (hR : PRl n J [] y E F G R P B st)
    (hQ : ∀ (o17 o19 o20 o21 o22 o23 o24 : Option PV), L_W_plays_148 d Q M (PMm C0 re rf rg rn rr rp rb E F G N R P B) kc r0 (n : Int) many by_ space wait re rf rg rn rr rp rb st i14 i15 (t : Int) o17 (y.2.1.length : Int) o19 o20 o21 o22 o23 o24) :
    ∀ (m k : Nat) (o17 o20 o21 o22 o23 o24 : Option PV), k + m = n → L_W_plays_133 d Q M (PMm C0 re rf rg rn rr rp rb E F G N R P B) kc r0 (n : Int) many by_ space wait re rf rg rn rr rp rb st i14 i15 (t : Int) o17 (sumN (fun i => if i ∈ y.2.1 then 1 else 0) k) (k : Int) o20 o21 o22 o23 o24
  | 0, k, o17, o20, o21, o22, o23, o24, hk => by
    have e : k = n := by omega
    subst e
    have hc : sumN (fun i => if i ∈ y.2.1 then 1 else 0) k = (y.2.1.length : Int) := sumN_ind y.2.1 k (List.nodup_append.mp hp.2.1).2.1 (fun j hj => by have := hp.2.2.1 j (List.mem_append_right _ hj); have := hp.1; omega)
    refine b_W_plays_133 ⟨⟨by omega, by omega⟩, ⟨by omega, by omega⟩, fun _ => ?_, fun z => absurd (Int.le_refl _) z⟩
    rw [hc]
    exact hQ _ _ _ _ _ _ _
  | m + 1, k, o17, o20, o21, o22, o23, o24, hk => by
    have hB := hR.2.2.2.2.1 k (by omega)
    have ih := fun (o17 o20 o21 o22 o23 o24 : Option PV) => pl_133 hD h24 hp hR hQ m (k + 1) o17 o20 o21 o22 o23 o24 (by omega)
    have hs : sumN (fun i => if i ∈ y.2.1 then 1 else 0) (k + 1) = sumN (fun i => if i ∈ y.2.1 then 1 else 0) k + if k ∈ y.2.1 then 1 else 0 := rfl
    refine b_W_plays_133 ⟨⟨by omega, by omega⟩, ⟨by omega, by omega⟩, fun z => absurd z (by omega), fun _ => ?_⟩
    simp only [m_rb hD, Int.toNat_natCast]
    by_cases q : k ∈ y.2.1
    · rw [if_pos (Or.inl q)] at hB
      rw [hB]
      have := ih (clr o17) o20 o21 o22 o23 o24
      rw [hs, if_pos q] at this
      exact ⟨trivial, ⟨by omega, by omega⟩, ⟨by omega, by omega⟩, fun z => absurd z (by omega), fun _ => this⟩
    · rw [if_neg (fun w => w.elim q List.not_mem_nil)] at hB
      rw [hB]
      have := ih (clr o17) o20 o21 o22 o23 o24
      rw [hs, if_neg q] at this
      exact ⟨trivial, ⟨by omega, by omega⟩, ⟨by omega, by omega⟩, fun _ => this, fun z => absurd rfl z⟩
def bstK (J : Nat → Int) (by_ : Int) (P R : Nat → Int) (row : List Nat) (k : Nat) (i : Int) : Prop := (i = -1 ∧ ∀ a, a < k → a ∉ row) ∨ ∃ b : Nat, i = (b : Int) ∧ b ∈ row ∧ b < k ∧ ∀ a, a ∈ row → a < k → lkey J by_ P R b < lkey J by_ P R a ∨ (lkey J by_ P R b = lkey J by_ P R a ∧ b ≤ a)
theorem pl_155 (hD : PD r0 re rf rg rn rr rp rb) (h0 : C0 r0 = (1, 120, fj)) (hV : VJ n J) (hj : ∀ i, i < 4 * n → fj i = J i) (hb : 0 ≤ by_ ∧ by_ ≤ 5) {t : Nat} (ht : t ≤ 1500) {y : SG} {E F G N R P B : Nat → Int} {st i14 i15 i18 : Int} (hp : PVi n many t y) (hR : PRl n J [] y E F G R P B st) (hlo : ∀ k, k < y.2.2.1 → J (4 * k) ≤ t) (hhi : ∀ k, k < n → y.2.2.1 ≤ k → t < J (4 * k)) (hst : st ≤ 1000000) {o17 : Option PV}
    (hQ : ∀ (i19 : Int) (o21 o22 o23 o24 : Option PV), bstK J by_ P R y.1 n i19 → L_W_plays_155 d Q M (PMm C0 re rf rg rn rr rp rb E F G N R P B) kc r0 (n : Int) many by_ space wait re rf rg rn rr rp rb st i14 i15 (t : Int) o17 i18 i19 (n : Int) o21 o22 o23 o24) :
    ∀ (m k : Nat) (i19 : Int) (o21 o22 o23 o24 : Option PV), k + m = n → bstK J by_ P R y.1 k i19 → L_W_plays_155 d Q M (PMm C0 re rf rg rn rr rp rb E F G N R P B) kc r0 (n : Int) many by_ space wait re rf rg rn rr rp rb st i14 i15 (t : Int) o17 i18 i19 (k : Int) o21 o22 o23 o24
  | 0, k, i19, o21, o22, o23, o24, hk, hB => by
    have e : k = n := by omega
    subst e
    exact hQ i19 o21 o22 o23 o24 hB
  | m + 1, k, i19, o21, o22, o23, o24, hk, hbk => by
    have h24 := hV.1
    have ih := fun (i : Int) (o21 o22 o23 o24 : Option PV) => pl_155 hD h0 hV hj hb ht hp hR hlo hhi hst hQ m (k + 1) i o21 o22 o23 o24 (by omega)
    have skip : k ∉ y.1 → bstK J by_ P R y.1 (k + 1) i19 := fun hn => by
      rcases hbk with ⟨e, h⟩ | ⟨b, e, h1, h2, h3⟩
      · exact Or.inl ⟨e, fun a ha => by
          by_cases z : a = k
          · rw [z]; exact hn
          · exact h a (by omega)⟩
      · exact Or.inr ⟨b, e, h1, by omega, fun a ha ha2 => by
          by_cases z : a = k
          · subst z; exact absurd ha hn
          · exact h3 a ha (by omega)⟩
    obtain ⟨p1, p2, p3, p4, p5, p6, p7, p8, p9⟩ := hp
    have hJr : ∀ a, a < n → (1 ≤ J (4 * a + 1) ∧ J (4 * a + 1) ≤ 40) ∧ (0 ≤ J (4 * a + 2) ∧ J (4 * a + 2) ≤ 2) := fun a ha => by
      have := hV.2.1 a ha
      unfold jobOk at this
      omega
    have hRr : ∀ a, a ∈ y.1 → 1 ≤ R a ∧ R a ≤ 40 := fun a ha => by
      have hm := List.mem_append_left y.2.1 ha
      have hx := p3 a hm
      have := p6 a hm
      rw [(hR.2.2.2.1 a (by omega)).1 hx ((p5 a hx).1.mpr hm)]
      exact this
    have hPr : ∀ a, a ∈ y.1 → 0 ≤ P a ∧ P a < 1000000 := fun a ha => by
      have := hR.2.2.2.2.2.2 a ha
      omega
    have hkr : ∀ a, a ∈ y.1 → -1000000 < lkey J by_ P R a ∧ lkey J by_ P R a < 1000000 := fun a ha => by
      have h1 := hRr a ha
      have h2 := hPr a ha
      have h3 := hJr a (by have := p3 a (List.mem_append_left _ ha); omega)
      unfold lkey
      split
      · omega
      · split
        · omega
        · split
          · omega
          · split <;> omega
    obtain ⟨jb, -⟩ := hV.2.1 k (by omega)
    refine b_W_plays_155 ⟨⟨by omega, by omega⟩, ⟨by omega, by omega⟩, fun z => absurd z (by omega), fun _ => ?_⟩
    simp only [m_r0 hD, m_re hD, m_rf hD, m_rg hD, m_rn hD, m_rr hD, m_rp hD, m_rb hD, u_re hD, u_rf hD, u_rg hD, u_rn hD, u_rr hD, u_rp hD, u_rb hD, h0, Int.toNat_natCast, sr_same]
    rw [show (4 * (k : Int)).toNat = 4 * k by omega, show (4 * (k : Int) + 1).toNat = 4 * k + 1 by omega, show (4 * (k : Int) + 2).toNat = 4 * k + 2 by omega, hj _ (by omega), hj _ (by omega), hj _ (by omega)]
    refine ⟨trivial, ⟨by omega, by omega⟩, ⟨by omega, by omega⟩, ⟨by omega, by omega⟩, fun z => ?_, fun z => ?_⟩
    · have hnx : ¬ k < y.2.2.1 := fun q => by have := hlo k q; omega
      exact ih i19 _ _ _ _ (skip fun q => hnx (p3 k (List.mem_append_left _ q)))
    · have hnx : k < y.2.2.1 := by
        by_cases q : k < y.2.2.1
        · exact q
        · exact absurd (hhi k (by omega) (by omega)) z
      have hE := hR.1 k (by omega)
      have p5k := p5 k hnx
      have hEr : -1 ≤ E k ∧ E k ≤ 3 := by rw [hE]; split <;> omega
      refine ⟨trivial, ⟨by omega, by omega⟩, ⟨by omega, by omega⟩, fun z1 => ?_, fun z1 => ?_⟩
      · have h3 : y.2.2.2 0 k ≠ 3 := fun q => by
          rw [if_neg (fun w => w.2 q)] at hE
          omega
        exact ih i19 _ _ _ _ (skip fun q => h3 (p5k.1.mpr (List.mem_append_left _ q)))
      · have h3 : y.2.2.2 0 k = 3 := by
          by_cases q : y.2.2.2 0 k = 3
          · exact q
          · rw [if_pos ⟨hnx, q⟩] at hE
            omega
        have hin := p5k.1.mp h3
        have hB := hR.2.2.2.2.1 k (by omega)
        have hBr : 0 ≤ B k ∧ B k ≤ 1 := by rw [hB]; split <;> omega
        refine ⟨trivial, ⟨by omega, by omega⟩, ⟨by omega, by omega⟩, fun z2 => ?_, fun z2 => ?_⟩
        · have hsv : k ∉ y.2.1 := fun q => by
            rw [if_pos (Or.inl q)] at hB
            omega
          have hrow : k ∈ y.1 := (List.mem_append.mp hin).elim id (fun q => absurd q hsv)
          have rk := hRr k hrow
          have pk := hPr k hrow
          have jk := hJr k (by omega)
          have kk := hkr k hrow
          have go274 : ∀ j23 : Int, ((i19 = -1 ∧ (∀ a, a < k → a ∉ y.1) ∧ j23 = 9223372036854775807) ∨ ∃ b : Nat, i19 = (b : Int) ∧ b ∈ y.1 ∧ b < k ∧ (∀ a, a ∈ y.1 → a < k → lkey J by_ P R b < lkey J by_ P R a ∨ (lkey J by_ P R b = lkey J by_ P R a ∧ b ≤ a)) ∧ j23 = lkey J by_ P R b) → L_W_plays_274 d Q M (PMm C0 re rf rg rn rr rp rb E F G N R P B) kc r0 (n : Int) many by_ space wait re rf rg rn rr rp rb st i14 i15 (t : Int) o17 i18 i19 (k : Int) (lkey J by_ P R k) j23 := by
            intro j23 h
            rcases h with ⟨e, hno, rfl⟩ | ⟨b, e, hb1, hb2, hb3, rfl⟩
            · refine b_W_plays_274 ⟨⟨by omega, by omega⟩, ⟨by omega, by omega⟩, fun q => absurd q (by omega), fun _ => ih (k : Int) _ _ _ _ (Or.inr ⟨k, rfl, hrow, by omega, fun a ha ha2 => ?_⟩)⟩
              by_cases w : a = k
              · subst w; exact Or.inr ⟨rfl, Nat.le_refl _⟩
              · exact absurd ha (hno a (by omega))
            · have kb := hkr b hb1
              refine b_W_plays_274 ⟨⟨by omega, by omega⟩, ⟨by omega, by omega⟩, fun q => ih i19 _ _ _ _ (Or.inr ⟨b, e, hb1, by omega, fun a ha ha2 => ?_⟩), fun q => ih (k : Int) _ _ _ _ (Or.inr ⟨k, rfl, hrow, by omega, fun a ha ha2 => ?_⟩)⟩
              · by_cases w : a = k
                · subst w; omega
                · exact hb3 a ha (by omega)
              · by_cases w : a = k
                · subst w; exact Or.inr ⟨rfl, Nat.le_refl _⟩
                · have := hb3 a ha (by omega)
                  exact Or.inl (by omega)
          have go222 : ∀ o23 o24 : Option PV, L_W_plays_222 d Q M (PMm C0 re rf rg rn rr rp rb E F G N R P B) kc r0 (n : Int) many by_ space wait re rf rg rn rr rp rb st i14 i15 (t : Int) o17 i18 i19 (k : Int) (lkey J by_ P R k) o23 o24 := by
            intro o23 o24
            rcases hbk with ⟨e, hno⟩ | ⟨b, e, hb1, hb2, hb3⟩
            · exact b_W_plays_222 ⟨⟨by omega, by omega⟩, fun q => absurd q (by omega), fun _ => go274 _ (Or.inl ⟨e, hno, rfl⟩)⟩
            · have g := go274 (lkey J by_ P R b) (Or.inr ⟨b, e, hb1, hb2, hb3, rfl⟩)
              have rb9 := hRr b hb1
              have pb9 := hPr b hb1
              have jb9 := hJr b (by omega)
              have go231 : (by_ = 0 ∨ by_ = 4) → L_W_plays_231 d Q M (PMm C0 re rf rg rn rr rp rb E F G N R P B) kc r0 (n : Int) many by_ space wait re rf rg rn rr rp rb st i14 i15 (t : Int) o17 i18 i19 (k : Int) (lkey J by_ P R k) o23 o24 := fun hby => by
                refine b_W_plays_231 ?_
                subst e
                simp only [m_r0 hD, m_re hD, m_rf hD, m_rg hD, m_rn hD, m_rr hD, m_rp hD, m_rb hD, u_re hD, u_rf hD, u_rg hD, u_rn hD, u_rr hD, u_rp hD, u_rb hD, h0, Int.toNat_natCast, sr_same]
                refine ⟨trivial, ⟨by omega, by omega⟩, ⟨by omega, by omega⟩, ?_⟩
                have el : lkey J by_ P R b = P b := by unfold lkey; rw [if_pos hby]
                rw [el] at g
                exact g
              refine b_W_plays_222 ⟨⟨by omega, by omega⟩, fun _ => ⟨⟨by omega, by omega⟩, fun q => go231 (Or.inl q), fun q0 => ⟨fun q4 => ⟨fun q1 => ⟨fun q2 => ⟨fun q3 => ?_, fun q3 => ?_⟩, fun q2 => ?_⟩, fun q1 => ?_⟩, fun q4 => go231 (Or.inr (Decidable.not_not.mp q4))⟩⟩, fun q => absurd (by omega) q⟩
              · subst e
                have el : lkey J by_ P R b = R b := by unfold lkey; rw [if_neg (by omega), if_neg q1, if_neg q2, if_neg q3]
                rw [el] at g
                simp only [m_r0 hD, m_re hD, m_rf hD, m_rg hD, m_rn hD, m_rr hD, m_rp hD, m_rb hD, u_re hD, u_rf hD, u_rg hD, u_rn hD, u_rr hD, u_rp hD, u_rb hD, h0, Int.toNat_natCast, sr_same]
                exact ⟨trivial, ⟨by omega, by omega⟩, ⟨by omega, by omega⟩, g⟩
              · subst e
                have el : lkey J by_ P R b = J (4 * b + 2) := by unfold lkey; rw [if_neg (by omega), if_neg q1, if_neg q2, if_pos (Decidable.not_not.mp q3)]
                rw [el] at g
                simp only [m_r0 hD, m_re hD, m_rf hD, m_rg hD, m_rn hD, m_rr hD, m_rp hD, m_rb hD, u_re hD, u_rf hD, u_rg hD, u_rn hD, u_rr hD, u_rp hD, u_rb hD, h0, Int.toNat_natCast, sr_same]
                rw [show (4 * (b : Int) + 2).toNat = 4 * b + 2 by omega, hj _ (by omega)]
                exact ⟨trivial, ⟨by omega, by omega⟩, ⟨by omega, by omega⟩, g⟩
              · subst e
                have el : lkey J by_ P R b = J (4 * b + 1) := by unfold lkey; rw [if_neg (by omega), if_neg q1, if_pos (Decidable.not_not.mp q2)]
                rw [el] at g
                simp only [m_r0 hD, m_re hD, m_rf hD, m_rg hD, m_rn hD, m_rr hD, m_rp hD, m_rb hD, u_re hD, u_rf hD, u_rg hD, u_rn hD, u_rr hD, u_rp hD, u_rb hD, h0, Int.toNat_natCast, sr_same]
                rw [show (4 * (b : Int) + 1).toNat = 4 * b + 1 by omega, hj _ (by omega)]
                exact ⟨trivial, ⟨by omega, by omega⟩, ⟨by omega, by omega⟩, g⟩
              · subst e
                have el : lkey J by_ P R b = - P b := by unfold lkey; rw [if_neg (by omega), if_pos (Decidable.not_not.mp q1)]
                rw [el] at g
                simp only [m_r0 hD, m_re hD, m_rf hD, m_rg hD, m_rn hD, m_rr hD, m_rp hD, m_rb hD, u_re hD, u_rf hD, u_rg hD, u_rn hD, u_rr hD, u_rp hD, u_rb hD, h0, Int.toNat_natCast, sr_same]
                exact ⟨trivial, ⟨by omega, by omega⟩, ⟨by omega, by omega⟩, g⟩
          have go179 : (by_ = 0 ∨ by_ = 4) → ∀ o21 o22 o23 o24 : Option PV, L_W_plays_179 d Q M (PMm C0 re rf rg rn rr rp rb E F G N R P B) kc r0 (n : Int) many by_ space wait re rf rg rn rr rp rb st i14 i15 (t : Int) o17 i18 i19 (k : Int) o21 o22 o23 o24 := fun hby o21 o22 o23 o24 => by
            refine b_W_plays_179 ?_
            simp only [m_r0 hD, m_re hD, m_rf hD, m_rg hD, m_rn hD, m_rr hD, m_rp hD, m_rb hD, u_re hD, u_rf hD, u_rg hD, u_rn hD, u_rr hD, u_rp hD, u_rb hD, h0, Int.toNat_natCast, sr_same]
            have g := go222 o23 o24
            have el : lkey J by_ P R k = P k := by unfold lkey; rw [if_pos hby]
            rw [el] at g
            exact ⟨trivial, ⟨by omega, by omega⟩, ⟨by omega, by omega⟩, g⟩
          refine ⟨⟨by omega, by omega⟩, fun q => go179 (Or.inl q) _ _ _ _, fun q0 => ⟨fun q4 => ⟨fun q1 => ⟨fun q2 => ⟨fun q3 => ?_, fun q3 => ?_⟩, fun q2 => ?_⟩, fun q1 => ?_⟩, fun q4 => go179 (Or.inr (Decidable.not_not.mp q4)) _ _ _ _⟩⟩
          · have g := go222 o23 o24
            have el : lkey J by_ P R k = R k := by unfold lkey; rw [if_neg (by omega), if_neg q1, if_neg q2, if_neg q3]
            rw [el] at g
            exact ⟨trivial, ⟨by omega, by omega⟩, ⟨by omega, by omega⟩, g⟩
          · have g := go222 o23 o24
            have el : lkey J by_ P R k = J (4 * k + 2) := by unfold lkey; rw [if_neg (by omega), if_neg q1, if_neg q2, if_pos (Decidable.not_not.mp q3)]
            rw [el] at g
            exact ⟨⟨by omega, by omega⟩, ⟨by omega, by omega⟩, g⟩
          · have g := go222 o23 o24
            have el : lkey J by_ P R k = J (4 * k + 1) := by unfold lkey; rw [if_neg (by omega), if_neg q1, if_pos (Decidable.not_not.mp q2)]
            rw [el] at g
            exact ⟨⟨by omega, by omega⟩, ⟨by omega, by omega⟩, g⟩
          · have g := go222 o23 o24
            have el : lkey J by_ P R k = - P k := by unfold lkey; rw [if_neg (by omega), if_pos (Decidable.not_not.mp q1)]
            rw [el] at g
            exact ⟨trivial, ⟨by omega, by omega⟩, ⟨by omega, by omega⟩, g⟩
        · have hsv : k ∈ y.2.1 := by
            by_cases q : k ∈ y.2.1
            · exact q
            · rw [if_neg (fun w => w.elim q List.not_mem_nil)] at hB
              exact absurd hB z2
          have hno : k ∉ y.1 := fun q => (List.nodup_append.mp p2).2.2 k q k hsv rfl
          exact ih i19 _ _ _ _ (skip hno)
theorem pl_148 (hD : PD r0 re rf rg rn rr rp rb) (h0 : C0 r0 = (1, 120, fj)) (hV : VJ n J) (hj : ∀ i, i < 4 * n → fj i = J i) (hb : 0 ≤ by_ ∧ by_ ≤ 5) (hm : 1 ≤ many ∧ many ≤ 4) {t : Nat} (ht : t ≤ 1500) {E F N R P : Nat → Int} {st i14 i15 : Int} (hst : st ≤ 1000000) {z9 : SG}
    (hQ : ∀ (G B : Nat → Int) (o17 o18 o20 o21 o22 o23 o24 : Option PV), PVi n many t z9 → PRl n J [] z9 E F G R P B st → L_W_plays_301 d Q M (PMm C0 re rf rg rn rr rp rb E F G N R P B) kc r0 (n : Int) many by_ space wait re rf rg rn rr rp rb st i14 i15 (t : Int) o17 o18 0 o20 o21 o22 o23 o24) :
    ∀ (f : Nat) (y : SG) (G B : Nat → Int) (o17 o19 o20 o21 o22 o23 o24 : Option PV), PVi n many t y → PRl n J [] y E F G R P B st → (∀ k, k < y.2.2.1 → J (4 * k) ≤ t) → (∀ k, k < n → y.2.2.1 ≤ k → t < J (4 * k)) → y.1.length ≤ f → sSeat J many by_ t f y = z9 →
      L_W_plays_148 d Q M (PMm C0 re rf rg rn rr rp rb E F G N R P B) kc r0 (n : Int) many by_ space wait re rf rg rn rr rp rb st i14 i15 (t : Int) o17 (y.2.1.length : Int) o19 o20 o21 o22 o23 o24 := by
  intro f
  induction f with
  | zero =>
    intro y G B o17 o19 o20 o21 o22 o23 o24 hp hR hlo hhi hf hz
    have h24 := hV.1
    have hz : y = z9 := hz
    subst hz
    have hl := hp.2.2.2.2.2.2.2
    have hnx := hp.1
    refine b_W_plays_148 ⟨⟨by omega, by omega⟩, ⟨by omega, by omega⟩, fun _ => hQ G B _ _ _ _ _ _ _ hp hR, fun _ => ?_⟩
    refine pl_155 hD h0 hV hj hb ht hp hR hlo hhi hst (fun i19 o21 o22 o23 o24 hbk => ?_) n 0 (-1) _ _ _ _ (by omega) (Or.inl ⟨rfl, fun a ha => absurd ha (Nat.not_lt_zero a)⟩)
    have hno : i19 = -1 := by
      rcases hbk with ⟨e, -⟩ | ⟨b, -, hb1, -⟩
      · exact e
      · exact absurd (List.length_pos_of_mem hb1) (by omega)
    subst hno
    exact b_W_plays_155 ⟨⟨by omega, by omega⟩, ⟨by omega, by omega⟩, fun _ => ⟨⟨by omega, by omega⟩, fun q => absurd q (by omega), fun _ => hQ G B _ _ _ _ _ _ _ hp hR⟩, fun q => absurd (Int.le_refl _) q⟩
  | succ f ih =>
    intro y G B o17 o19 o20 o21 o22 o23 o24 hp hR hlo hhi hf hz
    have h24 := hV.1
    have hl := hp.2.2.2.2.2.2.2
    have hnx := hp.1
    refine b_W_plays_148 ⟨⟨by omega, by omega⟩, ⟨by omega, by omega⟩, fun q => ?_, fun q => ?_⟩
    · have hz1 : y = z9 := by
        rw [← hz]
        exact (if_neg (fun w => absurd w.1 (by omega))).symm
      subst hz1
      exact hQ G B _ _ _ _ _ _ _ hp hR
    refine pl_155 hD h0 hV hj hb ht hp hR hlo hhi hst (fun i19 o21 o22 o23 o24 hbk => ?_) n 0 (-1) _ _ _ _ (by omega) (Or.inl ⟨rfl, fun a ha => absurd ha (Nat.not_lt_zero a)⟩)
    refine b_W_plays_155 ⟨⟨by omega, by omega⟩, ⟨by omega, by omega⟩, fun _ => ?_, fun q => absurd (Int.le_refl _) q⟩
    rcases hbk with ⟨e, hno⟩ | ⟨b, e, hb1, hb2, hb3⟩
    · subst e
      have hrow : ¬ 0 < y.1.length := fun w => by
        have hm := List.getElem_mem w
        have := hp.2.2.1 _ (List.mem_append_left _ hm)
        exact hno _ (by omega) hm
      have hz1 : y = z9 := by
        rw [← hz]
        exact (if_neg (fun w => hrow w.2)).symm
      subst hz1
      exact ⟨⟨by omega, by omega⟩, fun q => absurd q (by omega), fun _ => hQ G B _ _ _ _ _ _ _ hp hR⟩
    · subst e
      have hrow := List.length_pos_of_mem hb1
      have hbest : isBst (lkey J by_ P R) y.1 b := ⟨hb1, fun a ha => hb3 a ha (by have := hp.2.2.1 a (List.mem_append_left _ ha); omega)⟩
      have hplc := plc_best (J := J) (F := y.2.2.2) (R := R) hb hrow hR.2.2.2.2.2.1 (fun a ha => by
        have hm9 := List.mem_append_left y.2.1 ha
        have hx := hp.2.2.1 a hm9
        exact (hR.2.2.2.1 a (by omega)).1 hx ((hp.2.2.2.2.1 a hx).1.mpr hm9))
      have eb := hbest.uniq hplc
      have hcond : (y.2.1.length : Int) < many ∧ 0 < y.1.length := ⟨by omega, hrow⟩
      have hz1 : sSeat J many by_ t f (sSeat1 J by_ t y) = z9 := by
        rw [← hz]
        exact (if_pos hcond).symm
      have hp1 := sSeat1_pvi (J := J) (by_ := by_) (by omega) hp hrow hcond.1
      have hR1 := rel_seat (by_ := by_) hp hR hrow (by omega)
      rw [← eb] at hR1
      have hpl := plc_lt (J := J) (by_ := by_) (F := y.2.2.2) hrow
      have hil : ipl y.2.1 (y.1.getD (plc J by_ y.1 y.2.2.2) 0) y.2.1.length ≤ y.2.1.length := by
        have : ∀ p, ipl y.2.1 (y.1.getD (plc J by_ y.1 y.2.2.2) 0) p ≤ p := by
          intro p
          induction p with
          | zero => exact Nat.le_refl 0
          | succ p ihp =>
            unfold ipl
            split
            · omega
            · omega
        exact this _
      have hl1 : (sSeat1 J by_ t y).2.1.length = y.2.1.length + 1 := List.length_insertIdx_of_le_length hil _
      have hl2 : (sSeat1 J by_ t y).1.length = y.1.length - 1 := List.length_eraseIdx_of_lt hpl
      have hbn : b < n := hb2
      have hGr : -1 ≤ G b ∧ G b ≤ 1500 := by
        have hx := hp.2.2.1 b (List.mem_append_left _ hb1)
        have := hp.2.2.2.2.1 b hx
        rw [hR.2.1 b hbn, if_pos hx]
        omega
      simp only [m_r0 hD, m_re hD, m_rf hD, m_rg hD, m_rn hD, m_rr hD, m_rp hD, m_rb hD, u_re hD, u_rf hD, u_rg hD, u_rn hD, u_rr hD, u_rp hD, u_rb hD, h0, Int.toNat_natCast, sr_same]
      have next := fun (G1 : Nat → Int) (o17 o19 o20 o21 o22 o23 o24 : Option PV) (hR2 : PRl n J [] (sSeat1 J by_ t y) E F G1 R P (sr B b 1) st) => ih (sSeat1 J by_ t y) G1 (sr B b 1) o17 o19 o20 o21 o22 o23 o24 hp1 hR2 hlo hhi (by omega) hz1
      rw [hl1] at next
      refine ⟨⟨by omega, by omega⟩, fun _ => ⟨trivial, ⟨by omega, by omega⟩, trivial, ⟨by omega, by omega⟩, ⟨by omega, by omega⟩, fun q => ?_, fun q => ?_⟩, fun q => absurd (by omega) q⟩
      · rw [if_neg (by omega)] at hR1
        exact next G _ _ _ _ _ _ _ hR1
      · rw [if_pos (by omega)] at hR1
        exact next (sr G b t) _ _ _ _ _ _ _ hR1
end PL2
