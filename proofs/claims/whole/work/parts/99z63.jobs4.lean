/-! read of the reference. -/
theorem addT_congr {f : Nat → Int} {n : Nat} {T U : Nat → Int} : ∀ c, (∀ i, i < 4 * c → T i = U i) → addT f n T c = addT f n U c
  | 0, _ => rfl
  | c + 1, h => by
    show add4 (addT f n T c) _ _ _ _ _ = add4 (addT f n U c) _ _ _ _ _
    rw [addT_congr c (fun i hi => h i (by omega)), h _ (by omega), h _ (by omega), h _ (by omega), h _ (by omega)]
theorem allOk_congr {T U : Nat → Int} {c : Nat} (h : ∀ i, i < 4 * c → T i = U i) : allOk T c ↔ allOk U c := by
  unfold allOk
  constructor
  · intro g k hk
    rw [← h _ (by omega), ← h _ (by omega), ← h _ (by omega), ← h _ (by omega)]
    exact g k hk
  · intro g k hk
    rw [h _ (by omega), h _ (by omega), h _ (by omega), h _ (by omega)]
    exact g k hk
theorem inOrder_congr {l : Int} {T U : Nat → Int} {c : Nat} (h : ∀ i, i < 4 * c → T i = U i) : inOrder l T c ↔ inOrder l U c := by
  unfold inOrder
  have e : ∀ k, k < c → (if k = 0 then l else T (4 * (k - 1))) = (if k = 0 then l else U (4 * (k - 1))) := fun k hk => by
    by_cases q : k = 0
    · rw [if_pos q, if_pos q]
    · rw [if_neg q, if_neg q, h _ (by omega)]
  constructor
  · intro g k hk
    rw [← e k hk, ← h _ (by omega)]
    exact g k hk
  · intro g k hk
    rw [e k hk, h _ (by omega)]
    exact g k hk
theorem mr_10 {d : Nat} {Q : Rs → Mem → Prop} {M : Mem} {c : Nat} {o3 o4 : Option PV} (hc : M 175 32 = c) (h90 : c ≤ 90) (hR : ∀ i, i < 4 * c → R32 (M 166 i))
    (h1 : allOk (M 166) c → ∀ o2, L_M_read_50 (d + 2) Q M 1 o2 o3 o4) (h0 : ¬ allOk (M 166) c → ∀ o2, L_M_read_50 (d + 2) Q M 0 o2 o3 o4) : ∀ (m k : Nat) (are : Int), k + m = c → ((are = 1 ∧ ∀ j, j < k → jobOk (M 166 (4 * j)) (M 166 (4 * j + 1)) (M 166 (4 * j + 2)) (M 166 (4 * j + 3))) ∨ (are = 0 ∧ ∃ j, j < k ∧ ¬ jobOk (M 166 (4 * j)) (M 166 (4 * j + 1)) (M 166 (4 * j + 2)) (M 166 (4 * j + 3)))) → L_M_read_10 (d + 2) Q M are (k : Int) o3 o4
  | m, k, are, hk, hj => by
    have hA : R32 are := by rcases hj with ⟨e, _⟩ | ⟨e, _⟩ <;> rw [e] <;> exact ⟨by decide, by decide⟩
    have bad : (∃ j, j < k ∧ ¬ jobOk (M 166 (4 * j)) (M 166 (4 * j + 1)) (M 166 (4 * j + 2)) (M 166 (4 * j + 3))) → ¬ allOk (M 166) c := fun ⟨j, q1, q2⟩ z => q2 (z j (by omega))
    refine b_M_read_10 ?_
    rw [hc, show (4 * (k : Int)).toNat = 4 * k by omega, show (4 * (k : Int) + 1).toNat = 4 * k + 1 by omega, show (4 * (k : Int) + 2).toNat = 4 * k + 2 by omega, show (4 * (k : Int) + 3).toNat = 4 * k + 3 by omega]
    refine ⟨⟨by omega, by omega⟩, ⟨by omega, by omega⟩, fun z => ?_, fun z => ⟨hA, fun z2 => ?_, fun z2 => ⟨⟨by omega, by omega⟩, ⟨by omega, by omega⟩, ⟨by omega, by omega⟩, ⟨by omega, by omega⟩, ?_⟩⟩⟩
    · have e : k = c := by omega
      subst e
      rcases hj with ⟨rfl, ok⟩ | ⟨rfl, nok⟩
      · exact h1 ok _
      · exact h0 (bad nok) _
    · rcases hj with ⟨rfl, ok⟩ | ⟨rfl, nok⟩
      · exact absurd z2 (by decide)
      · exact h0 (bad nok) _
    · refine (s_isJob (d := d) (hR _ (by omega)) (hR _ (by omega)) (hR _ (by omega)) (hR _ (by omega))).cal fun v1 M1 hM1 => ?_
      rcases hj with ⟨rfl, ok⟩ | ⟨rfl, nok⟩
      · cases m with
        | zero => omega
        | succ m =>
          obtain ⟨rfl, ⟨rfl, hok⟩ | ⟨rfl, hok⟩⟩ := hM1
          · exact mr_10 hc h90 hR h1 h0 m (k + 1) 1 (by omega) (Or.inl ⟨rfl, fun j hj' => by
              by_cases e : j = k
              · subst e; exact hok
              · exact ok j (by omega)⟩)
          · exact mr_10 hc h90 hR h1 h0 m (k + 1) 0 (by omega) (Or.inr ⟨rfl, k, by omega, hok⟩)
      · exact absurd rfl z2
theorem mr_121 {d : Nat} {Q : Rs → Mem → Prop} {M0 : Mem} {n c : Nat} (hc : M0 175 32 = c) (hn : M0 175 6 = n) (h24 : n + c ≤ 24)
    (hQ : ∀ M', FC [151] [0, 6] M0 M' → M' 151 = addT (M0 151) n (M0 166) c → M' 175 6 = ((n + c : Nat) : Int) → M' 175 0 = 0 → Q (.inl ((n + c : Nat) : Int)) M') :
    ∀ (m k : Nat) (M : Mem) (o1 o2 o3 : Option PV), k + m = c → FC [151] [6] M0 M → M 151 = addT (M0 151) n (M0 166) k → M 175 6 = ((n + k : Nat) : Int) → L_M_read_121 (d + 1) Q M o1 o2 o3 (k : Int)
  | m, k, M, o1, o2, o3, hk, hf, h151, h6 => by
    have ec : M 175 32 = c := by rw [hf.2 32 (by simp)]; exact hc
    have e166 : M 166 = M0 166 := hf.1 166 (by decide) (by decide)
    refine b_M_read_121 ?_
    rw [ec, h6, e166, show (4 * (k : Int)).toNat = 4 * k by omega, show (4 * (k : Int) + 1).toNat = 4 * k + 1 by omega, show (4 * (k : Int) + 2).toNat = 4 * k + 2 by omega, show (4 * (k : Int) + 3).toNat = 4 * k + 3 by omega]
    refine ⟨⟨by omega, by omega⟩, ⟨by omega, by omega⟩, fun z => ?_, fun z => ⟨⟨by omega, by omega⟩, ⟨by omega, by omega⟩, ⟨by omega, by omega⟩, ⟨by omega, by omega⟩, ?_⟩⟩
    · have e : k = c := by omega
      subst e
      refine (s_told (d := d)).cal fun v2 M2 hM2 => ?_
      obtain ⟨rfl, rfl⟩ := hM2
      exact hQ _ ((hf.mono (by simp) (by simp)).slot (by simp)) (by rw [u2_off (by decide)]; exact h151) (by rw [u2_ne (by decide)]; exact h6) u2_same
    · refine (s_lays (d := d) (n := n + k) h6 (by omega)).cal fun v4 M4 hM4 => ?_
      obtain ⟨f4, g4, g5⟩ := hM4
      cases m with
      | zero => omega
      | succ m =>
        refine mr_121 hc hn h24 hQ m (k + 1) M4 _ _ _ (by omega) (hf.tr f4) ?_ g5
        rw [g4, h151]
        rfl
theorem mr_84 {d : Nat} {Q : Rs → Mem → Prop} {M : Mem} {c : Nat} {can : Prop} (hc : M 175 32 = c) (h90 : c ≤ 90) (hR : ∀ i, i < 4 * c → R32 (M 166 i)) {l : Int} (hl : R32 l)
    (h1 : can → inOrder l (M 166) c → cald (d + 2) cM_keeps [oM] M (fun r M1 => Rt r (fun _v1 => ∀ o1 o2 o3, L_M_read_121 (d + 2) Q M1 o1 o2 o3 0) (fun x => Q (.inr x) M1)))
    (h0 : ¬ (can ∧ inOrder l (M 166) c) → Q (.inl 0) (upd2 M 175 0 2)) : ∀ (m k : Nat) (x : Int) (o1 : Option PV), k + m = c → ((x = 1 ∧ can ∧ ∀ j, j < k → (if j = 0 then l else M 166 (4 * (j - 1))) ≤ M 166 (4 * j)) ∨ (x = 0 ∧ ¬ (can ∧ ∀ j, j < k → (if j = 0 then l else M 166 (4 * (j - 1))) ≤ M 166 (4 * j)))) → L_M_read_84 (d + 2) Q M o1 (if k = 0 then l else M 166 (4 * (k - 1))) x (k : Int)
  | m, k, x, o1, hk, hj => by
    have hA : R32 x := by rcases hj with ⟨e, _⟩ | ⟨e, _⟩ <;> rw [e] <;> exact ⟨by decide, by decide⟩
    have hlk : k ≤ c → R32 (if k = 0 then l else M 166 (4 * (k - 1))) := fun hkc => by
      by_cases e : k = 0
      · rw [if_pos e]; exact hl
      · rw [if_neg e]; exact hR _ (by omega)
    have step : ∀ (x : Int) (o1 : Option PV), k < c → ((x = 1 ∧ can ∧ ∀ j, j < k + 1 → (if j = 0 then l else M 166 (4 * (j - 1))) ≤ M 166 (4 * j)) ∨ (x = 0 ∧ ¬ (can ∧ ∀ j, j < k + 1 → (if j = 0 then l else M 166 (4 * (j - 1))) ≤ M 166 (4 * j)))) → L_M_read_84 (d + 2) Q M o1 (M 166 (4 * k)) x ((k : Int) + 1) := fun x o1 hkc h => by
      cases m with
      | zero => omega
      | succ m =>
        have := mr_84 hc h90 hR hl h1 h0 m (k + 1) x o1 (by omega) h
        rw [if_neg (by omega), Nat.add_sub_cancel] at this
        exact this
    refine b_M_read_84 ?_
    rw [hc, show (4 * (k : Int)).toNat = 4 * k by omega]
    refine ⟨⟨by omega, by omega⟩, ⟨by omega, by omega⟩, fun z => ⟨hA, fun z2 => ?_, fun z2 => ?_⟩, fun z => ⟨hA, fun z2 => ⟨⟨by omega, by omega⟩, ?_⟩, fun z2 => ⟨⟨by omega, by omega⟩, hR _ (by omega), hlk (by omega), fun z3 => ?_, fun z3 => ?_⟩⟩⟩
    · have e : k = c := by omega
      subst e
      rcases hj with ⟨rfl, ok⟩ | ⟨rfl, nok⟩
      · refine calM (fun r m hm => ?_) (h1 ok.1 ok.2)
        revert hm
        unfold Rt
        split
        · exact fun q => q _ _ _
        · exact id
      · exact absurd rfl z2
    · rcases hj with ⟨rfl, ok⟩ | ⟨rfl, nok⟩
      · exact absurd (by decide) z2
      · have e : k = c := by omega
        subst e
        refine (s_refuse (d := d + 1)).cal fun v2 M2 hM2 => ?_
        obtain ⟨rfl, rfl⟩ := hM2
        exact h0 nok
    · rcases hj with ⟨rfl, ok⟩ | ⟨rfl, nok⟩
      · exact absurd z2 (by decide)
      · exact step 0 _ (by omega) (Or.inr ⟨rfl, fun y => nok ⟨y.1, fun j hj => y.2 j (by omega)⟩⟩)
    · rcases hj with ⟨rfl, ok⟩ | ⟨rfl, nok⟩
      · exact step 0 _ (by omega) (Or.inr ⟨rfl, fun y => by have := y.2 k (by omega); omega⟩)
      · exact absurd rfl z2
    · rcases hj with ⟨rfl, ok⟩ | ⟨rfl, nok⟩
      · exact step 1 _ (by omega) (Or.inl ⟨rfl, ok.1, fun j hj => by
          by_cases e : j = k
          · subst e; omega
          · exact ok.2 j (by omega)⟩)
      · exact absurd rfl z2
/-- what read() does on the reference's side -/
theorem s_Mread {d : Nat} {M : Mem} {N n u : Nat} {cnt : Nat → Int} {row : Nat → Nat → Int} (hT : TR (M 150) N) (hl : M 175 2 = N) (h : RH M u cnt row) (hn : M 175 6 = n) (hV : VJ n (M 151)) (T0 : Nat → Int) (hR0 : ∀ i, R32 (T0 i)) :
    Post (d + 7) cM_read [oM] M (fun v M' => ∃ y, pRun (M 150) N T0 y ∧ FC [151, 152, 153, 166] [0, 6, 7, 31, 32] M M' ∧
      ((¬ (pFault N y = -1 ∧ allOk y.2.2.2 y.2.2.1) ∧ M' 175 0 = 1 ∧ FC [166] [0, 31, 32] M M') ∨
       ((pFault N y = -1 ∧ allOk y.2.2.2 y.2.2.1) ∧ ¬ (inOrder (if n = 0 then 0 else M 151 (4 * (n - 1))) y.2.2.2 y.2.2.1 ∧ n + y.2.2.1 ≤ 24) ∧ M' 175 0 = 2 ∧ FC [166] [0, 31, 32] M M') ∨
       ((pFault N y = -1 ∧ allOk y.2.2.2 y.2.2.1) ∧ (inOrder (if n = 0 then 0 else M 151 (4 * (n - 1))) y.2.2.2 y.2.2.1 ∧ n + y.2.2.1 ≤ 24) ∧ v = ((n + y.2.2.1 : Nat) : Int) ∧ M' 175 0 = 0 ∧ M' 151 = addT (M 151) n y.2.2.2 y.2.2.1 ∧ M' 175 6 = ((n + y.2.2.1 : Nat) : Int) ∧ RH M' (hlen u) (hcnt u cnt (n : Int)) (hcnt u row (M 151))))) := by
  intro Q hQ
  have h9 := hT.1
  have h24 := hV.1
  refine e_M_read (b_M_read_0 ?_)
  refine (s_readsAll (d := d) hT hl T0).cal fun v1 M1 hM1 => ?_
  obtain ⟨f1, y, c, hy, hc, hc90, rfl, hag⟩ := hM1
  obtain ⟨hys, hR, hc9, hy9⟩ := pRun_ok hy hR0
  have hpf := pFault_r hys h9
  have F1 := f1.fc
  have ref : ∀ (k : Int), (∀ M', M' = upd2 M1 175 0 k → FC [166] [0, 31, 32] M M' → M' 175 0 = k → Q (.inl 0) M') → cald (d + 6) cM_refuse [oM, .inl k] M1 (fun r M1 => Rt r (fun v1 => Q (.inl v1) M1) (fun x => Q (.inr x) M1)) := fun k g => by
    refine (s_refuse (d := d + 5)).cal fun v2 M2 hM2 => ?_
    obtain ⟨rfl, rfl⟩ := hM2
    exact g _ rfl ((F1.mono (by simp) (by simp)).slot (by simp)) u2_same
  have bad : ∀ o2 o3 o4, ¬ (pFault N y = -1 ∧ allOk y.2.2.2 y.2.2.1) → L_M_read_50 (d + 6) Q M1 0 o2 o3 o4 := fun o2 o3 o4 z => b_M_read_50 ⟨⟨by decide, by decide⟩, fun q => absurd rfl q, fun _ => ref 1 fun M' k1 k2 k3 => hQ _ _ ⟨y, hy, k2.mono (by simp) (by simp), Or.inl ⟨z, k3, k2⟩⟩⟩
  refine ⟨⟨by omega, by omega⟩, fun z => ?_, fun z => ?_⟩
  · have B := fun o2 => bad o2 none none fun q => z q.1
    refine b_M_read_10 ?_
    rw [hc]
    exact ⟨⟨by decide, by decide⟩, ⟨by omega, by omega⟩, fun _ => B _, fun _ => ⟨⟨by decide, by decide⟩, fun _ => B _, fun q => absurd rfl q⟩⟩
  · have zf : pFault N y = -1 := Classical.not_not.mp z
    obtain ⟨hcy, hc10, hT'⟩ := hag zf
    have hR1 : ∀ i, i < 4 * c → R32 (M1 166 i) := fun i hi => by rw [← hT' i hi]; exact hR i
    have hQ' := fun v M' h => hQ v M' ⟨y, hy, h⟩
    rw [hcy] at hQ'
    rw [hcy] at bad
    have cA := allOk_congr hT'
    refine mr_10 (d := d + 4) hc hc90 hR1 (fun ok o2 => ?_) (fun nok o2 => bad _ _ _ fun q => nok (cA.mp q.2)) c 0 1 (by omega) (Or.inl ⟨rfl, fun j hj => absurd hj (by omega)⟩)
    have e6 : M1 175 6 = n := by rw [F1.2 6 (by simp)]; exact hn
    have e151 : M1 151 = M 151 := F1.1 151 (by decide) (by decide)
    have h1 : RH M1 u cnt row := by
      obtain ⟨k1, k2, k3⟩ := h
      refine ⟨k1, by rw [F1.2 7 (by simp)]; exact k2, fun j hj => ?_⟩
      rw [F1.1 153 (by decide) (by decide), F1.1 152 (by decide) (by decide)]
      exact k3 j hj
    have hl1 : R32 (if n = 0 then 0 else M 151 (4 * (n - 1))) := by
      by_cases e0 : n = 0
      · rw [if_pos e0]; exact ⟨by decide, by decide⟩
      · rw [if_neg e0]
        have := (hV.2.1 (n - 1) (by omega)).1
        exact ⟨by omega, by omega⟩
    have cO := inOrder_congr (l := if n = 0 then 0 else M 151 (4 * (n - 1))) hT'
    have K : ∀ (can : Prop) (x : Int) (o1 : Option PV), ((x = 1 ∧ can) ∨ (x = 0 ∧ ¬ can)) → (can ↔ n + c ≤ 24) → L_M_read_84 (d + 6) Q M1 o1 (if n = 0 then 0 else M 151 (4 * (n - 1))) x 0 := by
      intro can x o1 hx hcan
      have := mr_84 (d := d + 4) (Q := Q) (can := can) hc hc90 hR1 hl1 (fun q1 q2 => ?_) (fun q => ?_) c 0 x o1 (by omega) (by
        rcases hx with ⟨e1, e2⟩ | ⟨e1, e2⟩
        · exact Or.inl ⟨e1, e2, fun j hj => absurd hj (by omega)⟩
        · exact Or.inr ⟨e1, fun z => e2 z.1⟩)
      · rw [if_pos rfl] at this
        exact this
      · refine (s_keeps (d := d + 5) h1).cal fun v2 M2 hM2 => ?_
        obtain ⟨f2, k2⟩ := hM2
        intro o1 o2 o3
        have h24' := hcan.mp q1
        refine mr_121 (d := d + 5) (M0 := M2) (n := n) (c := c) (by rw [f2.2 32 (by simp)]; exact hc) (by rw [f2.2 6 (by simp)]; exact e6) h24' (fun M' m1 m2 m3 m4 => ?_) c 0 M2 _ _ _ (by omega) FC.rfl' rfl (by rw [f2.2 6 (by simp)]; exact e6)
        refine hQ' _ M' ⟨((F1.mono (by simp) (by simp)).tr (f2.mono (by simp) (by simp))).tr (m1.mono (by simp) (by simp)), Or.inr (Or.inr ⟨⟨zf, cA.mpr ok⟩, ⟨cO.mpr q2, h24'⟩, rfl, m4, ?_, m3, ?_⟩)⟩
        · rw [m2, f2.1 151 (by decide) (by decide), f2.1 166 (by decide) (by decide), e151]
          exact (addT_congr c hT').symm
        · rw [e6, e151] at k2
          exact k2.add m1
      · refine hQ' _ _ ⟨((F1.mono (by simp) (by simp)).slot (by simp)), Or.inr (Or.inl ⟨⟨zf, cA.mpr ok⟩, fun z => q ⟨hcan.mpr z.2, cO.mp z.1⟩, u2_same, (F1.mono (by simp) (by simp)).slot (by simp)⟩)⟩
    refine b_M_read_50 ⟨⟨by decide, by decide⟩, fun _ => ?_, fun q => absurd (by decide) q⟩
    rw [e6, hc]
    refine ⟨⟨by omega, by omega⟩, fun q => ⟨⟨by omega, by omega⟩, ⟨by omega, by omega⟩, ?_⟩, fun q => ⟨⟨by omega, by omega⟩, ?_⟩⟩
    · rw [show (4 * (n : Int) - 4).toNat = 4 * (n - 1) by omega, e151]
      rw [if_neg (show ¬ n = 0 by omega)] at K
      exact ⟨fun q2 => K (n + c ≤ 24) 0 _ (Or.inr ⟨rfl, by omega⟩) Iff.rfl, fun q2 => K (n + c ≤ 24) 1 _ (Or.inl ⟨rfl, by omega⟩) Iff.rfl⟩
    · rw [if_pos (show n = 0 by omega)] at K
      exact ⟨fun q2 => K (n + c ≤ 24) 0 _ (Or.inr ⟨rfl, by omega⟩) Iff.rfl, fun q2 => K (n + c ≤ 24) 1 _ (Or.inl ⟨rfl, by omega⟩) Iff.rfl⟩
