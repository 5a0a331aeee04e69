theorem nth_padL : ∀ (n : Nat) (l : PL) (j : Nat) (v : PV), nth (padL n l) j = some (some v) → nth l j = some (some v)
  | 0, _, _, _, h => h
  | n + 1, [], 0, v, h => by cases h
  | n + 1, [], j + 1, v, h => by
    have := nth_padL n [] j v h
    simp [nth] at this
  | n + 1, a :: l, 0, v, h => h
  | n + 1, a :: l, j + 1, v, h => nth_padL n l j v h
theorem nth_lay {ρ sg : Nat → Nat} : ∀ (a : List PV) (k j : Nat) (v : PV), nth (lay a) j = some (some v) → (k + j, cpv ρ sg v) ∈ lv_args k (a.map (cpv ρ sg))
  | [], k, j, v, h => by simp [lay, nth] at h
  | .inl x :: r, k, 0, v, h => by
    cases h
    exact List.mem_cons_self
  | .inl x :: r, k, j + 1, v, h => by
    refine List.mem_cons_of_mem _ ?_
    have := nth_lay (ρ := ρ) (sg := sg) r (k + 1) j v h
    rw [show k + (j + 1) = k + 1 + j by omega]
    exact this
  | .inr (.inl x) :: r, k, 0, v, h => by
    cases h
    exact List.mem_cons_self
  | .inr (.inl x) :: r, k, 1, v, h => by cases h
  | .inr (.inl x) :: r, k, j + 2, v, h => by
    refine List.mem_cons_of_mem _ ?_
    have := nth_lay (ρ := ρ) (sg := sg) r (k + 2) j v h
    rw [show k + (j + 2) = k + 2 + j by omega]
    exact this
  | .inr (.inr (.inl x)) :: r, k, 0, v, h => by
    cases h
    exact List.mem_cons_self
  | .inr (.inr (.inl x)) :: r, k, j + 1, v, h => by
    refine List.mem_cons_of_mem _ ?_
    have := nth_lay (ρ := ρ) (sg := sg) r (k + 1) j v h
    rw [show k + (j + 1) = k + 1 + j by omega]
    exact this
  | .inr (.inr (.inr x)) :: r, k, 0, v, h => by
    cases h
    exact List.mem_cons_self
  | .inr (.inr (.inr x)) :: r, k, j + 1, v, h => by
    refine List.mem_cons_of_mem _ ?_
    have := nth_lay (ρ := ρ) (sg := sg) r (k + 1) j v h
    rw [show k + (j + 1) = k + 1 + j by omega]
    exact this
theorem lg_len {ρ sg : Nat → Nat} : ∀ a : List PV, (lg_sl (a.map (cpv ρ sg))).length = wsum a
  | [] => rfl
  | .inl x :: r => by
    show (_ :: lg_sl (r.map (cpv ρ sg))).length = wsum r + 1
    rw [List.length_cons, lg_len r]
  | .inr (.inl x) :: r => by
    show (_ :: _ :: lg_sl (r.map (cpv ρ sg))).length = wsum r + 2
    rw [List.length_cons, List.length_cons, lg_len r]
  | .inr (.inr (.inl x)) :: r => by
    show (_ :: lg_sl (r.map (cpv ρ sg))).length = wsum r + 1
    rw [List.length_cons, lg_len r]
  | .inr (.inr (.inr x)) :: r => by
    show (_ :: lg_sl (r.map (cpv ρ sg))).length = wsum r + 1
    rw [List.length_cons, lg_len r]
theorem LR_entry {ρ sg : Nat → Nat} {a : List PV} {n : Nat} (h : wsum a ≤ n) : LR ρ sg ((lg_sl (a.map (cpv ρ sg)) ++ List.replicate (n - (lg_sl (a.map (cpv ρ sg))).length) Slot.unset).toArray) n (padL n (lay a)) := by
  have h1 := lv_entry (a.map (cpv ρ sg)) (n := n) (by rw [lg_len]; exact h)
  refine ⟨h1.1, h1.2.1, fun q hq => h1.2.2 q ?_⟩
  obtain ⟨j, w⟩ := q
  obtain ⟨i, v, e1, e2, e3⟩ := (mem_lst _ 0).mp hq
  subst e3
  have := nth_lay (ρ := ρ) (sg := sg) a 0 i v (nth_padL n _ i v e2)
  rw [e1]
  exact this
theorem chkL_of {wl : List Cond} {own : String} {bytes : ByteArray} {maxL : Nat} {ret : Option FieldType} {pcs : List Nat} : ∀ (gs : List GI) (pos : List (List Nat)) (k i : Nat) (g : GI), chkL infs wl own bytes maxL ret pcs k gs pos = true → nth gs i = some g → ∃ ps, chkI infs wl own bytes maxL ret pcs (k + i) ps g = true
  | [], _, _, _, _, _, h => by simp [nth] at h
  | g0 :: gs, [], _, _, _, h, _ => by simp [chkL] at h
  | g0 :: gs, q :: pos, k, i, g, h, hg => by
    simp only [chkL, Bool.and_eq_true] at h
    cases i with
    | zero =>
      cases hg
      exact ⟨q, h.1⟩
    | succ i =>
      obtain ⟨ps, h2⟩ := chkL_of gs pos (k + 1) i g h.2 hg
      exact ⟨ps, by rw [show k + (i + 1) = k + 1 + i by omega]; exact h2⟩
theorem nth_map {α β : Type} (f : α → β) : ∀ (l : List α) (i : Nat), nth (l.map f) i = (nth l i).map f
  | [], _ => rfl
  | a :: l, 0 => rfl
  | a :: l, i + 1 => nth_map f l i
theorem nth_app {α : Type} (r : List α) : ∀ (l : List α) (i : Nat) (a : α), nth l i = some a → nth (l ++ r) i = some a
  | [], _, _, h => by simp [nth] at h
  | b :: l, 0, a, h => h
  | b :: l, i + 1, a, h => nth_app r l i a h
theorem nth_mem {α : Type} : ∀ (l : List α) (i : Nat) (a : α), nth l i = some a → a ∈ l
  | [], _, _, h => by simp [nth] at h
  | b :: l, 0, a, h => by cases h; exact List.mem_cons_self
  | b :: l, i + 1, a, h => List.mem_cons_of_mem _ (nth_mem l i a h)
theorem nth_app_inv {α : Type} (r : α) : ∀ (l : List α) (i : Nat) (a : α), nth (l ++ [r]) i = some a → a ∈ l ∨ a = r
  | [], 0, a, h => by cases h; exact Or.inr rfl
  | [], i + 1, a, h => by simp [nth] at h
  | b :: l, 0, a, h => by cases h; exact Or.inl List.mem_cons_self
  | b :: l, i + 1, a, h => by
    rcases nth_app_inv r l i a h with q | q
    · exact Or.inl (List.mem_cons_of_mem _ q)
    · exact Or.inr q
theorem MT_infs {y : Nat} {mi : MI} (h : MTf y = some mi) : ∃ t ∈ trips, nth infs y = some t.1 ∧ t.1.2.2.2.2.2.1 = mi := by
  unfold MTf at h
  rw [MTab_eq, nth_map] at h
  cases ht : nth trips y with
  | none => rw [ht] at h; cases h
  | some t =>
    rw [ht] at h
    refine ⟨t, nth_mem _ _ _ ht, ?_, Option.some.inj h⟩
    rw [infs_eq]
    exact nth_app _ _ _ _ (by rw [nth_map, ht]; rfl)
theorem chkM_of {wl : List Cond} {f : Inf} {pos : List (List Nat)} (h : chkM infs wl f pos = true) : chkF wl f = true ∧ chkL infs wl f.1 f.2.2.1 f.2.2.2.1 f.2.2.2.2.1 f.2.2.2.2.2.2.1 0 f.2.2.2.2.2.1.1 pos = true ∧ pcN f.2.2.2.2.2.2.1 0 = 0 := by
  unfold chkM at h
  simp only [Bool.and_eq_true, decide_eq_true_eq] at h
  exact ⟨h.1, h.2.1, h.2.2⟩
theorem infs_ok : ∀ y f, nth infs y = some f → ∃ wl', (∀ w ∈ wl', w ∈ lw_tbl) ∧ chkF wl' f = true := by
  intro y f h
  rw [infs_eq] at h
  rcases nth_app_inv _ _ _ _ h with q | q
  · obtain ⟨t, h1, h2⟩ := List.mem_map.mp q
    subst h2
    exact ⟨t.2.1, (trips_wl t h1).1, (chkM_of (trips_ok t h1)).1⟩
  · subst q
    exact ⟨wlX10, wlX10_in, kT_isWord⟩
theorem ext_ob {y : Nat} {a : List PV} {M : Mem} {Q : Rs → Mem → Prop} (h : extS y a M Q) : y = cT_isWord ∧ ∃ o r, a = .inr (.inr (.inl o)) :: r ∧ wOb o = 11 := by
  unfold extS at h
  split at h
  · obtain ⟨h1, rfl, -⟩ := h
    exact ⟨h1, _, _, rfl, rfl⟩
  · exact h.elim
theorem cal_rec : ∀ (d y : Nat) (a : List PV) (M : Mem) (Q : Rs → Mem → Prop) (f : Inf), cald d y a M Q → nth infs y = some f → 1 ≤ f.2.2.2.2.2.1.2.2.2.2 → ∃ o r, a = .inr (.inr (.inl o)) :: r ∧ wOb o = f.2.2.2.2.2.1.2.2.2.2
  | 0, _, _, _, _, _, h, _, _ => h.elim
  | d + 1, y, a, M, Q, f, h, hf, h1 => by
    unfold cald calD at h
    cases hy : MTf y with
    | none =>
      rw [hy] at h
      obtain ⟨rfl, o, r, h2, h3⟩ := ext_ob h
      have : f = nT_isWord := by
        have h9 : nth infs cT_isWord = some nT_isWord := rfl
        rw [h9] at hf
        exact (Option.some.inj hf).symm
      subst this
      exact ⟨o, r, h2, h3⟩
    | some mi =>
      rw [hy] at h
      obtain ⟨t, -, h2, h3⟩ := MT_infs hy
      rw [h2] at hf
      cases hf
      obtain ⟨-, he, -⟩ := guardB_of h
      rw [h3] at h1 ⊢
      obtain ⟨c9, hc9⟩ : ∃ c9, mi.2.2.2.2 = c9 + 1 := ⟨mi.2.2.2.2 - 1, by omega⟩
      rw [hc9] at he ⊢
      unfold ent at he
      split at he
      · cases ‹_ = 0›
      · rename_i c8 hq
        split at he
        · cases hq
          exact ⟨_, _, rfl, he⟩
        · exact he.elim
/-- **what the pure machine answers, the machine answers** -/
theorem sound {l : Launch} {ρ sg : Nat → Nat} {cA : Nat → ClassId} {D : va_G} {Aw : Nat → Prop} (htr : l.stackTraces = false) (hns : NSOk l ρ sg cA D Aw)
    (hext : ∀ (d y : Nat) (a : List PV) (M : Mem) (Q : Rs → Mem → Prop), extS y a M Q → SoundC l ρ sg cA D Aw (d + 1) y a M Q) :
    ∀ (d y : Nat) (a : List PV) (M : Mem) (Q : Rs → Mem → Prop), cald d y a M Q → SoundC l ρ sg cA D Aw d y a M Q
  | 0, _, _, _, _, h => h.elim
  | d + 1, y, a, M, Q, h => by
    have hIH := sound htr hns hext d
    unfold cald calD at h
    cases hy : MTf y with
    | none =>
      rw [hy] at h
      exact hext d y a M Q h
    | some mi =>
      rw [hy] at h
      intro f hf
      obtain ⟨t, htm, h2, h3⟩ := MT_infs hy
      rw [h2] at hf
      cases hf
      obtain ⟨k1, k2, k3⟩ := chkM_of (trips_ok t htm)
      obtain ⟨wl1, wl2⟩ := trips_wl t htm
      obtain ⟨f1, f2, f3, f4, f5, f6, f7, f8, f9, f10⟩ := chkF_of k1
      obtain ⟨hg, -, hW⟩ := guardB_of h
      have hg := Nat.le_of_ble_eq_true hg
      refine vx_ofW (cc := t.1.2.2.1) (maxL := t.1.2.2.2.1) (ret := t.1.2.2.2.2.1) f3 rfl ?_
      intro p e s m args below meth c s₁ B hml htab hv
      obtain ⟨rfl, hP, hD, hsz, hfix⟩ := hv
      have hts := atoms_spec (ws := wsI t.1) B.pre
      have hX : HypM p l (headSpec (wsI t.1) (rmd (d + 1) t.1.2.2.2.2.2.1.2.2.1)).room s m (a.map (cpv ρ sg)).toArray meth c sg cA D Aw t.1.1 t.1.2.2.1 t.1.2.2.2.1 t.1.2.2.2.2.2.1.2.2.1 t.1.2.2.2.2.1 d :=
        ⟨B.exec, B.bytes, B.returns, hml, by rw [f2]; exact findClass_of_methodNamed B.named, B.notSynchronized, fun w hw => hts w (List.mem_cons_of_mem _ hw), htab, hfix, hsz, htr, rfl, rfl, f6, by show d + 9 ≤ d + 1 + 8; omega, by show 60 * d + 260 ≤ 60 * (d + 1) + 200; omega⟩
      have hmx : mi.2.2.2.1 = t.1.2.2.2.1 := by rw [← h3]; exact f5
      have hlr := LR_entry (ρ := ρ) (sg := sg) (a := a) (n := t.1.2.2.2.1) (by rw [← hmx]; exact hg)
      rw [lg_entry_eq]
      generalize (lg_sl (a.map (cpv ρ sg)) ++ List.replicate (t.1.2.2.2.1 - (lg_sl (a.map (cpv ρ sg))).length) Slot.unset).toArray = ls at hlr ⊢
      have key := hW (PW p l e (headSpec (wsI t.1) (rmd (d + 1) t.1.2.2.2.2.2.1.2.2.1)).room s m (a.map (cpv ρ sg)).toArray below meth c ρ sg cA D Aw t.1.2.2.2.1 t.1.2.2.2.2.2.1.2.2.1 t.1.2.2.2.2.2.2.1 t.1.2.2.2.2.2.1.2.1 Q) (by
        intro ip kc lo st M' hs
        unfold stepT at hs
        cases hgi : nth mi.1 ip with
        | none => rw [hgi] at hs; exact hs.elim
        | some g =>
          rw [hgi] at hs
          have hgi' : nth t.1.2.2.2.2.2.1.1 ip = some g := by rw [h3]; exact hgi
          obtain ⟨ps, hck⟩ := chkL_of _ _ 0 ip g k2 hgi'
          rw [Nat.zero_add] at hck
          dsimp only at hs
          rw [← h3] at hs
          exact w_step hX f4 wl1 (fun w hw => by
            have := List.all_eq_true.mp wl2 w hw
            simp only [Bool.or_eq_true] at this
            rcases this with (q | q) | q
            · exact Or.inl q
            · exact Or.inr (Or.inl q)
            · exact Or.inr (Or.inr q)) hns exOk_all infs_ok hIH (cal_rec d) g hck hs)
      rw [hmx] at key
      have := key (Nat.zero_le _) s.heap [] ls hlr hP hD va_S.rf
      rw [k3] at this
      exact this
