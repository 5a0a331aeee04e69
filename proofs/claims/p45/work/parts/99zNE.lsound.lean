/-! What the law's pure machine answers, the machine answers. -/
def isNop : Instr → Bool
  | .nop => true
  | _ => false
theorem isNop_of {i : Instr} (h : isNop i = true) : i = .nop := by
  cases i <;> first | rfl | cases h
def chkN (linfs : List Inf) (wl : List Cond) (bytes : ByteArray) (maxL : Nat) (ret : Option FieldType) (pcs : List Nat) : Nat → Nat → List GI → Bool
  | 0, _, _ => true
  | n + 1, ip, g :: gs => (isNop g.1 || chkIL linfs wl bytes maxL ret pcs ip [] g) && chkN linfs wl bytes maxL ret pcs n (ip + 1) gs
  | _ + 1, _, [] => false
abbrev LTrip : Type := Inf × List Cond × List (List Nat) × Nat
def ltrips : List LTrip := [(nW_next, wlW_next, pW_next, 0), (nW_from, wlW_from, pW_from, 0), (nW_common, wlW_common, pW_common, 0), (nW_of, wlW_of, pW_of, 0), (nW_sum, wlW_sum, pW_sum, 0), (nW_times, wlW_times, pW_times, 0), (nW_by, wlW_by, pW_by, 0), (nW_isLike, wlW_isLike, pW_isLike, 0), (nW_came, wlW_came, pW_came, 0), (nW_plays, wlW_plays, pW_plays, 0), (nW_isPlay, wlW_isPlay, pW_isPlay, 0), (nW_isCame, wlW_isCame, pW_isCame, 0), (nW_isChain, wlW_isChain, pW_isChain, 0), (nW_isReached, wlW_isReached, pW_isReached, 0), (nW_isLost, wlW_isLost, pW_isLost, 0), (nW_solves, wlW_solves, pW_solves, 0), (nW_flows, wlW_flows, pW_flows, 0), (nW_isNet, wlW_isNet, pW_isNet, 0), (nW_isClosedNet, wlW_isClosedNet, pW_isClosedNet, 0), (nW_isEnvelope, wlW_isEnvelope, pW_isEnvelope, 0), (nW_isGame, wlW_isGame, pW_isGame, 0), (nW_puts, wlW_puts, pW_puts, 0), (nW_types, wlW_types, pW_types, 0), (nW_isTape, wlW_isTape, pW_isTape, 0), (nW_plays2, wlW_plays2, pW_plays2, 4)]
theorem LTab_eq : LTab = ltrips.map fun t => t.1.2.2.2.2.2.1 := rfl
theorem linfs_eq : linfs = ltrips.map (fun t => t.1) ++ [nW_done] := rfl
def ltOk (t : LTrip) : Prop := (∀ w ∈ t.2.1, lwG w) ∧ Cond.code t.1.2.1 t.1.2.2.1 t.1.2.2.2.1 t.1.2.2.2.2.1 ∈ lw_tbl ∧ chkFL t.1 = true ∧ chkN linfs t.2.1 t.1.2.2.1 t.1.2.2.2.1 t.1.2.2.2.2.1 t.1.2.2.2.2.2.2.1 t.2.2.2 0 t.1.2.2.2.2.2.1.1 = true ∧ chkLL linfs t.2.1 t.1.2.2.1 t.1.2.2.2.1 t.1.2.2.2.2.1 t.1.2.2.2.2.2.2.1 t.2.2.2 (t.1.2.2.2.2.2.1.1.drop t.2.2.2) (t.2.2.1.drop t.2.2.2) = true ∧ pcN t.1.2.2.2.2.2.2.1 0 = 0
theorem ltrips_ok : ∀ t ∈ ltrips, ltOk t := List.forall_mem_cons.mpr ⟨⟨wlW_next_in, qW_next, fW_next, by decide +kernel, kW_next, by decide +kernel⟩, List.forall_mem_cons.mpr ⟨⟨wlW_from_in, qW_from, fW_from, by decide +kernel, kW_from, by decide +kernel⟩, List.forall_mem_cons.mpr ⟨⟨wlW_common_in, qW_common, fW_common, by decide +kernel, kW_common, by decide +kernel⟩, List.forall_mem_cons.mpr ⟨⟨wlW_of_in, qW_of, fW_of, by decide +kernel, kW_of, by decide +kernel⟩, List.forall_mem_cons.mpr ⟨⟨wlW_sum_in, qW_sum, fW_sum, by decide +kernel, kW_sum, by decide +kernel⟩, List.forall_mem_cons.mpr ⟨⟨wlW_times_in, qW_times, fW_times, by decide +kernel, kW_times, by decide +kernel⟩, List.forall_mem_cons.mpr ⟨⟨wlW_by_in, qW_by, fW_by, by decide +kernel, kW_by, by decide +kernel⟩, List.forall_mem_cons.mpr ⟨⟨wlW_isLike_in, qW_isLike, fW_isLike, by decide +kernel, kW_isLike, by decide +kernel⟩, List.forall_mem_cons.mpr ⟨⟨wlW_came_in, qW_came, fW_came, by decide +kernel, kW_came, by decide +kernel⟩, List.forall_mem_cons.mpr ⟨⟨wlW_plays_in, qW_plays, fW_plays, by decide +kernel, kW_plays, by decide +kernel⟩, List.forall_mem_cons.mpr ⟨⟨wlW_isPlay_in, qW_isPlay, fW_isPlay, by decide +kernel, kW_isPlay, by decide +kernel⟩, List.forall_mem_cons.mpr ⟨⟨wlW_isCame_in, qW_isCame, fW_isCame, by decide +kernel, kW_isCame, by decide +kernel⟩, List.forall_mem_cons.mpr ⟨⟨wlW_isChain_in, qW_isChain, fW_isChain, by decide +kernel, kW_isChain, by decide +kernel⟩, List.forall_mem_cons.mpr ⟨⟨wlW_isReached_in, qW_isReached, fW_isReached, by decide +kernel, kW_isReached, by decide +kernel⟩, List.forall_mem_cons.mpr ⟨⟨wlW_isLost_in, qW_isLost, fW_isLost, by decide +kernel, kW_isLost, by decide +kernel⟩, List.forall_mem_cons.mpr ⟨⟨wlW_solves_in, qW_solves, fW_solves, by decide +kernel, kW_solves, by decide +kernel⟩, List.forall_mem_cons.mpr ⟨⟨wlW_flows_in, qW_flows, fW_flows, by decide +kernel, kW_flows, by decide +kernel⟩, List.forall_mem_cons.mpr ⟨⟨wlW_isNet_in, qW_isNet, fW_isNet, by decide +kernel, kW_isNet, by decide +kernel⟩, List.forall_mem_cons.mpr ⟨⟨wlW_isClosedNet_in, qW_isClosedNet, fW_isClosedNet, by decide +kernel, kW_isClosedNet, by decide +kernel⟩, List.forall_mem_cons.mpr ⟨⟨wlW_isEnvelope_in, qW_isEnvelope, fW_isEnvelope, by decide +kernel, kW_isEnvelope, by decide +kernel⟩, List.forall_mem_cons.mpr ⟨⟨wlW_isGame_in, qW_isGame, fW_isGame, by decide +kernel, kW_isGame, by decide +kernel⟩, List.forall_mem_cons.mpr ⟨⟨wlW_puts_in, qW_puts, fW_puts, by decide +kernel, kW_puts, by decide +kernel⟩, List.forall_mem_cons.mpr ⟨⟨wlW_types_in, qW_types, fW_types, by decide +kernel, kW_types, by decide +kernel⟩, List.forall_mem_cons.mpr ⟨⟨wlW_isTape_in, qW_isTape, fW_isTape, by decide +kernel, kW_isTape, by decide +kernel⟩, List.forall_mem_cons.mpr ⟨⟨wlW_plays2_in, qW_plays2, fW_plays2, by decide +kernel, kW_plays2, by decide +kernel⟩, fun _ h => absurd h List.not_mem_nil⟩⟩⟩⟩⟩⟩⟩⟩⟩⟩⟩⟩⟩⟩⟩⟩⟩⟩⟩⟩⟩⟩⟩⟩⟩
theorem chkLL_of {linfs : List Inf} {wl : List Cond} {bytes : ByteArray} {maxL : Nat} {ret : Option FieldType} {pcs : List Nat} : ∀ (gs : List GI) (pos : List (List Nat)) (k i : Nat) (g : GI), chkLL linfs wl bytes maxL ret pcs k gs pos = true → nth gs i = some g → ∃ ps, chkIL linfs wl bytes maxL ret pcs (k + i) ps g = true
  | [], _, _, _, _, _, h => by simp [nth] at h
  | g0 :: gs, [], _, _, _, h, _ => by simp [chkLL] at h
  | g0 :: gs, q :: pos, k, i, g, h, hg => by
    simp only [chkLL, Bool.and_eq_true] at h
    cases i with
    | zero =>
      cases hg
      exact ⟨q, h.1⟩
    | succ i =>
      obtain ⟨ps, h2⟩ := chkLL_of gs pos (k + 1) i g h.2 hg
      exact ⟨ps, by rw [show k + (i + 1) = k + 1 + i by omega]; exact h2⟩
theorem nth_drop9 {α : Type} : ∀ (n i : Nat) (g : List α), nth (g.drop n) i = nth g (n + i)
  | 0, i, g => by rw [Nat.zero_add]; rfl
  | n + 1, i, [] => by cases i <;> simp [nth]
  | n + 1, i, a :: g => by
    rw [show n + 1 + i = (n + i) + 1 by omega]
    exact nth_drop9 n i g
theorem chkN_at {linfs : List Inf} {wl : List Cond} {bytes : ByteArray} {maxL : Nat} {ret : Option FieldType} {pcs : List Nat} : ∀ (n k : Nat) (gs : List GI) (i : Nat) (g : GI), chkN linfs wl bytes maxL ret pcs n k gs = true → i < n → nth gs i = some g → g.1 = .nop ∨ chkIL linfs wl bytes maxL ret pcs (k + i) [] g = true
  | 0, _, _, i, _, _, h, _ => absurd h (by omega)
  | n + 1, _, [], _, _, _, _, hg => by simp [nth] at hg
  | n + 1, k, g0 :: gs, i, g, h, hi, hg => by
    simp only [chkN, Bool.and_eq_true, Bool.or_eq_true] at h
    cases i with
    | zero =>
      cases hg
      rcases h.1 with q | q
      · exact Or.inl (isNop_of q)
      · exact Or.inr q
    | succ i =>
      have := chkN_at n (k + 1) gs i g h.2 (by omega) hg
      rw [show k + (i + 1) = k + 1 + i by omega]
      exact this
theorem LTf_trip {y : Nat} {mi : MI} (h : LTf y = some mi) : ∃ t ∈ ltrips, nth linfs y = some t.1 ∧ t.1.2.2.2.2.2.1 = mi := by
  unfold LTf at h
  rw [LTab_eq, nth_map] at h
  cases ht : nth ltrips y with
  | none => rw [ht] at h; cases h
  | some t =>
    rw [ht] at h
    refine ⟨t, nth_mem _ _ _ ht, ?_, Option.some.inj h⟩
    rw [linfs_eq]
    exact nth_app _ _ _ _ (by rw [nth_map, ht]; rfl)
theorem chkFL_of {f : Inf} (h : chkFL f = true) : f.1 = RL ∧ f.2.1.cls = RL ∧ f.2.2.2.2.2.1.2.1 = rkL f.2.2.2.2.1 ∧ f.2.2.2.2.2.1.2.2.2.1 = f.2.2.2.1 ∧ f.2.2.2.1 ≤ 40 ∧ f.2.2.2.2.2.1.2.1 ≠ 0 := by
  obtain ⟨own, y, bytes, maxL, ret, mi, pcs, cp⟩ := f
  simp only [chkFL, decide_eq_true_eq] at h
  exact h
theorem linfs_at {y : Nat} {f : Inf} (h : nth linfs y = some f) : (∃ t ∈ ltrips, f = t.1) ∨ f = nW_done := by
  rw [linfs_eq] at h
  rcases nth_app_inv _ _ _ _ h with q | q
  · obtain ⟨t, h1, h2⟩ := List.mem_map.mp q
    exact Or.inl ⟨t, h1, h2.symm⟩
  · exact Or.inr q
theorem linfs_mx : ∀ y f, nth linfs y = some f → f.2.2.2.1 ≤ 40 := fun y f h => by
  rcases linfs_at h with ⟨t, ht, rfl⟩ | rfl
  · exact (chkFL_of (ltrips_ok t ht).2.2.1).2.2.2.2.1
  · decide
theorem linfs_nz : ∀ y f, nth linfs y = some f → f.2.2.2.2.2.1.2.1 ≠ 0 := fun y f h => by
  rcases linfs_at h with ⟨t, ht, rfl⟩ | rfl
  · exact (chkFL_of (ltrips_ok t ht).2.2.1).2.2.2.2.2
  · decide
theorem nth_layL {B hq : Nat} {sg : Nat → Nat} : ∀ (a : List PV) (k j : Nat) (v : PV), nth (lay a) j = some (some v) → (k + j, lpv B hq sg v) ∈ lv_args k (a.map (lpv B hq sg))
  | [], k, j, v, h => by simp [lay, nth] at h
  | .inl x :: r, k, 0, v, h => by
    cases h
    exact List.mem_cons_self
  | .inl x :: r, k, j + 1, v, h => by
    refine List.mem_cons_of_mem _ ?_
    have := nth_layL (B := B) (hq := hq) (sg := sg) r (k + 1) j v h
    rw [show k + (j + 1) = k + 1 + j by omega]
    exact this
  | .inr (.inl x) :: r, k, 0, v, h => by
    cases h
    exact List.mem_cons_self
  | .inr (.inl x) :: r, k, 1, v, h => by cases h
  | .inr (.inl x) :: r, k, j + 2, v, h => by
    refine List.mem_cons_of_mem _ ?_
    have := nth_layL (B := B) (hq := hq) (sg := sg) r (k + 2) j v h
    rw [show k + (j + 2) = k + 2 + j by omega]
    exact this
  | .inr (.inr (.inl 0)) :: r, k, 0, v, h => by
    cases h
    exact List.mem_cons_self
  | .inr (.inr (.inl 0)) :: r, k, j + 1, v, h => by
    refine List.mem_cons_of_mem _ ?_
    have := nth_layL (B := B) (hq := hq) (sg := sg) r (k + 1) j v h
    rw [show k + (j + 1) = k + 1 + j by omega]
    exact this
  | .inr (.inr (.inl (x + 1))) :: r, k, 0, v, h => by
    cases h
    exact List.mem_cons_self
  | .inr (.inr (.inl (x + 1))) :: r, k, j + 1, v, h => by
    refine List.mem_cons_of_mem _ ?_
    have := nth_layL (B := B) (hq := hq) (sg := sg) r (k + 1) j v h
    rw [show k + (j + 1) = k + 1 + j by omega]
    exact this
  | .inr (.inr (.inr 0)) :: r, k, 0, v, h => by
    cases h
    exact List.mem_cons_self
  | .inr (.inr (.inr 0)) :: r, k, j + 1, v, h => by
    refine List.mem_cons_of_mem _ ?_
    have := nth_layL (B := B) (hq := hq) (sg := sg) r (k + 1) j v h
    rw [show k + (j + 1) = k + 1 + j by omega]
    exact this
  | .inr (.inr (.inr (x + 1))) :: r, k, 0, v, h => by
    cases h
    exact List.mem_cons_self
  | .inr (.inr (.inr (x + 1))) :: r, k, j + 1, v, h => by
    refine List.mem_cons_of_mem _ ?_
    have := nth_layL (B := B) (hq := hq) (sg := sg) r (k + 1) j v h
    rw [show k + (j + 1) = k + 1 + j by omega]
    exact this
theorem lgL_len {B hq : Nat} {sg : Nat → Nat} : ∀ a : List PV, (lg_sl (a.map (lpv B hq sg))).length = wsum a
  | [] => rfl
  | .inl x :: r => by
    show (_ ::  lg_sl (r.map (lpv B hq sg))).length = wsum r + 1
    rw [List.length_cons, lgL_len r]
  | .inr (.inl x) :: r => by
    show (_ :: _ ::  lg_sl (r.map (lpv B hq sg))).length = wsum r + 2
    rw [List.length_cons, List.length_cons, lgL_len r]
  | .inr (.inr (.inl 0)) :: r => by
    show (_ ::  lg_sl (r.map (lpv B hq sg))).length = wsum r + 1
    rw [List.length_cons, lgL_len r]
  | .inr (.inr (.inl (x + 1))) :: r => by
    show (_ ::  lg_sl (r.map (lpv B hq sg))).length = wsum r + 1
    rw [List.length_cons, lgL_len r]
  | .inr (.inr (.inr 0)) :: r => by
    show (_ ::  lg_sl (r.map (lpv B hq sg))).length = wsum r + 1
    rw [List.length_cons, lgL_len r]
  | .inr (.inr (.inr (x + 1))) :: r => by
    show (_ ::  lg_sl (r.map (lpv B hq sg))).length = wsum r + 1
    rw [List.length_cons, lgL_len r]
theorem LG_entry {B hq : Nat} {sg : Nat → Nat} {a : List PV} {n : Nat} (h : wsum a ≤ n) : LG (lpv B hq sg) ((lg_sl (a.map (lpv B hq sg)) ++ List.replicate (n - (lg_sl (a.map (lpv B hq sg))).length) Slot.unset).toArray) n (padL n (lay a)) := by
  have h1 := lv_entry (a.map (lpv B hq sg)) (n := n) (by rw [lgL_len]; exact h)
  refine ⟨h1.1, h1.2.1, fun q hq9 => h1.2.2 q ?_⟩
  obtain ⟨j, w⟩ := q
  obtain ⟨i, v, e1, e2, e3⟩ := (mem_lsg _ 0).mp hq9
  subst e3
  have := nth_layL (B := B) (hq := hq) (sg := sg) a 0 i v (nth_padL n _ i v e2)
  rw [e1]
  exact this
theorem txOk_entry {J : Nat → Prop} {a : List PV} {n : Nat} (h : ∀ k, (.inr (.inr (.inr (k + 1))) : PV) ∈ a → J (k + 1)) : txOk J (padL n (lay a)) := fun i k hi => h k (by
  have h1 := nth_padL n _ i _ hi
  have key : ∀ (a : List PV) (i : Nat) (v : PV), nth (lay a) i = some (some v) → v ∈ a := by
    intro a
    induction a with
    | nil => intro i v h; simp [lay, nth] at h
    | cons x r ih =>
      intro i v h
      rcases x with x | x | x
      · cases i with
        | zero => cases h; exact List.mem_cons_self
        | succ i => exact List.mem_cons_of_mem _ (ih i v h)
      · rcases i with _ | _ | i
        · cases h; exact List.mem_cons_self
        · cases h
        · exact List.mem_cons_of_mem _ (ih i v h)
      · cases i with
        | zero => cases h; exact List.mem_cons_self
        | succ i => exact List.mem_cons_of_mem _ (ih i v h)
  exact key a i _ h1)
section StepsLE
variable {p : Program} {l : Launch} {e : Env} {R : Room} {s : State} {m : MethodId} {args : Array Value} {below : List Frame} {meth : Method} {c : Code}
variable {ρ sg sgL : Nat → Nat} {cA cW : Nat → ClassId} {D : va_G} {A J : Nat → Prop} {B : Nat} {bytes : ByteArray} {maxL km : Nat} {ret : Option FieldType} {pcs : List Nat} {rk : Nat} {Q : LQ}
variable {wl : List Cond} {linfs : List Inf} {cal : LCal} {ip kc : Nat} {lo : PL} {st : PS} {M : Mem} {C : LMem} {ps : List Nat} {dp : Nat}
set_option maxHeartbeats 4000000 in
theorem w_allL (hX : HypL p l R s m args meth c sg sgL cA cW D A J B bytes maxL km ret dp) (hrk : rk = rkL ret) (hwl : ∀ w ∈ wl, lwG w) (hmx : ∀ y f, nth linfs y = some f → f.2.2.2.1 ≤ 40) (hnz : ∀ y f, nth linfs y = some f → f.2.2.2.2.2.1.2.1 ≠ 0)
    (hIH : ∀ y a M C Q, cal y a M C Q → SoundL l linfs ρ sg cA cW D B dp y a M C Q) (g : GI)
    (hc : chkIL linfs wl bytes maxL ret pcs ip ps g = true)
    (hs : stepL macS cal (cald 12) rk km Q (PWL p l e R s m args below meth c ρ sgL cA cW D A J B maxL km pcs rk Q) g ip kc lo st M C) : PWL p l e R s m args below meth c ρ sgL cA cW D A J B maxL km pcs rk Q ip kc lo st M C := by
  obtain ⟨i, ⟨a, b, c0, d⟩, k, ts⟩ := g
  have hw1 : ∀ w ∈ wl, w ∈ lw_tbl := fun w h => (hwl w h).1
  have hw2 : ∀ w ∈ wl, goodWord w = true ∨ isStrW w = true := fun w h => (hwl w h).2
  cases i
  case invokestatic idx =>
    by_cases h : c0 = 8 ∨ c0 = 9
    · exact w_absL hX hw1 hw2 h hc hs
    · exact w_lcallL hX hw1 hw2 hmx hnz hIH (not_or.mp h) hc hs
  case invokevirtual idx =>
    by_cases h5 : c0 = 5
    · subst h5
      exact w_meanL hX hc hs
    by_cases h6 : c0 = 6
    · subst h6
      exact w_doneShareL hX hc hs
    exact w_ccallL hX hw1 hw2 infs_ok ⟨h5, h6⟩ hc hs
  case new ik => exact w_newL hX hw1 hw2 hmx hIH hc hs
  case ldc n => exact w_ldcL hX hw1 hw2 hmx hIH (Or.inl rfl) hc hs
  case ldc_w n => exact w_ldcL hX hw1 hw2 hmx hIH (Or.inr rfl) hc hs
  case aload_n n => exact w_aloadL hX hc hs
  all_goals first
    | exact w_heapL hX hrk hw1 hw2 trivial hc hs
    | exact (show False from hs).elim
    | (refine w_plainL (a := a) (b := b) (c0 := c0) (d := d) (k := k) (ts := ts) (ps := ps) hX hw1 ?_ ?_ hs
       · trivial
       · exact hc)
end StepsLE
theorem wl_pwl {l : Launch} {ρ sg : Nat → Nat} {cA cW : Nat → ClassId} {D : va_G} {B : Nat} {d : Nat} (hIH : ∀ y a M C Q, lcal d y a M C Q → SoundL l linfs ρ sg cA cW D B d y a M C Q) {t : LTrip} (ht : ltOk t)
    {p : Program} {e : Env} {R : Room} {s : State} {m : MethodId} {args : Array Value} {below : List Frame} {meth : Method} {c : Code} {sgL : Nat → Nat} {A J : Nat → Prop} {ip kc : Nat} {lo : PL} {st : PS} {M : Mem} {C : LMem} {Q : LQ}
    (hX : HypL p l R s m args meth c sg sgL cA cW D A J B t.1.2.2.1 t.1.2.2.2.1 t.1.2.2.2.2.2.1.2.2.1 t.1.2.2.2.2.1 d)
    (h : WL macS (lcal d) (cald 12) t.1.2.2.2.2.2.1 Q ip kc lo st M C) : PWL p l e R s m args below meth c ρ sgL cA cW D A J B t.1.2.2.2.1 t.1.2.2.2.2.2.1.2.2.1 t.1.2.2.2.2.2.2.1 t.1.2.2.2.2.2.1.2.1 Q ip kc lo st M C := by
  obtain ⟨h1, h2, h3, h4, h5, h6⟩ := ht
  obtain ⟨f1, f2, f3, f4, f5, f6⟩ := chkFL_of h3
  refine h (PWL p l e R s m args below meth c ρ sgL cA cW D A J B t.1.2.2.2.1 t.1.2.2.2.2.2.1.2.2.1 t.1.2.2.2.2.2.2.1 t.1.2.2.2.2.2.1.2.1 Q) ?_
  intro ip kc lo st M C hs
  unfold stepTL at hs
  cases hgi : nth t.1.2.2.2.2.2.1.1 ip with
  | none => rw [hgi] at hs; exact hs.elim
  | some g =>
    rw [hgi] at hs
    dsimp only at hs
    by_cases hip : ip < t.2.2.2
    · rcases chkN_at _ _ _ _ _ h4 hip hgi with hn | hck
      · obtain ⟨i, ⟨a, b, c0, d9⟩, k, ts⟩ := g
        have hn : i = .nop := hn
        subst hn
        exact (show False from hs).elim
      · rw [Nat.zero_add] at hck
        exact w_allL hX f3 h1 linfs_mx linfs_nz hIH g hck hs
    · have hgi2 : nth (t.1.2.2.2.2.2.1.1.drop t.2.2.2) (ip - t.2.2.2) = some g := by
        rw [nth_drop9, show t.2.2.2 + (ip - t.2.2.2) = ip by omega]
        exact hgi
      obtain ⟨ps, hck⟩ := chkLL_of _ _ _ _ g h5 hgi2
      rw [show t.2.2.2 + (ip - t.2.2.2) = ip by omega] at hck
      exact w_allL hX f3 h1 linfs_mx linfs_nz hIH g hck hs
/-- **what the law's pure machine answers, the machine answers** -/
theorem soundL {l : Launch} {ρ sg : Nat → Nat} {cA cW : Nat → ClassId} {D : va_G} {B : Nat} (htr : l.stackTraces = false) :
    ∀ (d y : Nat) (a : List PV) (M : Mem) (C : LMem) (Q : LQ), lcal d y a M C Q → SoundL l linfs ρ sg cA cW D B d y a M C Q
  | 0, _, _, _, _, _, h => h.elim
  | d + 1, y, a, M, C, Q, h => by
    have hIH := soundL (ρ := ρ) (sg := sg) (cA := cA) (cW := cW) (D := D) (B := B) htr d
    unfold lcal calL at h
    cases hy : LTf y with
    | none =>
      rw [hy] at h
      exact w_done htr rfl (by omega) h
    | some mi =>
      rw [hy] at h
      intro f hf sgL A J hJa
      obtain ⟨t, htm, h2, h3⟩ := LTf_trip hy
      rw [h2] at hf
      cases hf
      have ht := ltrips_ok t htm
      obtain ⟨f1, f2, f3, f4, f5, f6⟩ := chkFL_of ht.2.2.1
      subst h3
      obtain ⟨hg, hW⟩ := guardB_of h
      have hg := Nat.le_of_ble_eq_true hg
      have hcw : Cond.code t.1.2.1 t.1.2.2.1 t.1.2.2.2.1 t.1.2.2.2.2.1 ∈ LW := LW_mem ht.2.1 rfl
      refine ⟨wsI t.1, ?_, Or.inl rfl, ?_⟩
      · intro w hw
        rcases List.mem_cons.mp hw with rfl | hw
        · exact ⟨hcw, good_of_word (LW_good _ hcw)⟩
        · exact ⟨hw, good_of_word (LW_good w hw)⟩
      refine Met.ofW (cc := t.1.2.2.1) (maxL := t.1.2.2.2.1) (ret := t.1.2.2.2.2.1) (by rw [f2]; decide) rfl ?_
      intro p e s m args below meth c s₁ B9 hml hv
      obtain ⟨rfl, hw, hBs, hsz, hfix⟩ := hv
      have hts := atoms_spec (ws := wsI t.1) B9.pre
      have hX : HypL p l (headSpec (wsI t.1) (rmL (d + 1) t.1.2.2.2.2.2.1.2.2.1)).room s m (a.map (lpv B (ρ 149) sgL)).toArray meth c sg sgL cA cW D A J B t.1.2.2.1 t.1.2.2.2.1 t.1.2.2.2.2.2.1.2.2.1 t.1.2.2.2.2.1 d :=
        ⟨B9.exec, B9.bytes, B9.returns, hml, by rw [← f2]; exact findClass_of_methodNamed B9.named, B9.notSynchronized, fun w hw => hts w (List.mem_cons_of_mem _ hw), hfix, hsz, hBs, htr, rfl, rfl, f5, by show d + 41 ≤ d + 1 + 40; omega, by show 60 * d + 1660 ≤ 60 * (d + 1) + 1600; omega⟩
      have hlr := LG_entry (B := B) (hq := ρ 149) (sg := sgL) (a := a) (n := t.1.2.2.2.1) (by rw [← f4]; exact hg)
      rw [lg_entry_eq]
      generalize (lg_sl (a.map (lpv B (ρ 149) sgL)) ++ List.replicate (t.1.2.2.2.1 - (lg_sl (a.map (lpv B (ρ 149) sgL))).length) Slot.unset).toArray = ls at hlr ⊢
      have key := wl_pwl (e := e) (below := below) hIH ht hX hW
      rw [f4] at key
      have := key (Nat.zero_le _) (txOk_entry hJa) s.heap [] ls hlr hw va_S.rf
      rw [ht.2.2.2.2.2] at this
      exact this
