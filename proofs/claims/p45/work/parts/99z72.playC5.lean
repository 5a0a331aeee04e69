/-! The class plays: a run. -/
theorem old_in1 {J : Nat → Int} {cap t : Int} {o : Nat} {x : SG} (hlt : ∀ j, j ∈ x.1 → j < x.2.2.1) (h : OldP o x) : OldP o (sIn1 J cap t x) := by
  obtain ⟨e1, e2, e3⟩ := sIn1_F (J := J) (cap := cap) (t := t) (x := x)
  refine ⟨by rw [e1]; have := h.1; omega, fun j hj hj2 => ?_⟩
  have hm : j ∈ x.1 ∨ j = x.2.2.1 := by
    unfold sIn1 at hj
    by_cases q : (x.1.length : Int) + x.2.1.length < cap
    · rw [if_pos q] at hj
      rcases List.mem_append.mp hj with z | z
      · exact Or.inl z
      · exact Or.inr (List.mem_singleton.mp z)
    · rw [if_neg q] at hj; exact Or.inl hj
  rcases hm with z | z
  · have := hlt j z
    rw [e3 2 j (by omega)] at hj2
    exact h.2 j z hj2
  · rw [z]; exact h.1
theorem old_in {n : Nat} {J : Nat → Int} {many cap t : Int} {o : Nat} (ht : 0 ≤ t) (hV : VJ n J) : ∀ (f : Nat) (x : SG), PVi n many t x → OldP o x → OldP o (sIn n J cap t f x)
  | 0, _, _, h => h
  | f + 1, x, hp, h => by
    unfold sIn
    by_cases q : x.2.2.1 < n ∧ J (4 * x.2.2.1) ≤ t
    · rw [if_pos q]; exact old_in ht hV f _ (sIn1_pvi ht hV hp q.1) (old_in1 (fun j hj => hp.2.2.1 j (List.mem_append_left _ hj)) h)
    · rw [if_neg q]; exact h
theorem old_seat {J : Nat → Int} {many by_ t : Int} {o : Nat} (ht : 0 ≤ t) : ∀ (f : Nat) (x : SG), OldP o x → OldP o (sSeat J many by_ t f x)
  | 0, _, h => h
  | f + 1, x, h => by
    unfold sSeat
    by_cases q : (x.2.1.length : Int) < many ∧ 0 < x.1.length
    · rw [if_pos q]
      refine old_seat ht f _ ⟨by rw [(sSeat1_F ht (j := 0)).1]; exact h.1, fun j hj hj2 => h.2 j ?_ ((sSeat1_F ht (j := j)).2.2 hj2)⟩
      exact (List.eraseIdx_sublist x.1 _).subset hj
    · rw [if_neg q]; exact h
theorem old_wk {by_ t : Int} {o : Nat} : ∀ (L : List Nat) (x : SG), OldP o x → (∀ j, j ∈ L → x.2.2.2 2 j ≠ -1) → OldP o (sWk by_ t L x)
  | [], _, h, _ => h
  | i :: L, (row, srv, nx, F), h, hL => by
    unfold sWk
    dsimp only at *
    have hi := hL i List.mem_cons_self
    have hL' : ∀ j, j ∈ L → F 2 j ≠ -1 := fun j hj => hL j (List.mem_cons_of_mem _ hj)
    by_cases q : F 1 i - 1 ≤ 0
    · rw [if_pos q]
      refine old_wk L _ ⟨h.1, fun j hj hj2 => h.2 j hj ?_⟩ (fun j hj => ?_)
      · dsimp only at hj2
        rw [u2_off (by decide), u2_off (by decide), u2_off (by decide)] at hj2; exact hj2
      · dsimp only
        rw [u2_off (by decide), u2_off (by decide), u2_off (by decide)]; exact hL' j hj
    · rw [if_neg q]
      by_cases q2 : 4 ≤ by_
      · rw [if_pos q2]
        refine old_wk L _ ⟨h.1, fun j hj hj2 => ?_⟩ (fun j hj => ?_)
        · dsimp only at hj hj2
          rw [u2_off (by decide)] at hj2
          rcases List.mem_append.mp hj with z | z
          · exact h.2 j z hj2
          · rw [List.mem_singleton.mp z] at hj2; exact absurd hj2 hi
        · dsimp only
          rw [u2_off (by decide)]; exact hL' j hj
      · rw [if_neg q2]
        refine old_wk L _ ⟨h.1, fun j hj hj2 => h.2 j hj ?_⟩ (fun j hj => ?_)
        · dsimp only at hj2
          rw [u2_off (by decide)] at hj2; exact hj2
        · dsimp only
          rw [u2_off (by decide)]; exact hL' j hj
theorem s_letIn {d : Nat} {M : Mem} {r n : Nat} {J : Nat → Int} {many by_ space wait t : Int} {x : SG} (hr : IsPlay r) (hV : VJ n J) (hn : M 117 0 = n) (hJ : M 94 = J) (hm : 1 ≤ many ∧ many ≤ 4) (hsp : 0 ≤ space ∧ space ≤ 24) (hby : 0 ≤ by_ ∧ by_ ≤ 5) (ht : 0 ≤ t ∧ t ≤ 1500) (hp : PVi n many t x) (hc : CPl M r J many by_ space wait x) :
    Post (d + 2) cP_letIn [.inr (.inr (.inl r)), oJ, .inl t] M (fun _ M' => Fr (pcs r) M M' ∧ CPl M' r J many by_ space wait (sIn n J (many + space) t 24 x) ∧ (∀ s, s ≠ 12 → s ≠ 15 → M' r s = M r s) ∧ M' (r + 1) = M (r + 1)) := fun Q hQ => e_P_letIn hr (letIn_loop (d := d) hr hV hn hJ hm hsp hby ht 24 x M hp (by have := hV.1; omega) Fr.rfl' hc (fun _ _ _ => rfl) rfl fun M' f1 f2 f3 f4 => hQ 0 M' ⟨f1, f2, f3, f4⟩)
theorem s_seat {d : Nat} {M : Mem} {r n : Nat} {J : Nat → Int} {many by_ space wait t : Int} {x : SG} (hr : IsPlay r) (hV : VJ n J) (hm : 1 ≤ many ∧ many ≤ 4) (hby : 0 ≤ by_ ∧ by_ ≤ 5) (ht : 0 ≤ t ∧ t ≤ 1500) (hp : PVi n many t x) (hc : CPl M r J many by_ space wait x) :
    Post (d + 3) cP_seat [.inr (.inr (.inl r)), .inl t] M (fun _ M' => Fr (pcs r) M M' ∧ CPl M' r J many by_ space wait (sSeat J many by_ t 24 x) ∧ (∀ s, s ≠ 12 → s ≠ 14 → M' r s = M r s) ∧ M' (r + 1) = M (r + 1)) := by
  intro Q hQ
  refine e_P_seat hr (b_P_seat_0 hr ?_)
  rw [hc.1, hc.2.2.2.2.2.1]
  exact seat_loop (d := d) hr hV hm hby ht 24 x M none none hp (by have := hV.1; have := hp.1; have := hp.2.2.2.2.2.2.2.1; omega) Fr.rfl' hc (fun _ _ _ => rfl) rfl fun M' f1 f2 f3 f4 => hQ 0 M' ⟨f1, f2, f3, f4⟩
theorem s_work {d : Nat} {M : Mem} {r n : Nat} {J : Nat → Int} {many by_ space wait t : Int} {x : SG} (hr : IsPlay r) (hV : VJ n J) (hm : 1 ≤ many ∧ many ≤ 4) (hby : 0 ≤ by_ ∧ by_ ≤ 5) (ht : 0 ≤ t ∧ t ≤ 1500) (hp : PVi n many t x) (hc : CPl M r J many by_ space wait x) :
    Post (d + 2) cP_work [.inr (.inr (.inl r)), .inl t] M (fun _ M' => Fr (pcs r) M M' ∧ CPl M' r J many by_ space wait (sWork by_ t x) ∧ (∀ s, s ≠ 12 → s ≠ 14 → M' r s = M r s) ∧ M' (r + 1) = M (r + 1)) := by
  intro Q hQ
  obtain ⟨row, srv, nx, F⟩ := x
  obtain ⟨c0, c1, c2, c3, c4, c5, c6, c7, c8, c9⟩ := hc
  obtain ⟨p1, p2, p3, p4, p5, p6, p7, p8, p9⟩ := hp
  have hr' := hr.n
  dsimp only at *
  refine e_P_work hr (b_P_work_0 hr ?_)
  rw [c5, hr.al8, show min (srv.length : Int) ((4 : Nat) : Int) = ((srv.length : Nat) : Int) by omega]
  refine ⟨⟨by omega, by omega⟩, ⟨by decide, by decide⟩, ?_⟩
  have hW : WVi n many t srv (row, [], nx, F) := by
    refine ⟨p1, ?_, ?_, ?_, ?_, ?_, ?_, ?_, ?_⟩
    all_goals simp only [List.append_nil, List.nil_append, List.length_nil, Nat.add_zero]
    · exact p2
    · exact p3
    · exact p4
    · exact p5
    · exact p6
    · exact p7
    · exact p8
    · simpa using p9
  refine work_loop (d := d) (M0 := M) (many := many) (by_ := by_) (space := space) (wait := wait) (J := J) hr hV.1 hm hby ht srv (row, [], nx, F) _ 0 srv.length none hW (by omega) (Nat.zero_le _) (by omega) (Fr.rfl'.u2 (by simp)) ?_ (fun q v h => ?_) (fun s _ h2 => u2_ne h2) (u2_off (by omega)) fun M' f1 f2 f3 f4 => hQ 0 M' ⟨f1, f2, f3, f4⟩
  · refine ⟨?_, ?_, ?_, ?_, ?_, u2_same, ?_, ?_, fun i v h => ?_, fun k hk => ?_⟩
    · rw [u2_ne (by decide)]; exact c0
    · rw [u2_ne (by decide)]; exact c1
    · rw [u2_ne (by decide)]; exact c2
    · rw [u2_ne (by decide)]; exact c3
    · rw [u2_ne (by decide)]; exact c4
    · rw [u2_ne (by decide)]; exact c6
    · rw [u2_off (by omega)]; exact c7
    · simp at h
    · rw [u2_off (by omega), u2_off (by omega), u2_off (by omega), u2_off (by omega), u2_off (by omega)]; exact c9 k hk
  · rw [u2_off (by omega), Nat.zero_add]
    exact c8 q v h
/-- the play lies in the class's memory, from its beginning to its end -/
def RunC (M : Mem) (r n : Nat) (J : Nat → Int) (many by_ space wait : Int) (T : Nat) : Prop := (∀ s, s < T → sOn n (sAt n J many by_ space wait s)) ∧ ¬ sOn n (sAt n J many by_ space wait T) ∧ M r 4 = T ∧ (∀ s, s < T → M (r + 1) s = sNum (sMid n J many by_ space wait (s : Int) (sAt n J many by_ space wait s))) ∧
  ∀ k, k < n → M (r + 2) k = (sAt n J many by_ space wait T).2.2.2 0 k ∧ M (r + 3) k = (sAt n J many by_ space wait T).2.2.2 2 k ∧ M (r + 4) k = (sAt n J many by_ space wait T).2.2.2 3 k
theorem run_loop {d : Nat} {Q : Rs → Mem → Prop} {M0 : Mem} {r n : Nat} {J : Nat → Int} {many by_ space wait : Int} (hr : IsPlay r) (hV : VJ n J) (hn : M0 117 0 = n) (hJ : M0 94 = J) (hm : 1 ≤ many ∧ many ≤ 4) (hsp : 0 ≤ space ∧ space ≤ 24) (hby : 0 ≤ by_ ∧ by_ ≤ 5) (hw : 1 ≤ wait ∧ wait ≤ 999)
    (hQ : ∀ M' T, Fr (pcs r) M0 M' → RunC M' r n J many by_ space wait T → M' r 0 = many → M' r 1 = by_ → M' r 2 = space → M' r 3 = wait → Q (.inl 0) M') :
    ∀ (k t o : Nat) (M : Mem), t + k = 1500 → (∀ s, s < t → sOn n (sAt n J many by_ space wait s)) → Fr (pcs r) M0 M → CPl M r J many by_ space wait (sAt n J many by_ space wait t) → M r 16 = o → OldP o (sAt n J many by_ space wait t) → M r 4 = t → (∀ s, s < t → M (r + 1) s = sNum (sMid n J many by_ space wait (s : Int) (sAt n J many by_ space wait s))) → L_P_run_17 (d + 3) Q M r (t : Int)
  | k, t, o, M, hk, hon, hf, hc, ho, hol, h4, hth => by
    have hr' := hr.n
    have hI := at_inv (by_ := by_) (space := space) (wait := wait) hV hm.1 t
    have hp := hI.1
    have hc0 := hc
    obtain ⟨c0, c1, c2, c3, c4, c5, c6, c7, c8, c9⟩ := hc
    have e117 : M 117 0 = n := by rw [hf 117 (by simp; omega)]; exact hn
    have e94 : M 94 = J := by rw [hf 94 (by simp; omega)]; exact hJ
    have h24 := hV.1
    have hlt : t < 1500 := by
      rcases Nat.lt_or_ge t 1461 with q | q
      · omega
      · have := on_bound hV hm.1 (t := t - 1) (fun s hs => hon s (by omega))
        omega
    have hx1 := hp.1
    have hx8 := hp.2.2.2.2.2.2.2.1
    have stop : ¬ sOn n (sAt n J many by_ space wait t) → Q (.inl 0) M := fun z => hQ M t hf ⟨hon, z, h4, hth, fun k hk => by
      have hk' : k < (sAt n J many by_ space wait t).2.2.1 := by
        rcases Nat.lt_or_ge k (sAt n J many by_ space wait t).2.2.1 with y | y
        · exact y
        · exact absurd (Or.inl (by omega)) z
      exact ⟨(c9 k hk').1, (c9 k hk').2.1, (c9 k hk').2.2.1⟩⟩ c0 c1 c2 c3
    have go : sOn n (sAt n J many by_ space wait t) → L_P_run_31 (d + 3) Q M r (t : Int) := fun hont => by
      have ht0 : (0 : Int) ≤ (t : Int) ∧ (t : Int) ≤ 1500 := ⟨by omega, by omega⟩
      refine b_P_run_31 hr ?_
      refine (s_letGo (d := d) hr hV e94 hp ht0 hw hc0 ho hol.1 hol.2).cal fun v1 M1 hM1 => ?_
      obtain ⟨f1, g1, ⟨o1, ho1, hox1, hol1⟩, s1, t1⟩ := hM1
      have p1 := sGo_pvi (J := J) (wait := wait) ht0.1 hp
      have e94a : M1 94 = J := by rw [f1 94 (by simp; omega)]; exact e94
      have e117a : M1 117 0 = n := by rw [f1 117 (by simp; omega)]; exact e117
      refine (s_letIn (d := d + 1) hr hV e117a e94a hm hsp hby ht0 p1 g1).cal fun v2 M2 hM2 => ?_
      obtain ⟨f2, g2, s2, t2⟩ := hM2
      have p2 := sIn_pvi (cap := many + space) ht0.1 hV 24 _ p1
      refine (s_seat (d := d) hr hV hm hby ht0 p2 g2).cal fun v3 M3 hM3 => ?_
      obtain ⟨f3, g3, s3, t3⟩ := hM3
      have p3 := sSeat_pvi (J := J) (by_ := by_) ht0.1 24 _ p2
      have o1P : OldP o1 (sGo J wait (t : Int) (sAt n J many by_ space wait t)) := ⟨hox1, fun j hj hj2 => hol1 j hj (by rw [sGo_F.2] at hj2; exact hj2)⟩
      have o3P : OldP o1 (sMid n J many by_ space wait (t : Int) (sAt n J many by_ space wait t)) := old_seat ht0.1 24 _ (old_in ht0.1 hV 24 _ p1 o1P)
      have g3' : CPl M3 r J many by_ space wait (sMid n J many by_ space wait (t : Int) (sAt n J many by_ space wait t)) := g3
      have p3' : PVi n many (t : Int) (sMid n J many by_ space wait (t : Int) (sAt n J many by_ space wait t)) := p3
      have eAt : sAt n J many by_ space wait (t + 1) = sWork by_ (t : Int) (sMid n J many by_ space wait (t : Int) (sAt n J many by_ space wait t)) := rfl
      have e12 : M3 r 12 + M3 r 14 = sNum (sMid n J many by_ space wait (t : Int) (sAt n J many by_ space wait t)) := by
        rw [g3'.2.2.2.2.1, g3'.2.2.2.2.2.1]; rfl
      have e16 : M3 r 16 = o1 := by rw [s3 16 (by decide) (by decide), s2 16 (by decide) (by decide)]; exact ho1
      rw [e12, Int.toNat_natCast]
      refine ⟨⟨by omega, by omega⟩, ?_⟩
      have g4 : CPl (upd2 M3 (r + 1) t (sNum (sMid n J many by_ space wait (t : Int) (sAt n J many by_ space wait t)))) r J many by_ space wait (sMid n J many by_ space wait (t : Int) (sAt n J many by_ space wait t)) := by
        obtain ⟨k0, k1, k2, k3, k4, k5, k6, k7, k8, k9⟩ := g3'
        unfold CPl
        rw [u2_off (show r ≠ r + 1 by omega), u2_off (show r + 7 ≠ r + 1 by omega), u2_off (show r + 8 ≠ r + 1 by omega), u2_off (show r + 2 ≠ r + 1 by omega), u2_off (show r + 3 ≠ r + 1 by omega), u2_off (show r + 4 ≠ r + 1 by omega), u2_off (show r + 5 ≠ r + 1 by omega), u2_off (show r + 6 ≠ r + 1 by omega)]
        exact ⟨k0, k1, k2, k3, k4, k5, k6, k7, k8, k9⟩
      refine (s_work (d := d + 1) hr hV hm hby ht0 p3' g4).cal fun v4 M4 hM4 => ?_
      obtain ⟨f4, g5, s4, t4⟩ := hM4
      rw [← eAt] at g5
      cases k with
      | zero => omega
      | succ k =>
        have hf4 : Fr (pcs r) M0 (upd2 M4 r 4 ((t : Int) + 1)) := ((((((hf.tr f1).tr f2).tr f3).tr (Fr.rfl'.u2 (by simp))).tr f4).u2 (by simp))
        refine run_loop hr hV hn hJ hm hsp hby hw hQ k (t + 1) o1 _ (by omega) (fun s hs => ?_) hf4 ?_ ?_ ?_ (by rw [u2_same]; omega) (fun s hs => ?_)
        · by_cases e : s = t
          · subst e; exact hont
          · exact hon s (by omega)
        · obtain ⟨k0, k1, k2, k3, k4, k5, k6, k7, k8, k9⟩ := g5
          refine ⟨?_, ?_, ?_, ?_, ?_, ?_, ?_, ?_, ?_, fun k hk => ?_⟩
          · rw [u2_ne (by decide)]; exact k0
          · rw [u2_ne (by decide)]; exact k1
          · rw [u2_ne (by decide)]; exact k2
          · rw [u2_ne (by decide)]; exact k3
          · rw [u2_ne (by decide)]; exact k4
          · rw [u2_ne (by decide)]; exact k5
          · rw [u2_ne (by decide)]; exact k6
          · rw [u2_off (by omega)]; exact k7
          · rw [u2_off (by omega)]; exact k8
          · rw [u2_off (by omega), u2_off (by omega), u2_off (by omega), u2_off (by omega), u2_off (by omega)]; exact k9 k hk
        · rw [u2_ne (by decide), s4 16 (by decide) (by decide), u2_off (by omega)]; exact e16
        · rw [eAt]
          unfold sWork
          exact old_wk _ _ ⟨o3P.1, o3P.2⟩ (fun j hj => p3'.2.2.2.2.2.2.1 j hj)
        · rw [u2_off (by omega), t4, u2_row]
          by_cases e : s = t
          · subst e; rw [sr_same]
          · rw [sr_ne e, t3, t2, t1]; exact hth s (by omega)
    refine b_P_run_17 hr ?_
    rw [c6, e117, c4, c5]
    refine ⟨⟨by omega, by omega⟩, fun z => absurd z (by omega), fun _ => ⟨⟨by omega, by omega⟩, ⟨by omega, by omega⟩, fun z => go (Or.inl (by omega)), fun z => ⟨⟨by omega, by omega⟩, fun z2 => stop fun y => ?_, fun z2 => go (Or.inr (by omega))⟩⟩⟩
    rcases y with y | y <;> omega
theorem s_run {d : Nat} {M : Mem} {r n : Nat} {J : Nat → Int} {many by_ space wait : Int} (hr : IsPlay r) (hV : VJ n J) (hn : M 117 0 = n) (hJ : M 94 = J) (hm : 1 ≤ many ∧ many ≤ 4) (hsp : 0 ≤ space ∧ space ≤ 24) (hby : 0 ≤ by_ ∧ by_ ≤ 5) (hw : 1 ≤ wait ∧ wait ≤ 999)
    (h0 : M r 0 = many) (h1 : M r 1 = by_) (h2 : M r 2 = space) (h3 : M r 3 = wait) :
    Post (d + 4) cP_run [.inr (.inr (.inl r)), oJ] M (fun _ M' => Fr (pcs r) M M' ∧ (∃ T, RunC M' r n J many by_ space wait T) ∧ M' r 0 = many ∧ M' r 1 = by_ ∧ M' r 2 = space ∧ M' r 3 = wait) := by
  intro Q hQ
  refine e_P_run hr (b_P_run_0 hr ?_)
  refine run_loop (d := d) (M0 := M) hr hV hn hJ hm hsp hby hw (fun M' T f1 f2 f3 f4 f5 f6 => hQ 0 M' ⟨f1, ⟨T, f2⟩, f3, f4, f5, f6⟩) 1500 0 0 _ rfl (fun s hs => absurd hs (Nat.not_lt_zero s)) (((((Fr.rfl'.u2 (by simp)).u2 (by simp)).u2 (by simp)).u2 (by simp)).u2 (by simp)) ?_ ?_ ⟨Nat.le_refl 0, fun j hj => absurd hj (by simp [sAt])⟩ u2_same (fun s hs => absurd hs (Nat.not_lt_zero s))
  · refine ⟨?_, ?_, ?_, ?_, ?_, ?_, ?_, fun i v h => ?_, fun i v h => ?_, fun k hk => absurd hk (Nat.not_lt_zero k)⟩
    · rw [u2_ne (by decide), u2_ne (by decide), u2_ne (by decide), u2_ne (by decide), u2_ne (by decide)]; exact h0
    · rw [u2_ne (by decide), u2_ne (by decide), u2_ne (by decide), u2_ne (by decide), u2_ne (by decide)]; exact h1
    · rw [u2_ne (by decide), u2_ne (by decide), u2_ne (by decide), u2_ne (by decide), u2_ne (by decide)]; exact h2
    · rw [u2_ne (by decide), u2_ne (by decide), u2_ne (by decide), u2_ne (by decide), u2_ne (by decide)]; exact h3
    · rw [u2_ne (by decide), u2_ne (by decide), u2_ne (by decide), u2_ne (by decide), u2_same]; rfl
    · rw [u2_ne (by decide), u2_ne (by decide), u2_ne (by decide), u2_same]; rfl
    · rw [u2_ne (by decide), u2_ne (by decide), u2_same]; rfl
    · simp [sAt] at h
    · simp [sAt] at h
  · rw [u2_ne (by decide), u2_same]; rfl
