/-! The class's calls by values: chains, lost calls. -/
theorem cOk_cId {s b : Int} (h : stOk s b) : cOk s.toNat b (cId b) := by
  unfold stOk at h
  refine ⟨⟨by omega, by omega⟩, h.2, fun i j hi hj => ?_, fun i j hi hj h7 => ?_⟩
  · unfold cId
    split <;> omega
  · unfold cId
    rw [if_neg (by omega)]
section QC2
variable {j : StJ} {l : StL} {c : StC} {n : StN} {e : StE} {g : StG} {h : StH} {t : StT} {M M' : Mem} {C : LMem} {d : Nat} {k : List Nat}
theorem IQ.chain (q : IQ j l c n e g h t M) (f : Fr k M M') (hk : nin k (List.range 54 ++ (qlT ++ qlJ ++ qlL ++ qlN ++ qlE ++ qlG)) = true) {c' : StC} (hC : qC c' M') : IQ j l c' n e g h t M' := by
  have h1 : nin k (List.range 54) = true := nin_s hk fun a ha => List.mem_append_left _ ha
  have h2 : nin k (qlT ++ qlJ ++ qlL ++ qlN ++ qlE ++ qlG) = true := nin_s hk fun a ha => List.mem_append_right _ ha
  exact ⟨let ⟨x, hx⟩ := q.cf; ⟨x, hx.off f h1⟩, q.az.off f h1, q.tp.fr f (nin_s h2 (by decide)), q.jb.fr f (nin_s h2 (by decide)), q.ln.fr f (nin_s h2 (by decide)), hC, q.nt.fr f (nin_s h2 (by decide)), q.ev.fr f (nin_s h2 (by decide)), q.gm.fr f (nin_s h2 (by decide))⟩
theorem c_states {s b y z : Int} (q : IQ j l c n e g h t M) (hs : stOk s b) (hy : R32 y) (hz : R32 z) : LPo (d + 1) cW_done [oH, .inl 4, .inl s, .inl b, .inl y, .inl z] M C (fun v m c' => c' = C ∧ (1 ≤ v ∧ v ≤ 7) ∧ IQ j l (s.toNat, b, cId b) n e g h t m) := by
  have hr := hs
  unfold stOk at hr
  refine (dn (w := 4) (a := s) (b := b) (c := y) (e := z) (M := M) (C := C) (d := d) ⟨⟨by omega, by omega⟩, by omega⟩ ⟨⟨by omega, by omega⟩, by omega, by omega⟩ ⟨hy, hz⟩ (s_Qstates (d := 10) ⟨by omega, by omega⟩ ⟨by omega, by omega⟩) ?_).imp ?_
  · rintro r m (⟨-, rfl, -⟩ | ⟨-, rfl, -⟩)
    · exact xOk2
    · trivial
  · rintro v m c' ⟨rfl, r, hr, rfl⟩
    rcases hr with ⟨z, -⟩ | ⟨-, rfl, f, hC⟩
    · exact absurd hs z
    · refine ⟨rfl, ?_, q.chain f (by decide) ⟨cOk_cId hs, hC⟩⟩
      show 1 ≤ M 130 0 ∧ M 130 0 ≤ 7
      have h1 := q.ch.2.1
      have h2 := q.ch.1.1.1
      have h3 := q.ch.1.1.2
      omega
theorem c_statesNo {s b y z : Int} (hs : ¬ stOk s b) (h1 : R32 s) (h2 : R32 b) (hy : R32 y) (hz : R32 z) : LPo (d + 1) cW_done [oH, .inl 4, .inl s, .inl b, .inl y, .inl z] M C (fun v m c' => c' = C ∧ v = -1000002 ∧ m = M) := by
  refine (dn (w := 4) (a := s) (b := b) (c := y) (e := z) (M := M) (C := C) (d := d) ⟨⟨by omega, by omega⟩, by omega⟩ ⟨h1, h2⟩ ⟨hy, hz⟩ (s_Qstates (d := 10) h1 h2) ?_).imp ?_
  · rintro r m (⟨-, rfl, -⟩ | ⟨-, rfl, -⟩)
    · exact xOk2
    · trivial
  · rintro v m c' ⟨rfl, r, hr, rfl⟩
    rcases hr with ⟨-, rfl, rfl⟩ | ⟨z, -⟩
    · exact ⟨rfl, rfl, rfl⟩
    · exact absurd z hs
theorem c_chance {a b x z : Int} (q : IQ j l c n e g h t M) (hs : inSt c.1 a b) (hx : 0 ≤ x ∧ x ≤ c.2.1) (hz : R32 z) : LPo (d + 1) cW_done [oH, .inl 5, .inl a, .inl b, .inl x, .inl z] M C (fun v m c' => c' = C ∧ v = rowS (upA c.2.2 a.toNat b.toNat x) a.toNat c.1 ∧ IQ j l (c.1, c.2.1, upA c.2.2 a.toNat b.toNat x) n e g h t m) := by
  have hr := hs
  unfold inSt at hr
  have h7 := q.ch.1.1
  have hb := q.ch.1.2.1
  refine (dn (w := 5) (a := a) (b := b) (c := x) (e := z) (M := M) (C := C) (d := d) ⟨⟨by omega, by omega⟩, by omega⟩ ⟨⟨by omega, by omega⟩, by omega, by omega⟩ ⟨⟨by omega, by omega⟩, hz⟩ (s_Qchance (d := 10) q.ch.2 q.ch.1 ⟨by omega, by omega⟩ ⟨by omega, by omega⟩ ⟨by omega, by omega⟩) ?_).imp ?_
  · rintro r m (⟨-, rfl, -⟩ | ⟨-, -, rfl, -⟩ | ⟨-, -, rfl, -⟩)
    · exact xOk4
    · exact xOk2
    · trivial
  · rintro v m c' ⟨rfl, r, hr, rfl⟩
    rcases hr with ⟨z, -⟩ | ⟨-, z, -⟩ | ⟨-, -, rfl, f, hC⟩
    · exact absurd hs z
    · exact absurd hx z
    · exact ⟨rfl, rfl, q.chain f (by decide) ⟨cOk_up q.ch.1 (by omega) (by omega) hx, hC⟩⟩
theorem c_group {a x y z : Int} (q : IQ j l c n e g h t M) (ha : a = -1 ∨ (0 ≤ a ∧ a < c.1)) (hL : lawful c.1 c.2.1 c.2.2) (hx : R32 x) (hy : R32 y) (hz : R32 z) : LPo (d + 1) cW_done [oH, .inl 6, .inl a, .inl x, .inl y, .inl z] M C (fun v m c' => c' = C ∧ IQ j l c n e g h t m ∧ gIs c.1 (cE c.1 c.2.2 (-1)) a v) := by
  have h7 := q.ch.1.1
  refine (dn (w := 6) (a := a) (b := x) (c := y) (e := z) (M := M) (C := C) (d := d) ⟨⟨by omega, by omega⟩, by omega⟩ ⟨⟨by omega, by omega⟩, hx⟩ ⟨hy, hz⟩ (s_Qgroup (d := 5) q.ch.2 q.ch.1 ⟨by omega, by omega⟩) ?_).imp ?_
  · rintro r m (⟨-, rfl, -⟩ | ⟨-, -, rfl, -⟩ | ⟨-, -, -, v, rfl, -⟩)
    · exact xOk4
    · exact xOk5
    · trivial
  · rintro v m c' ⟨rfl, r, hr, rfl⟩
    rcases hr with ⟨z, -⟩ | ⟨-, z, -⟩ | ⟨-, -, f, v, rfl, hv⟩
    · exact absurd ha z
    · exact absurd hL z
    · exact ⟨rfl, q.off f (by decide), hv⟩
theorem c_share {a x y z : Int} (q : IQ j l c n e g h t M) (ha : 0 ≤ a ∧ a < c.1) (hL : lawful c.1 c.2.1 c.2.2) (hx : R32 x) (hy : R32 y) (hz : R32 z) : LPo (d + 1) cW_done [oH, .inl 7, .inl a, .inl x, .inl y, .inl z] M C (fun v m c' => c' = C ∧ IQ j l c n e g h t m ∧ ∃ w, shrV c.1 c.2.1 c.2.2 a.toNat w ∧ CF m w ∧ v = w.num.sign) := by
  have h7 := q.ch.1.1
  refine (dn (w := 7) (a := a) (b := x) (c := y) (e := z) (M := M) (C := C) (d := d) ⟨⟨by omega, by omega⟩, by omega⟩ ⟨⟨by omega, by omega⟩, hx⟩ ⟨hy, hz⟩ (s_QlongShare (d := 6) q.ch.2 q.ch.1 q.az ⟨by omega, by omega⟩) ?_).imp ?_
  · rintro r m (⟨-, rfl, -⟩ | ⟨-, -, rfl, -⟩ | ⟨-, -, -, -, v, -, -, rfl⟩)
    · exact xOk4
    · exact xOk5
    · trivial
  · rintro v m c' ⟨rfl, r, hr, rfl⟩
    rcases hr with ⟨z, -⟩ | ⟨-, z, -⟩ | ⟨-, -, f, hz, v, h1, h2, rfl⟩
    · exact absurd ⟨ha, ha⟩ z
    · exact absurd hL z
    · exact ⟨rfl, q.ofz f h2 hz (by decide), v, h1, h2, rfl⟩
theorem c_reach {a b y z : Int} (q : IQ j l c n e g h t M) (ha : inSt c.1 a b) (hL : lawful c.1 c.2.1 c.2.2) (hy : R32 y) (hz : R32 z) : LPo (d + 1) cW_done [oH, .inl 8, .inl a, .inl b, .inl y, .inl z] M C (fun v m c' => c' = C ∧ IQ j l c n e g h t m ∧ ∃ w, rchV c.1 c.2.1 c.2.2 a.toNat b.toNat w ∧ CF m w ∧ v = w.num.sign) := by
  have h7 := q.ch.1.1
  have hr := ha
  unfold inSt at hr
  refine (dn (w := 8) (a := a) (b := b) (c := y) (e := z) (M := M) (C := C) (d := d) ⟨⟨by omega, by omega⟩, by omega⟩ ⟨⟨by omega, by omega⟩, by omega, by omega⟩ ⟨hy, hz⟩ (s_Qreach (d := 6) q.ch.2 q.ch.1 q.az ⟨by omega, by omega⟩ ⟨by omega, by omega⟩) ?_).imp ?_
  · rintro r m (⟨-, rfl, -⟩ | ⟨-, -, rfl, -⟩ | ⟨-, -, -, -, v, -, -, rfl⟩)
    · exact xOk4
    · exact xOk5
    · trivial
  · rintro v m c' ⟨rfl, r, hr, rfl⟩
    rcases hr with ⟨z, -⟩ | ⟨-, z, -⟩ | ⟨-, -, f, hz, v, h1, h2, rfl⟩
    · exact absurd ha z
    · exact absurd hL z
    · exact ⟨rfl, q.ofz f h2 hz (by decide), v, h1, h2, rfl⟩
theorem c_reachNo {a b y z : Int} (q : IQ j l c n e g h t M) (ha : ¬ inSt c.1 a b) (h1 : R32 a) (h2 : R32 b) (hy : R32 y) (hz : R32 z) : LPo (d + 1) cW_done [oH, .inl 8, .inl a, .inl b, .inl y, .inl z] M C (fun v m c' => c' = C ∧ v = -1000001 ∧ m = M) := by
  refine (dn (w := 8) (a := a) (b := b) (c := y) (e := z) (M := M) (C := C) (d := d) ⟨⟨by omega, by omega⟩, by omega⟩ ⟨h1, h2⟩ ⟨hy, hz⟩ (s_Qreach (d := 6) q.ch.2 q.ch.1 q.az h1 h2) ?_).imp ?_
  · rintro r m (⟨-, rfl, -⟩ | ⟨-, -, rfl, -⟩ | ⟨-, -, -, -, v, -, -, rfl⟩)
    · exact xOk4
    · exact xOk5
    · trivial
  · rintro v m c' ⟨rfl, r, hr, rfl⟩
    rcases hr with ⟨-, rfl, rfl⟩ | ⟨z, -⟩ | ⟨z, -⟩
    · exact ⟨rfl, rfl, rfl⟩
    · exact absurd z ha
    · exact absurd z ha
theorem c_time {a b y z : Int} (q : IQ j l c n e g h t M) (ha : inSt c.1 a b) (hL : lawful c.1 c.2.1 c.2.2) (hy : R32 y) (hz : R32 z) : LPo (d + 1) cW_done [oH, .inl 9, .inl a, .inl b, .inl y, .inl z] M C (fun v m c' => c' = C ∧ IQ j l c n e g h t m ∧ ((¬ sure c.1 c.2.2 a.toNat b.toNat ∧ v = -1000004) ∨ (sure c.1 c.2.2 a.toNat b.toNat ∧ ∃ w, timV c.1 c.2.1 c.2.2 a.toNat b.toNat w ∧ CF m w ∧ v = w.num.sign))) := by
  have h7 := q.ch.1.1
  have hr := ha
  unfold inSt at hr
  refine (dn (w := 9) (a := a) (b := b) (c := y) (e := z) (M := M) (C := C) (d := d) ⟨⟨by omega, by omega⟩, by omega⟩ ⟨⟨by omega, by omega⟩, by omega, by omega⟩ ⟨hy, hz⟩ (s_QtimeTo (d := 6) q.ch.2 q.ch.1 q.az ⟨by omega, by omega⟩ ⟨by omega, by omega⟩) ?_).imp ?_
  · rintro r m (⟨-, rfl, -⟩ | ⟨-, -, rfl, -⟩ | ⟨-, -, -, -, v, -, -, rfl⟩)
    · exact xOk4
    · exact xOk5
    · trivial
  · rintro v m c' ⟨rfl, r, hr, rfl⟩
    rcases hr with ⟨z, -⟩ | ⟨-, z, rfl, f, hz, f2⟩ | ⟨-, z, f, hz, v, h1, h2, rfl⟩
    · exact absurd ha z
    · have f3 : Fr [126] M m := fun a ha => f2 a fun e => ha (by rw [e]; exact List.mem_cons_self)
      exact ⟨rfl, q.off f3 (by decide), Or.inl ⟨fun s => z ⟨hL, s⟩, rfl⟩⟩
    · exact ⟨rfl, q.ofz f h2 hz (by decide), Or.inr ⟨z.2, v, h1, h2, rfl⟩⟩
theorem c_behind {a b x z : Int} (q : IQ j l c n e g h t M) (ha : inSt c.1 a b) (hx : 0 ≤ x ∧ x ≤ 60) (hL : lawful c.1 c.2.1 c.2.2) (hz : R32 z) : LPo (d + 1) cW_done [oH, .inl 10, .inl a, .inl b, .inl x, .inl z] M C (fun v m c' => c' = C ∧ IQ j l c n e g h t m ∧ CF m (bhQ c.2.2 c.1 a.toNat c.2.1.toNat x.toNat b.toNat) ∧ v = (bhQ c.2.2 c.1 a.toNat c.2.1.toNat x.toNat b.toNat).num.sign) := by
  have h7 := q.ch.1.1
  have hr := ha
  unfold inSt at hr
  refine (dn (w := 10) (a := a) (b := b) (c := x) (e := z) (M := M) (C := C) (d := d) ⟨⟨by omega, by omega⟩, by omega⟩ ⟨⟨by omega, by omega⟩, by omega, by omega⟩ ⟨⟨by omega, by omega⟩, hz⟩ (s_Qbehind (d := 4) q.ch.2 q.ch.1 q.az ⟨by omega, by omega⟩ ⟨by omega, by omega⟩ ⟨by omega, by omega⟩) ?_).imp ?_
  · rintro r m (⟨-, rfl, -⟩ | ⟨-, -, rfl, -⟩ | ⟨-, -, -, rfl, -⟩ | ⟨-, -, -, -, -, -, rfl⟩)
    · exact xOk4
    · exact xOk2
    · exact xOk5
    · trivial
  · rintro v m c' ⟨rfl, r, hr, rfl⟩
    rcases hr with ⟨z, -⟩ | ⟨-, z, -⟩ | ⟨-, -, z, -⟩ | ⟨-, -, -, f, hz, h1, rfl⟩
    · exact absurd ha z
    · exact absurd hx z
    · exact absurd hL z
    · exact ⟨rfl, q.ofz f h1 hz (by decide), h1, rfl⟩
theorem c_behindNo {a b x z : Int} (q : IQ j l c n e g h t M) (ha : inSt c.1 a b) (hx : ¬ (0 ≤ x ∧ x ≤ 60)) (h1 : R32 x) (hz : R32 z) : LPo (d + 1) cW_done [oH, .inl 10, .inl a, .inl b, .inl x, .inl z] M C (fun v m c' => c' = C ∧ v = -1000002 ∧ m = M) := by
  have h7 := q.ch.1.1
  have hr := ha
  unfold inSt at hr
  refine (dn (w := 10) (a := a) (b := b) (c := x) (e := z) (M := M) (C := C) (d := d) ⟨⟨by omega, by omega⟩, by omega⟩ ⟨⟨by omega, by omega⟩, by omega, by omega⟩ ⟨h1, hz⟩ (s_Qbehind (d := 4) q.ch.2 q.ch.1 q.az ⟨by omega, by omega⟩ ⟨by omega, by omega⟩ h1) ?_).imp ?_
  · rintro r m (⟨-, rfl, -⟩ | ⟨-, -, rfl, -⟩ | ⟨-, -, -, rfl, -⟩ | ⟨-, -, -, -, -, -, rfl⟩)
    · exact xOk4
    · exact xOk2
    · exact xOk5
    · trivial
  · rintro v m c' ⟨rfl, r, hr, rfl⟩
    rcases hr with ⟨z, -⟩ | ⟨-, -, rfl, rfl⟩ | ⟨-, z, -⟩ | ⟨-, z, -⟩
    · exact absurd ha z
    · exact ⟨rfl, rfl, rfl⟩
    · exact absurd z hx
    · exact absurd z hx
theorem c_lost {a b x z : Int} (q : IQ j l c n e g h t M) (ha : 0 ≤ a ∧ a ≤ 30) (hx : fracOk b x) (hz : R32 z) : LPo (d + 1) cW_done [oH, .inl 11, .inl a, .inl b, .inl x, .inl z] M C (fun v m c' => c' = C ∧ IQ j l c n e g h t m ∧ CF m (lossF (mkRat b x.toNat) a.toNat) ∧ v = (lossF (mkRat b x.toNat) a.toNat).num.sign) := by
  have hr := hx
  unfold fracOk at hr
  refine (dn (w := 11) (a := a) (b := b) (c := x) (e := z) (M := M) (C := C) (d := d) ⟨⟨by omega, by omega⟩, by omega⟩ ⟨⟨by omega, by omega⟩, by omega, by omega⟩ ⟨⟨by omega, by omega⟩, hz⟩ (s_QlostShare (d := 5) q.az ⟨by omega, by omega⟩ ⟨by omega, by omega⟩ ⟨by omega, by omega⟩) ?_).imp ?_
  · rintro r m (⟨-, rfl, -⟩ | ⟨-, -, -, -, rfl⟩)
    · exact xOk2
    · trivial
  · rintro v m c' ⟨rfl, r, hr, rfl⟩
    rcases hr with ⟨z, -⟩ | ⟨-, f, hz, h1, rfl⟩
    · exact absurd ⟨ha, hx⟩ z
    · exact ⟨rfl, q.ofz f h1 hz (by decide), h1, rfl⟩
theorem c_lostNo {a b x z : Int} (q : IQ j l c n e g h t M) (ha : ¬ (0 ≤ a ∧ a ≤ 30)) (h1 : R32 a) (h2 : R32 b) (h3 : R32 x) (hz : R32 z) : LPo (d + 1) cW_done [oH, .inl 11, .inl a, .inl b, .inl x, .inl z] M C (fun v m c' => c' = C ∧ v = -1000002 ∧ m = M) := by
  refine (dn (w := 11) (a := a) (b := b) (c := x) (e := z) (M := M) (C := C) (d := d) ⟨⟨by omega, by omega⟩, by omega⟩ ⟨h1, h2⟩ ⟨h3, hz⟩ (s_QlostShare (d := 5) q.az h1 h2 h3) ?_).imp ?_
  · rintro r m (⟨-, rfl, -⟩ | ⟨-, -, -, -, rfl⟩)
    · exact xOk2
    · trivial
  · rintro v m c' ⟨rfl, r, hr, rfl⟩
    rcases hr with ⟨-, rfl, rfl⟩ | ⟨z, -⟩
    · exact ⟨rfl, rfl, rfl⟩
    · exact absurd z.1 ha
theorem c_serversFor {a b x z : Int} (q : IQ j l c n e g h t M) (ha : fracOk a b) (hx : fracOk x z) : LPo (d + 1) cW_done [oH, .inl 12, .inl a, .inl b, .inl x, .inl z] M C (fun v m c' => c' = C ∧ IQ j l c n e g h t m ∧ ((∃ k : Nat, k ≤ 30 ∧ v = (k : Int) ∧ lossF (mkRat a b.toNat) k ≤ mkRat x z.toNat ∧ ∀ i, i < k → ¬ lossF (mkRat a b.toNat) i ≤ mkRat x z.toNat) ∨ (v = -1000004 ∧ ∀ i, i ≤ 30 → ¬ lossF (mkRat a b.toNat) i ≤ mkRat x z.toNat))) := by
  have hr := ha
  have hr2 := hx
  unfold fracOk at hr hr2
  refine (dn (w := 12) (a := a) (b := b) (c := x) (e := z) (M := M) (C := C) (d := d) ⟨⟨by omega, by omega⟩, by omega⟩ ⟨⟨by omega, by omega⟩, by omega, by omega⟩ ⟨⟨by omega, by omega⟩, by omega, by omega⟩ (s_QserversFor (d := 8) q.az ⟨by omega, by omega⟩ ⟨by omega, by omega⟩ ⟨by omega, by omega⟩ ⟨by omega, by omega⟩) ?_).imp ?_
  · rintro r m (⟨-, rfl, -⟩ | ⟨-, -, -, ⟨k, -, rfl, -⟩ | ⟨rfl, -⟩⟩)
    · exact xOk2
    · trivial
    · exact xOk5
  · rintro v m c' ⟨rfl, r, hr, rfl⟩
    rcases hr with ⟨z, -⟩ | ⟨-, f, hz, ⟨k, h1, rfl, h2, h3⟩ | ⟨rfl, h2⟩⟩
    · exact absurd ⟨ha, hx⟩ z
    · exact ⟨rfl, q.offz f hz (by decide), Or.inl ⟨k, h1, rfl, h2, h3⟩⟩
    · exact ⟨rfl, q.offz f hz (by decide), Or.inr ⟨rfl, h2⟩⟩
end QC2
