/-! The class's calls by values: nets, envelopes, games. -/
section QC3
variable {j : StJ} {l : StL} {c : StC} {n : StN} {e : StE} {g : StG} {h : StH} {t : StT} {M M' : Mem} {C : LMem} {d : Nat} {k : List Nat}
theorem IQ.net (q : IQ j l c n e g h t M) (f : Fr k M M') (hk : nin k (qlT ++ qlJ ++ qlL ++ qlC ++ qlE ++ qlG) = true) (hc : ∃ x, CF M' x) (hz : AZ M') {n' : StN} (hN : qN n' M') : IQ j l c n' e g h t M' :=
  ⟨hc, hz, q.tp.fr f (nin_s hk (by decide)), q.jb.fr f (nin_s hk (by decide)), q.ln.fr f (nin_s hk (by decide)), q.ch.fr f (nin_s hk (by decide)), hN, q.ev.fr f (nin_s hk (by decide)), q.gm.fr f (nin_s hk (by decide))⟩
theorem IQ.netO (q : IQ j l c n e g h t M) (f : Fr k M M') (hk : nin k (List.range 54 ++ (qlT ++ qlJ ++ qlL ++ qlC ++ qlE ++ qlG)) = true) {n' : StN} (hN : qN n' M') : IQ j l c n' e g h t M' :=
  have h1 : nin k (List.range 54) = true := nin_s hk fun a ha => List.mem_append_left _ ha
  q.net f (nin_s hk fun a ha => List.mem_append_right _ ha) (let ⟨x, hx⟩ := q.cf; ⟨x, hx.off f h1⟩) (q.az.off f h1) hN
theorem c_net {m9 x y z : Int} (q : IQ j l c n e g h t M) (hm : 1 ≤ m9 ∧ m9 ≤ 4) (hx : R32 x) (hy : R32 y) (hz : R32 z) : LPo (d + 1) cW_done [oH, .inl 13, .inl m9, .inl x, .inl y, .inl z] M C (fun v m c' => c' = C ∧ 1 ≤ v ∧ IQ j l c (m9.toNat, fun _ => 0, fun _ => 1, fun _ _ => 0) e g h t m) := by
  refine (dn (w := 13) (a := m9) (b := x) (c := y) (e := z) (M := M) (C := C) (d := d) ⟨⟨by omega, by omega⟩, by omega⟩ ⟨⟨by omega, by omega⟩, hx⟩ ⟨hy, hz⟩ (s_Qnet (d := 9) ⟨by omega, by omega⟩) ?_).imp ?_
  · rintro r m (⟨-, rfl, -⟩ | ⟨-, rfl, -⟩)
    · exact xOk2
    · trivial
  · rintro v m c' ⟨rfl, r, hr, rfl⟩
    rcases hr with ⟨z, -⟩ | ⟨-, rfl, f, hN⟩
    · exact absurd hm z
    · refine ⟨rfl, ?_, q.netO f (by decide) ⟨nOk_new (n := m9.toNat) ⟨by omega, by omega⟩, hN⟩⟩
      show 1 ≤ M 142 0
      have h1 := q.nt.2.1
      have h2 := q.nt.1.1
      omega
theorem c_node {a x y z : Int} (q : IQ j l c n e g h t M) (ha : 0 ≤ a ∧ a < n.1) (hx : ndOk x y) (hz : R32 z) : LPo (d + 1) cW_done [oH, .inl 14, .inl a, .inl x, .inl y, .inl z] M C (fun v m9 c' => c' = C ∧ v = n.2.1 a.toNat ∧ IQ j l c (n.1, sr n.2.1 a.toNat x, sr n.2.2.1 a.toNat y, n.2.2.2) e g h t m9) := by
  have hr := hx
  unfold ndOk at hr
  have h4 := q.nt.1.1
  refine (dn (w := 14) (a := a) (b := x) (c := y) (e := z) (M := M) (C := C) (d := d) ⟨⟨by omega, by omega⟩, by omega⟩ ⟨⟨by omega, by omega⟩, by omega, by omega⟩ ⟨⟨by omega, by omega⟩, hz⟩ (s_Qnode (d := 10) q.nt.2 q.nt.1 ⟨by omega, by omega⟩ ⟨by omega, by omega⟩ ⟨by omega, by omega⟩) ?_).imp ?_
  · rintro r m (⟨-, rfl, -⟩ | ⟨-, -, rfl, -⟩ | ⟨-, -, rfl, -⟩)
    · exact xOk4
    · exact xOk2
    · trivial
  · rintro v m c' ⟨rfl, r, hr, rfl⟩
    rcases hr with ⟨z, -⟩ | ⟨-, z, -⟩ | ⟨-, -, rfl, f, hN⟩
    · exact absurd ⟨ha, ha⟩ z
    · exact absurd hx z
    · exact ⟨rfl, rfl, q.netO f (by decide) ⟨nOk_node q.nt.1 hx, hN⟩⟩
theorem c_way {a b x z : Int} (q : IQ j l c n e g h t M) (ha : inSt n.1 a b) (hx : wayOk n.1 n.2.2.2 a.toNat b.toNat x) (hz : R32 z) : LPo (d + 1) cW_done [oH, .inl 15, .inl a, .inl b, .inl x, .inl z] M C (fun v m9 c' => c' = C ∧ v = rowS n.2.2.2 a.toNat n.1 - n.2.2.2 a.toNat b.toNat + x ∧ IQ j l c (n.1, n.2.1, n.2.2.1, upA n.2.2.2 a.toNat b.toNat x) e g h t m9) := by
  have hr := hx
  unfold wayOk at hr
  have hr2 := ha
  unfold inSt at hr2
  have h4 := q.nt.1.1
  refine (dn (w := 15) (a := a) (b := b) (c := x) (e := z) (M := M) (C := C) (d := d) ⟨⟨by omega, by omega⟩, by omega⟩ ⟨⟨by omega, by omega⟩, by omega, by omega⟩ ⟨⟨by omega, by omega⟩, hz⟩ (s_Qway (d := 10) q.nt.2 q.nt.1 ⟨by omega, by omega⟩ ⟨by omega, by omega⟩ ⟨by omega, by omega⟩) ?_).imp ?_
  · rintro r m (⟨-, rfl, -⟩ | ⟨-, -, rfl, -⟩ | ⟨-, -, rfl, -⟩)
    · exact xOk4
    · exact xOk2
    · trivial
  · rintro v m c' ⟨rfl, r, hr, rfl⟩
    rcases hr with ⟨z, -⟩ | ⟨-, z, -⟩ | ⟨-, -, rfl, f, hN⟩
    · exact absurd ha z
    · exact absurd hx z
    · exact ⟨rfl, rfl, q.netO f (by decide) ⟨nOk_way q.nt.1 (by omega) (by omega) hx, hN⟩⟩
theorem c_rate {a x y z : Int} (q : IQ j l c n e g h t M) (ha : 0 ≤ a ∧ a < n.1) (hx : R32 x) (hy : R32 y) (hz : R32 z) : LPo (d + 1) cW_done [oH, .inl 16, .inl a, .inl x, .inl y, .inl z] M C (fun v m9 c' => c' = C ∧ IQ j l c n e g h t m9 ∧ ((¬ ratesOk n.1 n.2.2.2 ∧ v = -1000004) ∨ (ratesOk n.1 n.2.2.2 ∧ CF m9 (rtQ n.1 n.2.1 n.2.2.1 n.2.2.2 a.toNat) ∧ v = (rtQ n.1 n.2.1 n.2.2.1 n.2.2.2 a.toNat).num.sign))) := by
  have h4 := q.nt.1.1
  refine (dn (w := 16) (a := a) (b := x) (c := y) (e := z) (M := M) (C := C) (d := d) ⟨⟨by omega, by omega⟩, by omega⟩ ⟨⟨by omega, by omega⟩, hx⟩ ⟨hy, hz⟩ (s_Qrate (d := 7) q.nt.2 q.nt.1 q.az ⟨by omega, by omega⟩) ?_).imp ?_
  · rintro r m (⟨-, rfl, -⟩ | ⟨-, -, rfl, -⟩ | ⟨-, -, -, -, -, -, rfl⟩)
    · exact xOk4
    · exact xOk5
    · trivial
  · rintro v m c' ⟨rfl, r, hr, rfl⟩
    rcases hr with ⟨z, -⟩ | ⟨-, z, rfl, f⟩ | ⟨-, z, f, hN, hz9, hc, rfl⟩
    · exact absurd ⟨ha, ha⟩ z
    · exact ⟨rfl, q.off f (by decide), Or.inl ⟨z, rfl⟩⟩
    · exact ⟨rfl, q.net f (by decide) ⟨_, hc⟩ hz9 ⟨q.nt.1, hN⟩, Or.inr ⟨z, hc, rfl⟩⟩
theorem c_rateNo {a x y z : Int} (q : IQ j l c n e g h t M) (ha : ¬ (0 ≤ a ∧ a < n.1)) (h1 : R32 a) (hx : R32 x) (hy : R32 y) (hz : R32 z) : LPo (d + 1) cW_done [oH, .inl 16, .inl a, .inl x, .inl y, .inl z] M C (fun v m9 c' => c' = C ∧ v = -1000001 ∧ m9 = M) := by
  refine (dn (w := 16) (a := a) (b := x) (c := y) (e := z) (M := M) (C := C) (d := d) ⟨⟨by omega, by omega⟩, by omega⟩ ⟨h1, hx⟩ ⟨hy, hz⟩ (s_Qrate (d := 7) q.nt.2 q.nt.1 q.az h1) ?_).imp ?_
  · rintro r m (⟨-, rfl, -⟩ | ⟨-, -, rfl, -⟩ | ⟨-, -, -, -, -, -, rfl⟩)
    · exact xOk4
    · exact xOk5
    · trivial
  · rintro v m c' ⟨rfl, r, hr, rfl⟩
    rcases hr with ⟨-, rfl, rfl⟩ | ⟨z, -⟩ | ⟨z, -⟩
    · exact ⟨rfl, rfl, rfl⟩
    · exact absurd z.1 ha
    · exact absurd z.1 ha
theorem c_stable {a x y z : Int} (q : IQ j l c n e g h t M) (ha : 0 ≤ a ∧ a < n.1) (hx : R32 x) (hy : R32 y) (hz : R32 z) : LPo (d + 1) cW_done [oH, .inl 17, .inl a, .inl x, .inl y, .inl z] M C (fun v m9 c' => c' = C ∧ IQ j l c n e g h t m9 ∧ ((¬ ratesOk n.1 n.2.2.2 ∧ v = -1000004) ∨ (ratesOk n.1 n.2.2.2 ∧ ((v = 1 ∧ rtQ n.1 n.2.1 n.2.2.1 n.2.2.2 a.toNat < ((n.2.2.1 a.toNat : Int) : Rat)) ∨ (v = 0 ∧ ¬ rtQ n.1 n.2.1 n.2.2.1 n.2.2.2 a.toNat < ((n.2.2.1 a.toNat : Int) : Rat)))))) := by
  have h4 := q.nt.1.1
  refine (dnZ (a := a) (b := x) (c := y) (e := z) (M := M) (C := C) (d := d) ⟨⟨by omega, by omega⟩, hx⟩ ⟨hy, hz⟩ (s_QisStable (d := 7) q.nt.2 q.nt.1 (i := a) ⟨by omega, by omega⟩) ?_).imp ?_
  · rintro r m (⟨-, rfl, -⟩ | ⟨-, -, rfl, -⟩ | ⟨-, -, -, -, ⟨rfl, -⟩ | ⟨rfl, -⟩⟩)
    · exact ⟨xOk4, Or.inr (Or.inr ⟨_, rfl⟩)⟩
    · exact ⟨xOk5, Or.inr (Or.inr ⟨_, rfl⟩)⟩
    · exact ⟨trivial, Or.inr (Or.inl rfl)⟩
    · exact ⟨trivial, Or.inl rfl⟩
  · rintro v m c' ⟨rfl, r, hr, rfl⟩
    rcases hr with ⟨z, -⟩ | ⟨-, z, rfl, f⟩ | ⟨-, z, f, hN, ⟨rfl, hv⟩ | ⟨rfl, hv⟩⟩
    · exact absurd ⟨ha, ha⟩ z
    · exact ⟨rfl, q.off f (by decide), Or.inl ⟨z, rfl⟩⟩
    · exact ⟨rfl, q.netO f (by decide) ⟨q.nt.1, hN⟩, Or.inr ⟨z, Or.inl ⟨rfl, hv⟩⟩⟩
    · exact ⟨rfl, q.netO f (by decide) ⟨q.nt.1, hN⟩, Or.inr ⟨z, Or.inr ⟨rfl, hv⟩⟩⟩
theorem c_numbers {a b y z : Int} (q : IQ j l c n e g h t M) (ha : 0 ≤ a ∧ a < n.1) (hb : -1 ≤ b ∧ b ≤ 9) (hy : R32 y) (hz : R32 z) : LPo (d + 1) cW_done [oH, .inl 18, .inl a, .inl b, .inl y, .inl z] M C (fun v m9 c' => c' = C ∧ IQ j l c n e g h t m9 ∧ ((¬ nbOk n.1 n.2.1 n.2.2.1 n.2.2.2 a.toNat ∧ v = -1000004) ∨ (nbOk n.1 n.2.1 n.2.2.1 n.2.2.2 a.toNat ∧ CF m9 (nmQ (ldQ n.1 n.2.1 n.2.2.1 n.2.2.2 a.toNat) b) ∧ v = (nmQ (ldQ n.1 n.2.1 n.2.2.1 n.2.2.2 a.toNat) b).num.sign))) := by
  have h4 := q.nt.1.1
  refine (dn (w := 18) (a := a) (b := b) (c := y) (e := z) (M := M) (C := C) (d := d) ⟨⟨by omega, by omega⟩, by omega⟩ ⟨⟨by omega, by omega⟩, by omega, by omega⟩ ⟨hy, hz⟩ (s_Qnumbers (d := 4) q.nt.2 q.nt.1 q.az ⟨by omega, by omega⟩ ⟨by omega, by omega⟩) ?_).imp ?_
  · rintro r m (⟨-, rfl, -⟩ | ⟨-, -, rfl, -⟩ | ⟨-, -, -, rfl, -⟩ | ⟨-, -, -, -, -, -, -, rfl⟩)
    · exact xOk4
    · exact xOk2
    · exact xOk5
    · trivial
  · rintro v m c' ⟨rfl, r, hr, rfl⟩
    rcases hr with ⟨z, -⟩ | ⟨-, z, -⟩ | ⟨-, -, z, rfl, f, hN⟩ | ⟨-, -, z, f, hN, hz9, hc, rfl⟩
    · exact absurd ⟨ha, ha⟩ z
    · exact absurd hb z
    · exact ⟨rfl, q.netO f (by decide) ⟨q.nt.1, hN⟩, Or.inl ⟨z, rfl⟩⟩
    · exact ⟨rfl, q.net f (by decide) ⟨_, hc⟩ hz9 ⟨q.nt.1, hN⟩, Or.inr ⟨z, hc, rfl⟩⟩
theorem c_numbersNo {a b y z : Int} (q : IQ j l c n e g h t M) (ha : 0 ≤ a ∧ a < n.1) (hb : ¬ (-1 ≤ b ∧ b ≤ 9)) (h1 : R32 b) (hy : R32 y) (hz : R32 z) : LPo (d + 1) cW_done [oH, .inl 18, .inl a, .inl b, .inl y, .inl z] M C (fun v m9 c' => c' = C ∧ v = -1000002 ∧ m9 = M) := by
  have h4 := q.nt.1.1
  refine (dn (w := 18) (a := a) (b := b) (c := y) (e := z) (M := M) (C := C) (d := d) ⟨⟨by omega, by omega⟩, by omega⟩ ⟨⟨by omega, by omega⟩, h1⟩ ⟨hy, hz⟩ (s_Qnumbers (d := 4) q.nt.2 q.nt.1 q.az ⟨by omega, by omega⟩ h1) ?_).imp ?_
  · rintro r m (⟨-, rfl, -⟩ | ⟨-, -, rfl, -⟩ | ⟨-, -, -, rfl, -⟩ | ⟨-, -, -, -, -, -, -, rfl⟩)
    · exact xOk4
    · exact xOk2
    · exact xOk5
    · trivial
  · rintro v m c' ⟨rfl, r, hr, rfl⟩
    rcases hr with ⟨z, -⟩ | ⟨-, -, rfl, rfl⟩ | ⟨-, z, -⟩ | ⟨-, z, -⟩
    · exact absurd ⟨ha, ha⟩ z
    · exact ⟨rfl, rfl, rfl⟩
    · exact absurd z hb
    · exact absurd z hb
theorem c_growth {a x y z : Int} (q : IQ j l c n e g h t M) (ha : 0 ≤ a ∧ a < n.1) (hx : R32 x) (hy : R32 y) (hz : R32 z) : LPo (d + 1) cW_done [oH, .inl 19, .inl a, .inl x, .inl y, .inl z] M C (fun v m9 c' => c' = C ∧ IQ j l c n e g h t m9 ∧ ((¬ ratesOk n.1 n.2.2.2 ∧ v = -1000004) ∨ (ratesOk n.1 n.2.2.2 ∧ ∃ w, grQ n.1 n.2.1 n.2.2.1 n.2.2.2 a.toNat w ∧ CF m9 w ∧ v = w.num.sign))) := by
  have h4 := q.nt.1.1
  refine (dn (w := 19) (a := a) (b := x) (c := y) (e := z) (M := M) (C := C) (d := d) ⟨⟨by omega, by omega⟩, by omega⟩ ⟨⟨by omega, by omega⟩, hx⟩ ⟨hy, hz⟩ (s_Qgrowth (d := 6) q.nt.2 q.nt.1 q.az ⟨by omega, by omega⟩) ?_).imp ?_
  · rintro r m (⟨-, rfl, -⟩ | ⟨-, -, rfl, -⟩ | ⟨-, -, -, -, -, w, -, -, rfl⟩)
    · exact xOk4
    · exact xOk5
    · trivial
  · rintro v m c' ⟨rfl, r, hr, rfl⟩
    rcases hr with ⟨z, -⟩ | ⟨-, z, rfl, f⟩ | ⟨-, z, f, hN, hz9, w, hw, hc, rfl⟩
    · exact absurd ⟨ha, ha⟩ z
    · exact ⟨rfl, q.off f (by decide), Or.inl ⟨z, rfl⟩⟩
    · exact ⟨rfl, q.net f (by decide) ⟨_, hc⟩ hz9 ⟨q.nt.1, hN⟩, Or.inr ⟨z, w, hw, hc, rfl⟩⟩
theorem c_closed {a b y z : Int} (q : IQ j l c n e g h t M) (ha : 1 ≤ a ∧ a ≤ 3) (hb : 0 ≤ b ∧ b < n.1) (hy : R32 y) (hz : R32 z) : LPo (d + 1) cW_done [oH, .inl 20, .inl a, .inl b, .inl y, .inl z] M C (fun v m9 c' => c' = C ∧ IQ j l c n e g h t m9 ∧ ((¬ closedOk n.1 n.2.1 n.2.2.2 ∧ v = -1000003) ∨ (closedOk n.1 n.2.1 n.2.2.2 ∧ CF m9 (clQ n.1 n.2.2.1 n.2.2.2 a.toNat b.toNat) ∧ v = (clQ n.1 n.2.2.1 n.2.2.2 a.toNat b.toNat).num.sign))) := by
  have h4 := q.nt.1.1
  refine (dn (w := 20) (a := a) (b := b) (c := y) (e := z) (M := M) (C := C) (d := d) ⟨⟨by omega, by omega⟩, by omega⟩ ⟨⟨by omega, by omega⟩, by omega, by omega⟩ ⟨hy, hz⟩ (s_Qclosed (d := 4) q.nt.2 q.nt.1 q.az ⟨by omega, by omega⟩ ⟨by omega, by omega⟩) ?_).imp ?_
  · rintro r m (⟨-, rfl, -⟩ | ⟨-, -, rfl, -⟩ | ⟨-, -, -, rfl, -⟩ | ⟨-, -, -, -, -, -, -, rfl⟩)
    · exact xOk4
    · exact xOk2
    · exact xOk3
    · trivial
  · rintro v m c' ⟨rfl, r, hr, rfl⟩
    rcases hr with ⟨z, -⟩ | ⟨-, z, -⟩ | ⟨-, -, z, rfl, f⟩ | ⟨-, -, z, f, hN, hz9, hc, rfl⟩
    · exact absurd ⟨hb, hb⟩ z
    · exact absurd ha z
    · exact ⟨rfl, q.off f (by decide), Or.inl ⟨z, rfl⟩⟩
    · exact ⟨rfl, q.net f (by decide) ⟨_, hc⟩ hz9 ⟨q.nt.1, hN⟩, Or.inr ⟨z, hc, rfl⟩⟩
theorem c_closedNo {a b y z : Int} (q : IQ j l c n e g h t M) (ha : ¬ (1 ≤ a ∧ a ≤ 3)) (h1 : R32 a) (hb : 0 ≤ b ∧ b < n.1) (hy : R32 y) (hz : R32 z) : LPo (d + 1) cW_done [oH, .inl 20, .inl a, .inl b, .inl y, .inl z] M C (fun v m9 c' => c' = C ∧ v = -1000002 ∧ m9 = M) := by
  have h4 := q.nt.1.1
  refine (dn (w := 20) (a := a) (b := b) (c := y) (e := z) (M := M) (C := C) (d := d) ⟨⟨by omega, by omega⟩, by omega⟩ ⟨h1, by omega, by omega⟩ ⟨hy, hz⟩ (s_Qclosed (d := 4) q.nt.2 q.nt.1 q.az h1 ⟨by omega, by omega⟩) ?_).imp ?_
  · rintro r m (⟨-, rfl, -⟩ | ⟨-, -, rfl, -⟩ | ⟨-, -, -, rfl, -⟩ | ⟨-, -, -, -, -, -, -, rfl⟩)
    · exact xOk4
    · exact xOk2
    · exact xOk3
    · trivial
  · rintro v m c' ⟨rfl, r, hr, rfl⟩
    rcases hr with ⟨z, -⟩ | ⟨-, -, rfl, rfl⟩ | ⟨-, z, -⟩ | ⟨-, z, -⟩
    · exact absurd ⟨hb, hb⟩ z
    · exact ⟨rfl, rfl, rfl⟩
    · exact absurd z ha
    · exact absurd z ha
theorem IQ.env (q : IQ j l c n e g h t M) (f : Fr [143] M M') {e' : StE} (hE : qE e' M') : IQ j l c n e' g h t M' :=
  have h1 : nin [143] (List.range 54) = true := by decide
  ⟨let ⟨x, hx⟩ := q.cf; ⟨x, hx.off f h1⟩, q.az.off f h1, q.tp.fr f (by decide), q.jb.fr f (by decide), q.ln.fr f (by decide), q.ch.fr f (by decide), q.nt.fr f (by decide), hE, q.gm.fr f (by decide)⟩
theorem c_envelope {a b x z : Int} (q : IQ j l c n e g h t M) (ha : envOk a b x) (hz : R32 z) : LPo (d + 1) cW_done [oH, .inl 21, .inl a, .inl b, .inl x, .inl z] M C (fun v m9 c' => c' = C ∧ (0 ≤ v ∧ v ≤ 4) ∧ ∀ L B P, IQ j l c n (a, b, x, 0, L, B, P) g h t m9) := by
  have hr := ha
  unfold envOk at hr
  refine (dn (w := 21) (a := a) (b := b) (c := x) (e := z) (M := M) (C := C) (d := d) ⟨⟨by omega, by omega⟩, by omega⟩ ⟨⟨by omega, by omega⟩, by omega, by omega⟩ ⟨⟨by omega, by omega⟩, hz⟩ (s_Qenvelope (d := 10) ⟨by omega, by omega⟩ ⟨by omega, by omega⟩ ⟨by omega, by omega⟩) ?_).imp ?_
  · rintro r m (⟨-, rfl, -⟩ | ⟨-, rfl, -⟩)
    · exact xOk2
    · trivial
  · rintro v m c' ⟨rfl, r, hr9, rfl⟩
    rcases hr9 with ⟨z, -⟩ | ⟨-, rfl, f, hE⟩
    · exact absurd ha z
    · refine ⟨rfl, ?_, fun L B P => q.env f ⟨⟨hr.1, hr.2.1, ⟨hr.2.2.1, hr.2.2.2⟩, Nat.zero_le _, fun i hi => absurd hi (Nat.not_lt_zero i)⟩, hE L B P⟩⟩
      show 0 ≤ M 143 3 ∧ M 143 3 ≤ 4
      rw [q.ev.2.2.2.2.1]
      have := q.ev.1.2.2.2.1
      exact ⟨Int.natCast_nonneg _, by omega⟩
theorem c_server {a b x z : Int} (q : IQ j l c n e g h t M) (ha : srvOk a b x) (h4 : e.2.2.2.1 < 4) (hz : R32 z) : LPo (d + 1) cW_done [oH, .inl 22, .inl a, .inl b, .inl x, .inl z] M C (fun v m9 c' => c' = C ∧ v = ((e.2.2.2.1 + 1 : Nat) : Int) ∧ IQ j l c n (e.1, e.2.1, e.2.2.1, e.2.2.2.1 + 1, sr e.2.2.2.2.1 e.2.2.2.1 a, sr e.2.2.2.2.2.1 e.2.2.2.1 b, sr e.2.2.2.2.2.2 e.2.2.2.1 x) g h t m9) := by
  have hr := ha
  unfold srvOk at hr
  refine (dn (w := 22) (a := a) (b := b) (c := x) (e := z) (M := M) (C := C) (d := d) ⟨⟨by omega, by omega⟩, by omega⟩ ⟨⟨by omega, by omega⟩, by omega, by omega⟩ ⟨⟨by omega, by omega⟩, hz⟩ (s_Qserver (d := 10) q.ev.2 q.ev.1 ⟨by omega, by omega⟩ ⟨by omega, by omega⟩ ⟨by omega, by omega⟩) ?_).imp ?_
  · rintro r m (⟨-, rfl, -⟩ | ⟨-, -, rfl, -⟩ | ⟨-, -, rfl, -⟩)
    · exact xOk2
    · exact xOk3
    · trivial
  · rintro v m c' ⟨rfl, r, hr9, rfl⟩
    rcases hr9 with ⟨z, -⟩ | ⟨-, z, -⟩ | ⟨-, -, rfl, f, hE⟩
    · exact absurd ha z
    · exact absurd h4 (by omega)
    · obtain ⟨e1, e2, e3, e4, e5⟩ := q.ev.1
      refine ⟨rfl, rfl, q.env f ⟨⟨e1, e2, e3, by show e.2.2.2.1 + 1 ≤ 4; omega, fun i hi => ?_⟩, hE⟩⟩
      have hi : i < e.2.2.2.1 + 1 := hi
      show (0 ≤ sr e.2.2.2.2.1 e.2.2.2.1 a i ∧ sr e.2.2.2.2.1 e.2.2.2.1 a i ≤ 99) ∧ (1 ≤ sr e.2.2.2.2.2.1 e.2.2.2.1 b i ∧ sr e.2.2.2.2.2.1 e.2.2.2.1 b i ≤ 99) ∧ 1 ≤ sr e.2.2.2.2.2.2 e.2.2.2.1 x i ∧ sr e.2.2.2.2.2.2 e.2.2.2.1 x i ≤ 99
      by_cases z : i = e.2.2.2.1
      · subst z
        rw [sr_same, sr_same, sr_same]
        exact hr
      · rw [sr_ne z, sr_ne z, sr_ne z]
        exact e5 i (by omega)
theorem c_bound {a x y z : Int} (q : IQ j l c n e g h t M) (ha : R32 a) (hx : R32 x) (hy : R32 y) (hz : R32 z) : LPo (d + 1) cW_done [oH, .inl 23, .inl a, .inl x, .inl y, .inl z] M C (fun v m9 c' => c' = C ∧ IQ j l c n e g h t m9 ∧ ((¬ eBd e.2.1 e.2.2.1 e.2.2.2.1 e.2.2.2.2.2.1 e.2.2.2.2.2.2 ∧ v = -1000004) ∨ (eBd e.2.1 e.2.2.1 e.2.2.2.1 e.2.2.2.2.2.1 e.2.2.2.2.2.2 ∧ CF m9 (eBound (if a = 1 then 1 else 0) e.1 e.2.1 e.2.2.1 e.2.2.2.1 e.2.2.2.2.1 e.2.2.2.2.2.1 e.2.2.2.2.2.2) ∧ v = (eBound (if a = 1 then 1 else 0) e.1 e.2.1 e.2.2.1 e.2.2.2.1 e.2.2.2.2.1 e.2.2.2.2.2.1 e.2.2.2.2.2.2).num.sign))) := by
  obtain ⟨q0, hq0⟩ := q.cf
  have hp : b01 (decide (a = 1)) = .inl (if a = 1 then 1 else 0) := by
    by_cases z : a = 1
    · rw [if_pos z, decide_eq_true z]; rfl
    · rw [if_neg z, decide_eq_false z]; rfl
  refine (dn (w := 23) (a := a) (b := x) (c := y) (e := z) (M := M) (C := C) (d := d) (P := fun r M' => (¬ eBd e.2.1 e.2.2.1 e.2.2.2.1 e.2.2.2.2.2.1 e.2.2.2.2.2.2 ∧ r = .inr 5 ∧ M' = M) ∨ (eBd e.2.1 e.2.2.1 e.2.2.2.1 e.2.2.2.2.2.1 e.2.2.2.2.2.2 ∧ Fr [0, 1, 2, 3] M M' ∧ CF M' (eBound (if a = 1 then 1 else 0) e.1 e.2.1 e.2.2.1 e.2.2.2.1 e.2.2.2.2.1 e.2.2.2.2.2.1 e.2.2.2.2.2.2) ∧ r = .inl (eBound (if a = 1 then 1 else 0) e.1 e.2.1 e.2.2.1 e.2.2.2.1 e.2.2.2.2.1 e.2.2.2.2.2.1 e.2.2.2.2.2.2).num.sign)) ⟨⟨by omega, by omega⟩, by omega⟩ ⟨ha, hx⟩ ⟨hy, hz⟩ ?_ ?_).imp ?_
  · show PostE 12 cQ_bound [oQ, b01 (decide (a = 1))] M _
    rw [hp]
    exact s_Qbound (d := 7) q.ev.2 q.ev.1 (by split <;> exact ⟨by omega, by omega⟩) hq0
  · rintro r m (⟨-, rfl, -⟩ | ⟨-, -, -, rfl⟩)
    · exact xOk5
    · trivial
  · rintro v m c' ⟨rfl, r, hr9, rfl⟩
    rcases hr9 with ⟨z, rfl, rfl⟩ | ⟨z, f, hc, rfl⟩
    · exact ⟨rfl, q, Or.inl ⟨z, rfl⟩⟩
    · exact ⟨rfl, q.res f hc (by decide) (by decide), Or.inr ⟨z, hc, rfl⟩⟩
theorem d_fits (q : IQ j l c n e g h t M) : Post 12 cQ_fits [oQ] M (fun v m => m = M ∧ ((v = 1 ∧ fitOk j.1 j.2 e.1 e.2.1 e.2.2.1) ∨ (v = 0 ∧ ¬ fitOk j.1 j.2 e.1 e.2.1 e.2.2.1))) := by
  obtain ⟨hV, hn, hJ, hH, hh⟩ := q.jb
  exact s_Qfits (d := 9) q.ev.2 q.ev.1 hV hJ hn
theorem IQ.game (q : IQ j l c n e g h t M) (f : Fr [144, 145] M M') {g' : StG} (hG : qG g' M') : IQ j l c n e g' h t M' :=
  have h1 : nin [144, 145] (List.range 54) = true := by decide
  ⟨let ⟨x, hx⟩ := q.cf; ⟨x, hx.off f h1⟩, q.az.off f h1, q.tp.fr f (by decide), q.jb.fr f (by decide), q.ln.fr f (by decide), q.ch.fr f (by decide), q.nt.fr f (by decide), q.ev.fr f (by decide), hG⟩
theorem c_option {a b x z : Int} (q : IQ j l c n e g h t M) (ha : optOk a b x) (hz : R32 z) : LPo (d + 1) cW_done [oH, .inl 24, .inl a, .inl b, .inl x, .inl z] M C (fun v m9 c' => c' = C ∧ v = g.1 a.toNat ∧ IQ j l c n e (sr g.1 a.toNat b, sr g.2 a.toNat x) h t m9) := by
  have hr := ha
  unfold optOk at hr
  refine (dn (w := 24) (a := a) (b := b) (c := x) (e := z) (M := M) (C := C) (d := d) ⟨⟨by omega, by omega⟩, by omega⟩ ⟨⟨by omega, by omega⟩, by omega, by omega⟩ ⟨⟨by omega, by omega⟩, hz⟩ (s_Qoption (d := 11) ⟨by omega, by omega⟩ ⟨by omega, by omega⟩ ⟨by omega, by omega⟩) ?_).imp ?_
  · rintro r m (⟨-, rfl, -⟩ | ⟨-, rfl, -⟩)
    · exact xOk2
    · trivial
  · rintro v m c' ⟨rfl, r, hr9, rfl⟩
    rcases hr9 with ⟨z, -⟩ | ⟨-, rfl, rfl⟩
    · exact absurd ha z
    · obtain ⟨g1, g2, g3⟩ := q.gm
      refine ⟨rfl, by show M 144 a.toNat = _; rw [g2], q.game (Fr.u2 (Fr.u2 Fr.rfl' (by decide)) (by decide)) ⟨fun i hi => ?_, ?_, ?_⟩⟩
      · show (0 ≤ sr g.1 a.toNat b i ∧ sr g.1 a.toNat b i ≤ 999) ∧ 0 ≤ sr g.2 a.toNat x i ∧ sr g.2 a.toNat x i ≤ 99
        by_cases z : i = a.toNat
        · subst z
          rw [sr_same, sr_same]
          exact hr.2
        · rw [sr_ne z, sr_ne z]
          exact g1 i hi
      · rw [u2_off (by decide), ← g2]
        exact u2_row
      · rw [← g3]
        exact u2_row.trans (by rw [u2_off (by decide)])
theorem c_optionNo {a b x z : Int} (ha : ¬ optOk a b x) (h1 : R32 a) (h2 : R32 b) (h3 : R32 x) (hz : R32 z) : LPo (d + 1) cW_done [oH, .inl 24, .inl a, .inl b, .inl x, .inl z] M C (fun v m9 c' => c' = C ∧ v = -1000002 ∧ m9 = M) := by
  refine (dn (w := 24) (a := a) (b := b) (c := x) (e := z) (M := M) (C := C) (d := d) ⟨⟨by omega, by omega⟩, by omega⟩ ⟨h1, h2⟩ ⟨h3, hz⟩ (s_Qoption (d := 11) h1 h2 h3) ?_).imp ?_
  · rintro r m (⟨-, rfl, -⟩ | ⟨-, rfl, -⟩)
    · exact xOk2
    · trivial
  · rintro v m c' ⟨rfl, r, hr9, rfl⟩
    rcases hr9 with ⟨-, rfl, rfl⟩ | ⟨z, -⟩
    · exact ⟨rfl, rfl, rfl⟩
    · exact absurd z ha
theorem b01_eq {a : Int} : b01 (decide (a = 1)) = .inl (if a = 1 then 1 else 0) := by
  by_cases z : a = 1
  · rw [if_pos z, decide_eq_true z]; rfl
  · rw [if_neg z, decide_eq_false z]; rfl
theorem c_split {a b x z : Int} (q : IQ j l c n e g h t M) (ha : spOk a b) (hx : R32 x) (hz : R32 z) : LPo (d + 1) cW_done [oH, .inl 25, .inl a, .inl b, .inl x, .inl z] M C (fun v m9 c' => c' = C ∧ IQ j l c n e g h t m9 ∧ v = gCh g.1 g.2 (if x = 1 then 1 else 0) a.toNat b.toNat) := by
  have hr := ha
  unfold spOk at hr
  refine (dn (w := 25) (a := a) (b := b) (c := x) (e := z) (M := M) (C := C) (d := d) (P := fun r M' => Fr [146] M M' ∧ ((¬ spOk a b ∧ r = .inr 2) ∨ (spOk a b ∧ r = .inl (gCh g.1 g.2 (if x = 1 then 1 else 0) a.toNat b.toNat)))) ⟨⟨by omega, by omega⟩, by omega⟩ ⟨⟨by omega, by omega⟩, by omega, by omega⟩ ⟨hx, hz⟩ ?_ ?_).imp ?_
  · show PostE 12 cQ_split [oQ, .inl a, .inl b, b01 (decide (x = 1))] M _
    rw [b01_eq]
    exact s_Qsplit (d := 8) q.gm.1 q.gm.2.1 q.gm.2.2 ⟨by omega, by omega⟩ ⟨by omega, by omega⟩ (by split <;> exact ⟨by omega, by omega⟩)
  · rintro r m ⟨-, ⟨-, rfl⟩ | ⟨-, rfl⟩⟩
    · exact xOk2
    · trivial
  · rintro v m c' ⟨rfl, r, ⟨f, hr9⟩, rfl⟩
    rcases hr9 with ⟨z, -⟩ | ⟨-, rfl⟩
    · exact absurd ha z
    · exact ⟨rfl, q.off f (by decide), rfl⟩
theorem c_splitNo {a b x z : Int} (q : IQ j l c n e g h t M) (ha : ¬ spOk a b) (h1 : R32 a) (h2 : R32 b) (hx : R32 x) (hz : R32 z) : LPo (d + 1) cW_done [oH, .inl 25, .inl a, .inl b, .inl x, .inl z] M C (fun v m9 c' => c' = C ∧ IQ j l c n e g h t m9 ∧ v = -1000002) := by
  refine (dn (w := 25) (a := a) (b := b) (c := x) (e := z) (M := M) (C := C) (d := d) (P := fun r M' => Fr [146] M M' ∧ ((¬ spOk a b ∧ r = .inr 2) ∨ (spOk a b ∧ r = .inl (gCh g.1 g.2 (if x = 1 then 1 else 0) a.toNat b.toNat)))) ⟨⟨by omega, by omega⟩, by omega⟩ ⟨h1, h2⟩ ⟨hx, hz⟩ ?_ ?_).imp ?_
  · show PostE 12 cQ_split [oQ, .inl a, .inl b, b01 (decide (x = 1))] M _
    rw [b01_eq]
    exact s_Qsplit (d := 8) q.gm.1 q.gm.2.1 q.gm.2.2 h1 h2 (by split <;> exact ⟨by omega, by omega⟩)
  · rintro r m ⟨-, ⟨-, rfl⟩ | ⟨-, rfl⟩⟩
    · exact xOk2
    · trivial
  · rintro v m c' ⟨rfl, r, ⟨f, hr9⟩, rfl⟩
    rcases hr9 with ⟨-, rfl⟩ | ⟨z, -⟩
    · exact ⟨rfl, q.off f (by decide), rfl⟩
    · exact absurd z ha
theorem c_price {a x y z : Int} (q : IQ j l c n e g h t M) (ha : 1 ≤ a ∧ a ≤ 30) (hx : R32 x) (hy : R32 y) (hz : R32 z) : LPo (d + 1) cW_done [oH, .inl 26, .inl a, .inl x, .inl y, .inl z] M C (fun v m9 c' => c' = C ∧ IQ j l c n e g h t m9 ∧ CF m9 (gPrice g.1 g.2 a.toNat) ∧ v = (gPrice g.1 g.2 a.toNat).num.sign) := by
  obtain ⟨q0, hq0⟩ := q.cf
  refine (dn (w := 26) (a := a) (b := x) (c := y) (e := z) (M := M) (C := C) (d := d) ⟨⟨by omega, by omega⟩, by omega⟩ ⟨⟨by omega, by omega⟩, hx⟩ ⟨hy, hz⟩ (s_Qprice (d := 8) q.gm.1 q.gm.2.1 q.gm.2.2 ⟨by omega, by omega⟩ hq0) ?_).imp ?_
  · rintro r m (⟨-, rfl, -⟩ | ⟨-, -, -, rfl⟩)
    · exact xOk2
    · trivial
  · rintro v m c' ⟨rfl, r, hr9, rfl⟩
    rcases hr9 with ⟨z, -⟩ | ⟨-, f, hc, rfl⟩
    · exact absurd ha z
    · exact ⟨rfl, q.res f hc (by decide) (by decide), hc, rfl⟩
end QC3
