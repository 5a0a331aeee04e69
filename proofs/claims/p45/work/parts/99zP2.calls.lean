/-! The class's calls by values, as the law makes them. -/
theorem LPo.imp {d y : Nat} {a : List PV} {M : Mem} {C : LMem} {P P' : Int → Mem → LMem → Prop} (h : LPo d y a M C P) (hp : ∀ v m c, P v m c → P' v m c) : LPo d y a M C P' := fun Q hQ => h Q fun v m c hv => hQ v m c (hp v m c hv)
theorem xOk2 : xOk (.inr 2) := ⟨by omega, by omega⟩
theorem xOk3 : xOk (.inr 3) := ⟨by omega, by omega⟩
theorem xOk4 : xOk (.inr 4) := ⟨by omega, by omega⟩
theorem xOk5 : xOk (.inr 5) := ⟨by omega, by omega⟩
theorem PT_ex {n : Nat} {J : Nat → Int} {many by_ space wait : Int} (hV : VJ n J) (hm : 1 ≤ many) : ∃ T, PT n J many by_ space wait T := by
  have key : ∀ N, (∃ T, PT n J many by_ space wait T) ∨ ∀ s, s < N → sOn n (sAt n J many by_ space wait s) := by
    intro N
    induction N with
    | zero => exact Or.inr fun s hs => absurd hs (Nat.not_lt_zero s)
    | succ N ih =>
      rcases ih with h | h
      · exact Or.inl h
      · by_cases q : sOn n (sAt n J many by_ space wait N)
        · refine Or.inr fun s hs => ?_
          by_cases e : s = N
          · rw [e]; exact q
          · exact h s (by omega)
        · exact Or.inl ⟨N, h, q⟩
  rcases key 1462 with h | h
  · exact h
  · have := on_bound hV hm (t := 1461) fun s hs => h s (by omega)
    omega
section QC
variable {j : StJ} {l : StL} {c : StC} {n : StN} {e : StE} {g : StG} {h : StH} {t : StT} {M M' : Mem} {C : LMem} {d : Nat} {k : List Nat}
theorem IQ.jobs (q : IQ j l c n e g h t M) (f : Fr k M M') (hk : nin k (List.range 54 ++ ([54] ++ qlC ++ qlN ++ qlE ++ qlG)) = true) (hp : NoPlay M') {j' : StJ} {h' : StH} {t' : StT} (hT : qT t' M') (hJ : qJ j' h' M') : IQ j' l c n e g h' t' M' := by
  have h1 : nin k (List.range 54) = true := nin_s hk fun a ha => List.mem_append_left _ ha
  have h2 : nin k ([54] ++ qlC ++ qlN ++ qlE ++ qlG) = true := nin_s hk fun a ha => List.mem_append_right _ ha
  obtain ⟨⟨g1, g2, g3, g4, g5, -⟩, -⟩ := q.ln
  have k54 : M' 54 = M 54 := f.at9 (k := [54]) (nin_s h2 (by decide)) (by decide)
  exact ⟨let ⟨x, hx⟩ := q.cf; ⟨x, hx.off f h1⟩, q.az.off f h1, hT, hJ, ⟨⟨by rw [k54]; exact g1, by rw [k54]; exact g2, by rw [k54]; exact g3, by rw [k54]; exact g4, g5, Or.inl hp.1⟩, fun r hr => Or.inl (hp.2 r hr), fun z => absurd (hp.2 0 (by decide)) z⟩, q.ch.fr f (nin_s h2 (by decide)), q.nt.fr f (nin_s h2 (by decide)), q.ev.fr f (nin_s h2 (by decide)), q.gm.fr f (nin_s h2 (by decide))⟩
theorem IQ.line (q : IQ j l c n e g h t M) (f : Fr k M M') (hk : nin k (qlT ++ qlJ ++ qlC ++ qlN ++ qlE ++ qlG) = true) (hc : ∃ x, CF M' x) (hz : AZ M') {l' : StL} (hL : qL j l' M') : IQ j l' c n e g h t M' :=
  ⟨hc, hz, q.tp.fr f (nin_s hk (by decide)), q.jb.fr f (nin_s hk (by decide)), hL, q.ch.fr f (nin_s hk (by decide)), q.nt.fr f (nin_s hk (by decide)), q.ev.fr f (nin_s hk (by decide)), q.gm.fr f (nin_s hk (by decide))⟩
theorem IQ.lineO (q : IQ j l c n e g h t M) (f : Fr k M M') (hk : nin k (List.range 54 ++ (qlT ++ qlJ ++ qlC ++ qlN ++ qlE ++ qlG)) = true) {l' : StL} (hL : qL j l' M') : IQ j l' c n e g h t M' :=
  have h1 : nin k (List.range 54) = true := nin_s hk fun a ha => List.mem_append_left _ ha
  q.line f (nin_s hk fun a ha => List.mem_append_right _ ha) (let ⟨x, hx⟩ := q.cf; ⟨x, hx.off f h1⟩) (q.az.off f h1) hL
theorem IQ.lf (q : IQ j l c n e g h t M) (hl : lineFr M M' j.1 j.2 l.1 l.2.1 l.2.2.1 l.2.2.2) : IQ j l c n e g h t M' :=
  q.lineO hl.1 (by decide) ⟨hl.2.2, q.ln.2.kept hl.1 (by decide) (hl.2.1 6 (by decide))⟩
theorem IQ.jobR (q : IQ j l c n e g h t M) : VJ j.1 j.2 := q.jb.1
theorem IQ.many1 (q : IQ j l c n e g h t M) : 1 ≤ l.1 := by
  have := q.ln.1.2.2.2.2.1
  unfold lineOk at this
  exact this.1.1
theorem IQ.res {x : Rat} (q : IQ j l c n e g h t M) (f : Fr k M M') (hc : CF M' x) (hk : nin k (qlT ++ qlJ ++ qlL ++ qlC ++ qlN ++ qlE ++ qlG) = true) (hb : ∀ r, r < 54 → r % 2 = 0 → r + 1 ∈ k → r = 0 ∨ r = 2) : IQ j l c n e g h t M' := q.fr f hk (q.az.res f hc hb) ⟨x, hc⟩
theorem IQ.ofz {x : Rat} (q : IQ j l c n e g h t M) (f : Fr k M M') (hc : CF M' x) (hz : AZ M') (hk : nin k (qlT ++ qlJ ++ qlL ++ qlC ++ qlN ++ qlE ++ qlG) = true) : IQ j l c n e g h t M' := q.fr f hk hz ⟨x, hc⟩
theorem IQ.offz (q : IQ j l c n e g h t M) (f : Fr k M M') (hz : AZ M') (hk : nin k ([0, 1, 2, 3] ++ (qlT ++ qlJ ++ qlL ++ qlC ++ qlN ++ qlE ++ qlG)) = true) : IQ j l c n e g h t M' := q.fr f (nin_s hk fun a ha => List.mem_append_right _ ha) hz (let ⟨x, hx⟩ := q.cf; ⟨x, hx.kept f (nin_out hk _ (by decide)) (nin_out hk _ (by decide)) (nin_out hk _ (by decide)) (nin_out hk _ (by decide))⟩)
theorem c_come {x y z w : Int} (q : IQ j l c n e g h t M) (hj : jobOk x y z w) (hc : comeOk j.1 j.2 x) : LPo (d + 1) cW_done [oH, .inl 0, .inl x, .inl y, .inl z, .inl w] M C (fun v m c' => c' = C ∧ v = (j.1 : Int) ∧ IQ (j.1 + 1, add4 j.2 j.1 x y z w) l c n e g (hlen h.1, hcnt h.1 h.2.1 (j.1 : Int), hcnt h.1 h.2.2 j.2) t m) := by
  have hr := hj
  unfold jobOk at hr
  obtain ⟨hV, hn, hJ, hH, hh⟩ := q.jb
  refine (dn (w := 0) (a := x) (b := y) (c := z) (e := w) (M := M) (C := C) (d := d) ⟨⟨by omega, by omega⟩, by omega⟩ ⟨⟨by omega, by omega⟩, by omega, by omega⟩ ⟨⟨by omega, by omega⟩, by omega, by omega⟩ (s_Qcome (d := 9) hH hn (by rw [hJ]; exact hV) ⟨by omega, by omega⟩ ⟨by omega, by omega⟩ ⟨by omega, by omega⟩ ⟨by omega, by omega⟩) ?_).imp ?_
  · rintro r m (⟨-, rfl, -⟩ | ⟨-, -, rfl, -⟩ | ⟨-, -, -, rfl, -⟩)
    · exact xOk2
    · exact xOk3
    · trivial
  · rintro v m c' ⟨rfl, r, hr, rfl⟩
    rcases hr with ⟨z, -⟩ | ⟨-, z, -⟩ | ⟨-, -, f, rfl, h1, h2, h3, h4, h5⟩
    · exact absurd hj z
    · exact absurd (by rw [hJ]; exact hc) z
    · rw [hJ] at h2 h5
      exact ⟨rfl, rfl, q.jobs f (by decide) h4 (q.tp.fr f (by decide)) ⟨hV.add hj hc, h1, h2, h5, vH_more hV hH.1 hh⟩⟩
theorem c_comeNo {x y z w : Int} (q : IQ j l c n e g h t M) (hj : ¬ jobOk x y z w) (h1 : R32 x) (h2 : R32 y) (h3 : R32 z) (h4 : R32 w) : LPo (d + 1) cW_done [oH, .inl 0, .inl x, .inl y, .inl z, .inl w] M C (fun v m c' => c' = C ∧ v = -1000002 ∧ m = M) := by
  obtain ⟨hV, hn, hJ, hH, hh⟩ := q.jb
  refine (dn (w := 0) (a := x) (b := y) (c := z) (e := w) (M := M) (C := C) (d := d) ⟨⟨by omega, by omega⟩, by omega⟩ ⟨h1, h2⟩ ⟨h3, h4⟩ (s_Qcome (d := 9) hH hn (by rw [hJ]; exact hV) h1 h2 h3 h4) ?_).imp ?_
  · rintro r m (⟨-, rfl, -⟩ | ⟨-, -, rfl, -⟩ | ⟨-, -, -, rfl, -⟩)
    · exact xOk2
    · exact xOk3
    · trivial
  · rintro v m c' ⟨rfl, r, hr, rfl⟩
    rcases hr with ⟨z, rfl, rfl⟩ | ⟨z, -, -⟩ | ⟨z, -, f, rfl, h1, h2, h3, h4, h5⟩
    · exact ⟨rfl, rfl, rfl⟩
    · exact absurd z hj
    · exact absurd z hj
theorem c_line {x y z w : Int} (q : IQ j l c n e g h t M) (hj : lineOk x y z w) : LPo (d + 1) cW_done [oH, .inl 1, .inl x, .inl y, .inl z, .inl w] M C (fun v m c' => c' = C ∧ v = l.2.1 ∧ IQ j (x, y, z, w) c n e g h t m) := by
  have hr := hj
  unfold lineOk at hr
  refine (dn (w := 1) (a := x) (b := y) (c := z) (e := w) (M := M) (C := C) (d := d) ⟨⟨by omega, by omega⟩, by omega⟩ ⟨⟨by omega, by omega⟩, by omega, by omega⟩ ⟨⟨by omega, by omega⟩, by omega, by omega⟩ (s_Qline (d := 10) ⟨by omega, by omega⟩ ⟨by omega, by omega⟩ ⟨by omega, by omega⟩ ⟨by omega, by omega⟩) ?_).imp ?_
  · rintro r m (⟨-, rfl, -⟩ | ⟨-, rfl, -⟩)
    · exact xOk2
    · trivial
  · rintro v m c' ⟨rfl, r, hr, rfl⟩
    rcases hr with ⟨z, -⟩ | ⟨-, rfl, f, h1, h2, h3, h4, h5, h6⟩
    · exact absurd hj z
    · exact ⟨rfl, q.ln.1.2.1, q.lineO f (by decide) ⟨⟨h1, h2, h3, h4, hj, Or.inl h5⟩, q.ln.2.kept f (by decide) (h6 6 (by decide))⟩⟩
theorem c_lineNo {x y z w : Int} (hj : ¬ lineOk x y z w) (h1 : R32 x) (h2 : R32 y) (h3 : R32 z) (h4 : R32 w) : LPo (d + 1) cW_done [oH, .inl 1, .inl x, .inl y, .inl z, .inl w] M C (fun v m c' => c' = C ∧ v = -1000002 ∧ m = M) := by
  refine (dn (w := 1) (a := x) (b := y) (c := z) (e := w) (M := M) (C := C) (d := d) ⟨⟨by omega, by omega⟩, by omega⟩ ⟨h1, h2⟩ ⟨h3, h4⟩ (s_Qline (d := 10) h1 h2 h3 h4) ?_).imp ?_
  · rintro r m (⟨-, rfl, -⟩ | ⟨-, rfl, -⟩)
    · exact xOk2
    · trivial
  · rintro v m c' ⟨rfl, r, hr, rfl⟩
    rcases hr with ⟨z, rfl, rfl⟩ | ⟨z, -⟩
    · exact ⟨rfl, rfl, rfl⟩
    · exact absurd z hj
theorem c_jobAt {a b y z : Int} (q : IQ j l c n e g h t M) (ha : 0 ≤ a ∧ a < j.1) (hb : 0 ≤ b ∧ b ≤ 7) (hy : R32 y) (hz : R32 z) : LPo (d + 1) cW_done [oH, .inl 2, .inl a, .inl b, .inl y, .inl z] M C (fun v m c' => c' = C ∧ IQ j l c n e g h t m ∧ ∀ T, PT j.1 j.2 l.1 l.2.1 l.2.2.1 l.2.2.2 T → v = jobVal j.1 j.2 l.1 l.2.1 l.2.2.1 l.2.2.2 T a.toNat b) := by
  obtain ⟨hV, hn, hJ, hH, hh⟩ := q.jb
  have h24 := hV.1
  refine (dn (w := 2) (a := a) (b := b) (c := y) (e := z) (M := M) (C := C) (d := d) ⟨⟨by omega, by omega⟩, by omega⟩ ⟨⟨by omega, by omega⟩, by omega, by omega⟩ ⟨hy, hz⟩ (s_QjobAt (d := 6) hV hn hJ q.ln.1 ⟨by omega, by omega⟩ ⟨by omega, by omega⟩) ?_).imp ?_
  · rintro r m ⟨-, ⟨-, rfl⟩ | ⟨-, -, rfl⟩ | ⟨-, -, hT⟩⟩
    · exact xOk4
    · exact xOk2
    · obtain ⟨T, hT9⟩ := PT_ex (by_ := l.2.1) (space := l.2.2.1) (wait := l.2.2.2) hV q.many1
      rw [hT T hT9]
      trivial
  · rintro v m c' ⟨rfl, r, ⟨f, hr⟩, rfl⟩
    rcases hr with ⟨z, -⟩ | ⟨-, z, -⟩ | ⟨-, -, hT⟩
    · exact absurd ha z
    · exact absurd hb z
    · exact ⟨rfl, q.lf f, fun T hT9 => by rw [hT T hT9]; rfl⟩
theorem c_jobNo {a b y z : Int} (q : IQ j l c n e g h t M) (ha : ¬ (0 ≤ a ∧ a < j.1)) (h1 : R32 a) (hb : 0 ≤ b ∧ b ≤ 7) (hy : R32 y) (hz : R32 z) : LPo (d + 1) cW_done [oH, .inl 2, .inl a, .inl b, .inl y, .inl z] M C (fun v m c' => c' = C ∧ IQ j l c n e g h t m ∧ v = -1000001) := by
  obtain ⟨hV, hn, hJ, hH, hh⟩ := q.jb
  refine (dn (w := 2) (a := a) (b := b) (c := y) (e := z) (M := M) (C := C) (d := d) ⟨⟨by omega, by omega⟩, by omega⟩ ⟨h1, by omega, by omega⟩ ⟨hy, hz⟩ (s_QjobAt (d := 6) hV hn hJ q.ln.1 h1 ⟨by omega, by omega⟩) ?_).imp ?_
  · rintro r m ⟨-, ⟨-, rfl⟩ | ⟨-, -, rfl⟩ | ⟨z, -, hT⟩⟩
    · exact xOk4
    · exact xOk2
    · exact absurd z ha
  · rintro v m c' ⟨rfl, r, ⟨f, hr⟩, rfl⟩
    rcases hr with ⟨-, rfl⟩ | ⟨z, -, -⟩ | ⟨z, -, hT⟩
    · exact ⟨rfl, q.lf f, rfl⟩
    · exact absurd z ha
    · exact absurd z ha
theorem c_mean {a x y z : Int} (q : IQ j l c n e g h t M) (ha : -1 ≤ a ∧ a ≤ 2) (hx : R32 x) (hy : R32 y) (hz : R32 z) : LPo (d + 1) cW_done [oH, .inl 3, .inl a, .inl x, .inl y, .inl z] M C (fun v m c' => c' = C ∧ IQ j l c n e g h t m ∧ ∃ T, PT j.1 j.2 l.1 l.2.1 l.2.2.1 l.2.2.2 T ∧ CF m (mtQ j.1 j.2 l.1 l.2.1 l.2.2.1 l.2.2.2 T a) ∧ v = (mtQ j.1 j.2 l.1 l.2.1 l.2.2.1 l.2.2.2 T a).num.sign) := by
  obtain ⟨hV, hn, hJ, hH, hh⟩ := q.jb
  obtain ⟨q0, hq0⟩ := q.cf
  refine (dn (w := 3) (a := a) (b := x) (c := y) (e := z) (M := M) (C := C) (d := d) ⟨⟨by omega, by omega⟩, by omega⟩ ⟨⟨by omega, by omega⟩, hx⟩ ⟨hy, hz⟩ (s_QmeanTime (d := 6) hV hn hJ q.ln.1 hq0 ⟨by omega, by omega⟩) ?_).imp ?_
  · rintro r m (⟨-, rfl, -⟩ | ⟨-, -, -, -, T, -, -, rfl⟩)
    · exact xOk2
    · trivial
  · rintro v m c' ⟨rfl, r, hr, rfl⟩
    rcases hr with ⟨z, -⟩ | ⟨-, f, f7, hl, T, hT, hc, rfl⟩
    · exact absurd ha z
    · exact ⟨rfl, q.line f (by decide) ⟨_, hc⟩ (q.az.res f hc (by decide)) ⟨hl, q.ln.2.kept f (by decide) (f7 6 (by decide))⟩, T, hT, hc, rfl⟩
theorem c_meanNo {a x y z : Int} (q : IQ j l c n e g h t M) (ha : ¬ (-1 ≤ a ∧ a ≤ 2)) (h1 : R32 a) (hx : R32 x) (hy : R32 y) (hz : R32 z) : LPo (d + 1) cW_done [oH, .inl 3, .inl a, .inl x, .inl y, .inl z] M C (fun v m c' => c' = C ∧ v = -1000002 ∧ m = M) := by
  obtain ⟨hV, hn, hJ, hH, hh⟩ := q.jb
  obtain ⟨q0, hq0⟩ := q.cf
  refine (dn (w := 3) (a := a) (b := x) (c := y) (e := z) (M := M) (C := C) (d := d) ⟨⟨by omega, by omega⟩, by omega⟩ ⟨h1, hx⟩ ⟨hy, hz⟩ (s_QmeanTime (d := 6) hV hn hJ q.ln.1 hq0 h1) ?_).imp ?_
  · rintro r m (⟨-, rfl, -⟩ | ⟨-, -, -, -, T, -, -, rfl⟩)
    · exact xOk2
    · trivial
  · rintro v m c' ⟨rfl, r, hr, rfl⟩
    rcases hr with ⟨-, rfl, rfl⟩ | ⟨z, -⟩
    · exact ⟨rfl, rfl, rfl⟩
    · exact absurd z ha
theorem d_sum0 (q : IQ j l c n e g h t M) : Post 12 cQ_sumTimes [oQ, .inl 0] M (fun v m => IQ j l c n e g h t m ∧ ∃ T, PT j.1 j.2 l.1 l.2.1 l.2.2.1 l.2.2.2 T ∧ v = pSum j.1 j.2 l.1 l.2.1 l.2.2.1 l.2.2.2 T) := by
  obtain ⟨hV, hn, hJ, hH, hh⟩ := q.jb
  refine (s_QsumTimes (d := 6) hV hn hJ q.ln.1 q.ln.2 (a := 0) ⟨by omega, by omega⟩).mono ?_
  rintro v m (⟨-, f, hT⟩ | ⟨z, -⟩)
  · exact ⟨q.lf f, hT⟩
  · exact absurd rfl z
theorem d_sum1 (q : IQ j l c n e g h t M) : Post 12 cQ_sumTimes [oQ, .inl 1] M (fun v m => IQ j l c n e g h t m ∧ ∃ T, PT j.1 j.2 1 5 24 999 T ∧ v = pSum j.1 j.2 1 5 24 999 T) := by
  obtain ⟨hV, hn, hJ, hH, hh⟩ := q.jb
  refine (s_QsumTimes (d := 6) hV hn hJ q.ln.1 q.ln.2 (a := 1) ⟨by omega, by omega⟩).mono ?_
  rintro v m (⟨z, -⟩ | ⟨-, f, f6, hF, hT⟩)
  · exact absurd z (by decide)
  · exact ⟨q.lineO f (by decide) ⟨q.ln.1.kept f (by decide) (by decide) (by decide) (by decide) (by decide) (f6 7 (by decide)), hF⟩, hT⟩
theorem d_number {a : Int} (q : IQ j l c n e g h t M) (ha : R32 a) : Post 12 cQ_numberAt [oQ, .inl a] M (fun v m => IQ j l c n e g h t m ∧ ∃ T, PT j.1 j.2 l.1 l.2.1 l.2.2.1 l.2.2.2 T ∧ v = numVal j.1 j.2 l.1 l.2.1 l.2.2.1 l.2.2.2 T a) := by
  obtain ⟨hV, hn, hJ, hH, hh⟩ := q.jb
  exact (s_QnumberAt (d := 6) hV hn hJ q.ln.1 ha).mono fun v m hv => ⟨q.lf hv.1, hv.2⟩
end QC
