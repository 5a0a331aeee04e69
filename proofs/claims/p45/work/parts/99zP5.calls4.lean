/-! The class's calls by values: jobs kept and told, the tape, the errors. -/
section QC4
variable {j : StJ} {l : StL} {c : StC} {n : StN} {e : StE} {g : StG} {h : StH} {t : StT} {M M' : Mem} {C : LMem} {d : Nat} {k : List Nat}
theorem hlen_pos {u : Nat} : 0 < hlen u := by unfold hlen; split <;> omega
theorem hlen_top {α : Type} {u : Nat} {f : Nat → α} {x : α} (hu : u ≤ 20) : hcnt u f x (hlen u - 1) = x := by
  unfold hlen hcnt
  by_cases q : u = 20
  · rw [if_pos q, if_pos q]
    exact if_pos rfl
  · rw [if_neg q, if_neg q]
    exact if_pos (by omega)
/-- the row of jobs that an undo brings back -/
def bckJ (r J : Nat → Int) : Nat → Int := fun i => if i < 96 then r i else J i
theorem c_undo {w x y z : Int} (q : IQ j l c n e g h t M) (hu : 0 < h.1) {m : Nat} (hm : h.2.1 (h.1 - 1) = m) (hw : R32 w ∧ R32 x) (hy : R32 y) (hz : R32 z) : LPo (d + 1) cW_done [oH, .inl 28, .inl w, .inl x, .inl y, .inl z] M C (fun v m9 c' => c' = C ∧ v = ((h.1 - 1 : Nat) : Int) ∧ IQ (m, bckJ (h.2.2 (h.1 - 1)) j.2) l c n e g (h.1 - 1, h.2) t m9) := by
  obtain ⟨hV, hn, hJ, hH, hh⟩ := q.jb
  refine (dn (w := 28) (a := w) (b := x) (c := y) (e := z) (M := M) (C := C) (d := d) ⟨⟨by omega, by omega⟩, by omega⟩ hw ⟨hy, hz⟩ (s_Qundo' (d := 9) hH) ?_).imp ?_
  · rintro r m (⟨-, rfl, -⟩ | ⟨-, -, rfl, -⟩)
    · exact xOk5
    · trivial
  · rintro v m9 c' ⟨rfl, r, hr, rfl⟩
    rcases hr with ⟨z, -⟩ | ⟨-, f, rfl, h1, h2, h3, h4, h5⟩
    · exact absurd z (by omega)
    · obtain ⟨m2, e2, hV2⟩ := hh (h.1 - 1) (by omega)
      have hmm : m2 = m := by rw [hm] at e2; omega
      subst hmm
      have hJ2 : m9 94 = bckJ (h.2.2 (h.1 - 1)) j.2 := by
        funext i
        rw [h2 i, hJ]
        rfl
      refine ⟨rfl, rfl, q.jobs f (by decide) h4 (q.tp.fr f (by decide)) ⟨?_, ?_, hJ2, h5, fun k hk => hh k (by have : k < h.1 - 1 := hk; omega)⟩⟩
      · refine hV2.congr fun i hi => ?_
        show (if i < 96 then _ else _) = _
        rw [if_pos (by have := hV2.1; omega)]
      · show m9 117 0 = m2
        rw [h1]
        exact e2
theorem c_undoNo {w x y z : Int} (q : IQ j l c n e g h t M) (hu : h.1 = 0) (hw : R32 w ∧ R32 x) (hy : R32 y) (hz : R32 z) : LPo (d + 1) cW_done [oH, .inl 28, .inl w, .inl x, .inl y, .inl z] M C (fun v m9 c' => c' = C ∧ v = -1000004 ∧ m9 = M) := by
  obtain ⟨hV, hn, hJ, hH, hh⟩ := q.jb
  refine (dn (w := 28) (a := w) (b := x) (c := y) (e := z) (M := M) (C := C) (d := d) ⟨⟨by omega, by omega⟩, by omega⟩ hw ⟨hy, hz⟩ (s_Qundo' (d := 9) hH) ?_).imp ?_
  · rintro r m (⟨-, rfl, -⟩ | ⟨-, -, rfl, -⟩)
    · exact xOk5
    · trivial
  · rintro v m9 c' ⟨rfl, r, hr, rfl⟩
    rcases hr with ⟨-, rfl, rfl⟩ | ⟨z, -⟩
    · exact ⟨rfl, rfl, rfl⟩
    · exact absurd z (by omega)
theorem d_clear (q : IQ j l c n e g h t M) : Post 12 cQ_clear [oQ] M (fun v m => v = (j.1 : Int) ∧ IQ (0, j.2) l c n e g (hlen h.1, hcnt h.1 h.2.1 (j.1 : Int), hcnt h.1 h.2.2 j.2) t m) := by
  obtain ⟨hV, hn, hJ, hH, hh⟩ := q.jb
  refine (s_Qclear (d := 9) hH).mono ?_
  rintro v m ⟨f, h1, rfl, h2, h3, h4, h5⟩
  rw [hJ] at h1
  rw [hJ, hn] at h5
  exact ⟨hn, q.jobs f (by decide) h4 (q.tp.fr f (by decide)) ⟨⟨Nat.zero_le _, fun k hk => absurd hk (Nat.not_lt_zero k), fun k hk => absurd hk (Nat.not_lt_zero _)⟩, h2, h1, h5, vH_more hV hH.1 hh⟩⟩
theorem IQ.tape (q : IQ j l c n e g h t M) (f : Fr k M M') (hk : nin k (List.range 54 ++ (qlJ ++ qlL ++ qlC ++ qlN ++ qlE ++ qlG)) = true) {t' : StT} (hT : qT t' M') : IQ j l c n e g h t' M' := by
  have h1 : nin k (List.range 54) = true := nin_s hk fun a ha => List.mem_append_left _ ha
  have h2 : nin k (qlJ ++ qlL ++ qlC ++ qlN ++ qlE ++ qlG) = true := nin_s hk fun a ha => List.mem_append_right _ ha
  exact ⟨let ⟨x, hx⟩ := q.cf; ⟨x, hx.off f h1⟩, q.az.off f h1, hT, q.jb.fr f (nin_s h2 (by decide)), q.ln.fr f (nin_s h2 (by decide)), q.ch.fr f (nin_s h2 (by decide)), q.nt.fr f (nin_s h2 (by decide)), q.ev.fr f (nin_s h2 (by decide)), q.gm.fr f (nin_s h2 (by decide))⟩
theorem d_wipe (q : IQ j l c n e g h t M) : Post 12 cQ_wipe [oQ] M (fun _ m => IQ j l c n e g h (0, t.2) m) := by
  refine (s_Qwipe (d := 11)).mono ?_
  rintro v m ⟨rfl, -⟩
  refine q.tape (Fr.u2 (l := [93]) Fr.rfl' (by decide)) (by decide) ⟨⟨u2_same, Nat.zero_le _, by rw [u2_off (by decide)]; exact q.tp.1.2.2⟩, ?_, ?_⟩
  · show upd2 M 93 1 0 91 = t.2
    rw [u2_off (by decide)]
    exact q.tp.2.1
  · rw [u2_off (by decide)]
    exact q.tp.2.2
theorem d_fault (q : IQ j l c n e g h t M) : Post 12 cQ_fault [oQ] M (fun v m => IQ j l c n e g h t m ∧ ∃ T y, (∀ i, R32 (T i)) ∧ pRun t.2 t.1 T y ∧ v = pFault t.1 y) := by
  obtain ⟨hT, h91, h92⟩ := q.tp
  refine (s_Qfault (d := 5) hT).mono ?_
  rintro v m ⟨f, h93, y, hy, hm, rfl⟩
  refine ⟨q.tape f (by decide) ⟨hT.fr (f 91 (by decide)) h93, (f 91 (by decide)).trans h91, by rw [hm]; exact (pRun_ok hy h92).2.1⟩, M 92, y, h92, by rw [← h91]; exact hy, rfl⟩
theorem c_readNo {w x y z : Int} (q : IQ j l c n e g h t M) (hno : ∀ T y, (∀ i, R32 (T i)) → pRun t.2 t.1 T y → pFault t.1 y ≠ -1) (hw : R32 w ∧ R32 x) (hy : R32 y) (hz : R32 z) : LPo (d + 1) cW_done [oH, .inl 27, .inl w, .inl x, .inl y, .inl z] M C (fun v m9 c' => c' = C ∧ v = -1000002 ∧ IQ j l c n e g h t m9) := by
  obtain ⟨hV, hn, hJ, hH, hh⟩ := q.jb
  obtain ⟨hT, h91, h92⟩ := q.tp
  have key := s_Qread (d := 5) hT hH hn (by rw [hJ]; exact hV) h92
  refine (dn (w := 27) (a := w) (b := x) (c := y) (e := z) (M := M) (C := C) (d := d) ⟨⟨by omega, by omega⟩, by omega⟩ hw ⟨hy, hz⟩ key ?_).imp ?_
  · rintro r m ⟨y, -, -, -, -, ⟨-, rfl, -⟩ | ⟨-, -, rfl, -⟩ | ⟨-, -, rfl, -⟩⟩
    · exact xOk2
    · exact xOk3
    · trivial
  · rintro v m9 c' ⟨rfl, r, ⟨y, hy, f0, h93, hm, hr⟩, rfl⟩
    have hf := hno _ y h92 (by rw [← h91]; exact hy)
    rcases hr with ⟨-, rfl, f⟩ | ⟨z, -⟩ | ⟨z, -⟩
    · exact ⟨rfl, rfl, q.tape f (by decide) ⟨hT.fr (f 91 (by decide)) h93, (f 91 (by decide)).trans h91, by rw [hm]; exact (pRun_ok hy h92).2.1⟩⟩
    · exact absurd z.1 hf
    · exact absurd z.1 hf
theorem c_read {w x y z : Int} (q : IQ j l c n e g h t M) {T9 : Nat → Int} {c9 : Nat} (hgo : ∀ T y, (∀ i, R32 (T i)) → pRun t.2 t.1 T y → pFault t.1 y = -1 ∧ y.2.2.1 = c9 ∧ ∀ i, i < 4 * c9 → y.2.2.2 i = T9 i) (hok : allOk T9 c9) (hor : inOrder (if j.1 = 0 then 0 else j.2 (4 * (j.1 - 1))) T9 c9) (h24 : j.1 + c9 ≤ 24) (hw : R32 w ∧ R32 x) (hy : R32 y) (hz : R32 z) : LPo (d + 1) cW_done [oH, .inl 27, .inl w, .inl x, .inl y, .inl z] M C (fun v m9 c' => c' = C ∧ v = ((j.1 + c9 : Nat) : Int) ∧ ∃ U : Nat → Int, (∀ i, i < 4 * c9 → U i = T9 i) ∧ IQ (j.1 + c9, addT j.2 j.1 U c9) l c n e g (hlen h.1, hcnt h.1 h.2.1 (j.1 : Int), hcnt h.1 h.2.2 j.2) t m9) := by
  obtain ⟨hV, hn, hJ, hH, hh⟩ := q.jb
  obtain ⟨hT, h91, h92⟩ := q.tp
  have key := s_Qread (d := 5) hT hH hn (by rw [hJ]; exact hV) h92
  refine (dn (w := 27) (a := w) (b := x) (c := y) (e := z) (M := M) (C := C) (d := d) ⟨⟨by omega, by omega⟩, by omega⟩ hw ⟨hy, hz⟩ key ?_).imp ?_
  · rintro r m ⟨y, -, -, -, -, ⟨-, rfl, -⟩ | ⟨-, -, rfl, -⟩ | ⟨-, -, rfl, -⟩⟩
    · exact xOk2
    · exact xOk3
    · trivial
  · rintro v m9 c' ⟨rfl, r, ⟨y, hy, f0, h93, hm, hr⟩, rfl⟩
    obtain ⟨g1, g2, g3⟩ := hgo _ y h92 (by rw [← h91]; exact hy)
    have ok2 : allOk y.2.2.2 y.2.2.1 := fun k hk => by
      rw [g2] at hk
      rw [g3 _ (by omega), g3 _ (by omega), g3 _ (by omega), g3 _ (by omega)]
      exact hok k hk
    have or2 : inOrder (if j.1 = 0 then 0 else j.2 (4 * (j.1 - 1))) y.2.2.2 y.2.2.1 := fun k hk => by
      rw [g2] at hk
      have := hor k hk
      by_cases z : k = 0
      · subst z
        rw [if_pos rfl] at this ⊢
        rw [g3 _ (by omega)]
        exact this
      · rw [if_neg z] at this ⊢
        rw [g3 _ (by omega), g3 _ (by omega)]
        exact this
    rw [hJ] at hr
    rcases hr with ⟨z, -⟩ | ⟨-, z, -⟩ | ⟨-, -, rfl, a1, a2, a3, a4, a5⟩
    · exact absurd ⟨g1, ok2⟩ z
    · exact absurd ⟨or2, by rw [g2]; exact h24⟩ z
    · rw [g2] at a1 a2 ok2 or2
      refine ⟨rfl, by show ((j.1 + y.2.2.1 : Nat) : Int) = _; rw [g2], y.2.2.2, g3, q.jobs f0 (by decide) a4 ⟨hT.fr (f0 91 (by decide)) h93, (f0 91 (by decide)).trans h91, by rw [hm]; exact (pRun_ok hy h92).2.1⟩ ⟨(VJ.told c9 hV ok2 or2 h24).1, a2, a1, a5, vH_more hV hH.1 hh⟩⟩
theorem d_sign {i : Int} (q : IQ j l c n e g h t M) (hi : 0 ≤ i ∧ i < t.1) : Post 12 cQ_signAt [oQ, .inl i] M (fun v m => m = M ∧ v = t.2 i.toNat) := by
  have h9 := q.tp.1.2.1
  intro Q hQ
  refine s_QsignAt (d := 11) q.tp.1.1 q.tp.1.2.1 ⟨by omega, by omega⟩ Q ?_
  rintro r m ⟨rfl, rfl⟩
  rw [if_pos hi]
  exact hQ _ _ ⟨rfl, by rw [q.tp.2.1]⟩
theorem d_result {x : Rat} {b : Int} (hc : CF M x) (hb : R32 b) (h1 : x.num < 9223372036854775808) (h2 : (x.den : Int) < 9223372036854775808) : Post 12 cQ_result [oQ, .inl b] M (fun v m => m = M ∧ v = if b = 0 then x.num else (x.den : Int)) := by
  intro Q hQ
  refine s_Qresult (d := 10) (v := if b = 0 then x.num else (x.den : Int)) hb ?_ Q ?_
  · by_cases z : b = 0
    · rw [if_pos z, if_pos z]; exact hc.1
    · rw [if_neg z, if_neg z]; exact hc.2
  · rintro r m ⟨rfl, rfl⟩
    rw [if_pos (by
      split
      · exact h1
      · exact h2)]
    exact hQ _ _ ⟨rfl, rfl⟩
theorem d_errors (q : IQ j l c n e g h t M) : Post 12 cQ_errors [oQ] M (fun v m => IQ j l c n e g h t m ∧ errV j.1 j.2 l.1 l.2.1 l.2.2.1 l.2.2.2 n.1 n.2.1 n.2.2.1 n.2.2.2 e.1 e.2.1 e.2.2.1 g.1 g.2 v) := by
  obtain ⟨hV, hn, hJ, hH, hh⟩ := q.jb
  refine (s_Qerrors (d := 4) hV hn hJ q.ln.1 q.ln.2 q.ch.2 q.ch.1 q.nt.2 q.nt.1 q.az q.ev.2 q.ev.1 q.gm.1 q.gm.2.1 q.gm.2.2).mono ?_
  rintro v m ⟨f, f6, h1, h2, h3, h4⟩
  exact ⟨q.line f (by decide) (let ⟨x, hx⟩ := q.cf; ⟨x, hx.kept f (by decide) (by decide) (by decide) (by decide)⟩) h3 ⟨h1, h2⟩, h4⟩
theorem c_write {w x y z : Int} (q : IQ j l c n e g h t M) (hc : CF M 0) (hw : R32 w ∧ R32 x) (hy : R32 y) (hz : R32 z) : LPo (d + 1) cW_done [oH, .inl 29, .inl w, .inl x, .inl y, .inl z] M C (fun v m9 c' => c' = C ∧ v = 3 ∧ ∃ U : Nat → Int, U 0 = 48 ∧ IQ j l c n e g h (3, U) m9) := by
  refine (dn (w := 29) (a := w) (b := x) (c := y) (e := z) (M := M) (C := C) (d := d) (P := fun r M' => ∃ v : Int, r = .inl v ∧ Fr [91, 93] M M' ∧ ∃ a b, DC (0 : Rat).num a ∧ DC (((0 : Rat).den : Nat) : Int) b ∧ a ≤ 180 ∧ b ≤ 180 ∧ v = ((a + 1 + b : Nat) : Int) ∧ M' 93 1 = ((a + 1 + b : Nat) : Int) ∧ M' 91 = pd (((0 : Rat).den : Nat) : Int) b (sr (pd (0 : Rat).num a (M 91) 0) a 47) (a + 1)) ⟨⟨by omega, by omega⟩, by omega⟩ hw ⟨hy, hz⟩ (fun Q hQ => s_Qwrite (d := 9) hc.1 hc.2 Q fun v m hv => hQ _ _ ⟨v, rfl, hv⟩) ?_).imp ?_
  · rintro r m ⟨v, rfl, -⟩
    trivial
  · rintro v m9 c' ⟨rfl, r, ⟨v9, rfl, f, a, b, ha, hb, -, -, rfl, h93, h91⟩, rfl⟩
    have ea : a = 1 := ha.2.2.1 rfl
    have eb : b = 1 := by
      have h1 : (10 : Int) ^ (b - 1) ≤ 1 := hb.2.2.2 (by decide)
      have h0 := hb.1
      rcases b with _ | _ | b
      · omega
      · rfl
      · exfalso
        have h2 : (10 : Int) ^ (b + 1 + 1 - 1) = 10 ^ b * 10 := Int.pow_succ 10 b
        rw [h2] at h1
        have h3 : 0 < (10 : Int) ^ b := Int.pow_pos (by decide)
        omega
    subst ea; subst eb
    have hR := q.tp.1.2.2
    refine ⟨rfl, rfl, m9 91, ?_, q.tape f (by decide) ⟨⟨h93, (by decide : (3 : Nat) ≤ 900), fun i => ?_⟩, rfl, by rw [f 92 (by decide)]; exact q.tp.2.2⟩⟩
    · rw [h91]
      rfl
    · rw [h91]
      show R32 (sr (sr (sr (M 91) 0 48) 1 47) 2 49 i)
      unfold sr
      split
      · exact ⟨by decide, by decide⟩
      · split
        · exact ⟨by decide, by decide⟩
        · split
          · exact ⟨by decide, by decide⟩
          · exact hR i
end QC4
