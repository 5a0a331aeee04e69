/-! isTape, whole. -/
section TPG
variable {d : Nat} {Q : LQ} {M : Mem} {C C0 : LMem} {j : StJ} {l : StL} {c : StC} {n : StN} {e : StE} {g : StG} {h : StH} {t : StT} {r a b q1 q3 : Nat} {fa fb f : Nat → Int}
theorem tp_75 {o10 : Option PV} {cnt kc : Nat} {tm : Int} (hQ : ∀ (M : Mem) (C : LMem) (j : StJ) (h : StH) (t : StT), IQ j l c n e g h t M → LF [r, a, b] C0 C → JCs r a b j l C → Q 1 M C) (q : IQ j l c n e g h t M) (hn : j.1 ≤ 20) (hfb : fb 0 = (j.1 : Int) ∧ fb 2 = l.2.1) (hcn3 : cnt ≤ 3) (hz3 : (C0 q3).1 = 0) (hB : TBq j.1 j.2 0 fa tm) (hkc : kc ≤ 100) :
    ∀ (u k : Nat) (C : LMem) (fs : Nat → Int), k + u = 96 → TSq C0 r a b q1 q3 fa fb fs f C → (∀ x, x < k → fs x = fa x) → L_W_isTape_75 (d + 130) Q M C kc r a b q1 0 (cnt : Int) tm q3 (k : Int) o10 := by
  intro u
  induction u with
  | zero =>
    intro k C fs hk hs hx
    refine b_W_isTape_75 ⟨⟨by omega, by omega⟩, fun _ => ?_, fun z => absurd (by omega) z⟩
    have hfs : ∀ x, x < 4 * j.1 → fs x = j.2 x := fun x hx9 => (hx x (by omega)).trans (hB.1 x hx9)
    exact tp_loop hQ q hn hfb hcn3 (fun C kc i f fa tm o10 hk hs hE hB => tp_88e hQ hn hcn3 hfb hfs q hs hE hB (by omega)) cnt 0 C kc 0 f fa tm _ (by omega) (by omega) hs ⟨⟨_, TX.nil, fun T x hx => absurd hx (by omega)⟩, fun k hk => absurd hk (Nat.not_lt_zero k), Nat.le_refl 0, fun z => absurd z (Nat.lt_irrefl 0)⟩ hB
  | succ u ih =>
    intro k C fs hk hs hx
    obtain ⟨⟨y, hr⟩, ha, hb, h3, h1, hf, h7⟩ := id hs
    refine b_W_isTape_75 ⟨⟨by omega, by omega⟩, fun z => absurd z (by omega), fun _ => ?_⟩
    simp only [h3, ha, cup_of h3, Int.toNat_natCast]
    refine ⟨trivial, ⟨by omega, by omega⟩, trivial, ⟨by omega, by omega⟩, ?_⟩
    refine ih (k + 1) _ (sr fs k (fa k)) (by omega) ⟨⟨y, by rw [cst_ne (ne_len hr h3 (by decide))]; exact hr⟩, by rw [cst_ne (ne_len ha h3 (by decide))]; exact ha, by rw [cst_ne (ne_len hb h3 (by decide))]; exact hb, cst_self, by rw [cst_ne (ne_len h1 h3 (by decide))]; exact h1, hf.set hz3, h7⟩ (fun x hx9 => ?_)
    by_cases z : x = k
    · rw [z, sr_same]
    · rw [sr_ne z]; exact hx x (by omega)
end TPG
theorem s_isTape {d r a b : Nat} {M : Mem} {C : LMem} {j : StJ} {l : StL} {c : StC} {n : StN} {e : StE} {g : StG} {h : StH} {t : StT} (q : IQ j l c n e g h t M) (hj : JCs r a b j l C) : LPo (d + 131) cW_isTape [oH, .inr (.inr (.inl (r + 1))), .inr (.inr (.inl (a + 1))), .inr (.inr (.inl (b + 1)))] M C (fun v m c' => v = 1 ∧ LF [r, a, b] C c' ∧ ∃ j' h' t', IQ j' l c n e g h' t' m ∧ JCs r a b j' l c') := fun Q hQ => by
  have hQ' : ∀ (M' : Mem) (C' : LMem) (j : StJ) (h : StH) (t : StT), IQ j l c n e g h t M' → LF [r, a, b] C C' → JCs r a b j l C' → Q 1 M' C' := fun M' C' j h t h1 h2 h3 => hQ 1 M' C' ⟨rfl, h2, j, h, t, h1, h3⟩
  obtain ⟨⟨f, hr⟩, ⟨fa, ha, hfa⟩, fb, hb, hb0, hb2⟩ := id hj
  have hV := q.jobR
  have h24 := hV.1
  refine e_W_isTape (b_W_isTape_0 ?_)
  simp only [hb, hb0]
  refine ⟨trivial, ⟨by omega, by omega⟩, ⟨by omega, by omega⟩, fun h20 => ⟨by omega, fun q1 hq1 => ⟨by omega, ?_⟩⟩, fun h20 => ⟨by omega, ?_⟩⟩
  · have nr := ne_new hr hq1
    have na := ne_new ha hq1
    have nb := ne_new hb hq1
    have hr1 : cst C q1 (1, 200, fun _ => 0) r = (1, 1, f) := by rw [cst_ne (Ne.symm nr)]; exact hr
    refine s_nextF hr1 _ ?_
    rintro v2 M2 C2 ⟨rfl, hv2, ⟨f2, hr2⟩, hf2⟩
    have m1 : ∀ z, z ∈ [r] → z ∈ [r, a, b] := fun z hz => by rw [List.mem_singleton.mp hz]; exact List.mem_cons_self
    have ha2 := hf2.at' (k := 0) (nin1 (ne_len ha hr (by decide))) (show cst C q1 (1, 200, fun _ => 0) a = (1, 120, fa) by rw [cst_ne (Ne.symm na)]; exact ha)
    have hb2' := hf2.at' (k := 0) (nin1 (ne_len hb hr (by decide))) (show cst C q1 (1, 200, fun _ => 0) b = (1, 10, fb) by rw [cst_ne (Ne.symm nb)]; exact hb)
    have h12 : C2 q1 = (1, 200, fun _ => 0) := hf2.at' (k := 0) (nin1 nr) cst_self
    have hf9 : LF [r, a, b] C C2 := (LF.rf.set hq1).tr (hf2.mono m1)
    simp only [hb2', hb0, ha2]
    obtain ⟨cnt, hcnt⟩ : ∃ k : Nat, v2 % 4 = (k : Int) := ⟨(v2 % 4).toNat, by omega⟩
    rw [hcnt]
    have go : ∀ (tm : Int) (q3 : Nat), (C2 q3).1 = 0 → TBq j.1 j.2 0 fa tm → L_W_isTape_75 (d + 130) Q M2 (cst C2 q3 (1, 96, fun _ => 0)) (0 + 4 + 0 + 2) r a b q1 0 (cnt : Int) tm q3 0 none := by
      intro tm q3 hq3 hB
      have n3r := ne_new hr2 hq3
      have n3a := ne_new ha2 hq3
      have n3b := ne_new hb2' hq3
      have n31 := ne_new h12 hq3
      exact tp_75 hQ' q (by omega) ⟨hb0, hb2⟩ (by omega) (hf9.free hq3) hB (by omega) 96 0 _ (fun _ => 0) (by omega) ⟨⟨f2, by rw [cst_ne (Ne.symm n3r)]; exact hr2⟩, by rw [cst_ne (Ne.symm n3a)]; exact ha2, by rw [cst_ne (Ne.symm n3b)]; exact hb2', cst_self, by rw [cst_ne (Ne.symm n31)]; exact h12, hf9.new hq3, hq1⟩ (fun x hx => absurd hx (Nat.not_lt_zero x))
    refine ⟨by omega, trivial, ⟨by omega, by omega⟩, ⟨by omega, by omega⟩, fun z => ⟨trivial, ⟨by omega, by omega⟩, by omega, fun q3 hq3 => ?_⟩, fun z => ⟨by omega, fun q3 hq3 => ?_⟩⟩
    · have hjob := hV.2.1 (j.1 - 1) (by omega)
      unfold jobOk at hjob
      have e4 : fa (4 * (j.1 : Int) - 4).toNat = j.2 (4 * (j.1 - 1)) := by
        rw [show (4 * (j.1 : Int) - 4).toNat = 4 * (j.1 - 1) by omega]
        exact hfa _ (by omega)
      rw [e4]
      refine go _ q3 hq3 ⟨hfa, fun k hk => absurd hk (Nat.not_lt_zero k), fun k hk => absurd hk (Nat.not_lt_zero k), ?_, by omega, by omega⟩
      rw [if_pos rfl]
      unfold lstT
      rw [if_neg (by omega)]
    · refine go _ q3 hq3 ⟨hfa, fun k hk => absurd hk (Nat.not_lt_zero k), fun k hk => absurd hk (Nat.not_lt_zero k), ?_, by decide, by decide⟩
      rw [if_pos rfl]
      unfold lstT
      rw [if_pos (by omega)]
  · refine d_clear q _ ?_
    rintro v1 M1 ⟨rfl, q1⟩
    show R32 (j.1 : Int) ∧ _
    refine ⟨⟨by omega, by omega⟩, fun z => absurd rfl z, fun _ => ⟨by omega, ?_⟩⟩
    refine c_undoL (j := j) (h := h) q1 q.h20 _ ?_
    rintro v2 M2 C2 ⟨rfl, hv2, h', q2⟩
    simp only [hb, hb0]
    refine ⟨⟨by omega, by omega⟩, fun z => absurd z (by omega), fun _ => ⟨trivial, ⟨by omega, by omega⟩, by omega, ?_⟩⟩
    refine c_jobAt q2 (a := (j.1 : Int) - 1) (b := 4) (y := 0) (z := 0) (by show 0 ≤ (j.1 : Int) - 1 ∧ (j.1 : Int) - 1 < (j.1 : Int); omega) ⟨by decide, by decide⟩ ⟨by decide, by decide⟩ ⟨by decide, by decide⟩ _ ?_
    rintro v3 M3 C3 ⟨rfl, q3, hv3⟩
    have hV2 := q2.jobR
    obtain ⟨T, hT⟩ := PT_ex (many := l.1) (by_ := l.2.1) (space := l.2.2.1) (wait := l.2.2.2) hV2 q.ln.1.2.2.2.2.1.1.1
    have hv3 := hv3 T hT
    have e3 : v3 = j.2 (4 * (j.1 - 1)) := by
      rw [hv3]
      unfold jobVal
      rw [if_neg (by decide), if_neg (by decide), if_neg (by decide), if_neg (by decide)]
      show bckJ j.2 j.2 (4 * ((j.1 : Int) - 1).toNat + (4 - 4 : Int).toNat) = _
      rw [show 4 * ((j.1 : Int) - 1).toNat + (4 - 4 : Int).toNat = 4 * (j.1 - 1) by omega]
      unfold bckJ
      rw [if_pos (by omega)]
    have hjob := hV.2.1 (j.1 - 1) (by omega)
    unfold jobOk at hjob
    have e4 : fa (4 * (j.1 : Int) - 4).toNat = j.2 (4 * (j.1 - 1)) := by
      rw [show (4 * (j.1 : Int) - 4).toNat = 4 * (j.1 - 1) by omega]
      exact hfa _ (by omega)
    simp only [hb, hb0, ha, e4]
    refine ⟨trivial, ⟨by omega, by omega⟩, trivial, ⟨by omega, by omega⟩, ⟨by omega, by omega⟩, ⟨by omega, by omega⟩, fun z => absurd e3 z, fun _ => ?_⟩
    refine hQ' M3 C3 _ h' t q3 LF.rf ⟨⟨f, hr⟩, ⟨fa, ha, fun x hx => ?_⟩, fb, hb, hb0, hb2⟩
    have hx : x < 4 * j.1 := hx
    show fa x = bckJ j.2 j.2 x
    unfold bckJ
    rw [if_pos (by omega)]
    exact hfa x hx
