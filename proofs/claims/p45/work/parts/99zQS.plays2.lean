/-! plays2, out of what nets owe. -/
def NetOK : Prop := ∀ {M : Mem} {C : LMem} {j : StJ} {l : StL} {c : StC} {n : StN} {e : StE} {g : StG} {h : StH} {t : StT} {r : Nat} {f : Nat → Int}, IQ j l c n e g h t M → C r = (1, 1, f) → LPo 200 cW_isNet [oH, .inr (.inr (.inl (r + 1)))] M C (fun v m c' => v = 1 ∧ LF [r] C c' ∧ ∃ n', IQ j l c n' e g h t m)
def E4OK : Prop := ∀ n : StN, nOk n.1 n.2.1 n.2.2.1 n.2.2.2 → e4P n.1 n.2.1 n.2.2.1 n.2.2.2
theorem flg0 {p : Prop} {x : Int} (h : flg p x) (hp : p) : x = 0 := by
  rcases h with ⟨h1, h2⟩ | ⟨h1, h2⟩
  · exact h1
  · exact absurd hp h2
theorem err0 (h4 : E4OK) {M : Mem} {j : StJ} {l : StL} {c : StC} {n : StN} {e : StE} {g : StG} {h : StH} {t : StT} (q : IQ j l c n e g h t M) {v : Int} (hv : errV j.1 j.2 l.1 l.2.1 l.2.2.1 l.2.2.2 n.1 n.2.1 n.2.2.1 n.2.2.2 e.1 e.2.1 e.2.2.1 g.1 g.2 v) : v = 0 := by
  obtain ⟨x1, x2, x4, x5, x6, f1, f2, f4, f5, f6, rfl⟩ := hv
  have hV := q.jobR
  have hl := q.ln.1.2.2.2.2.1
  have hE := q.ev.1
  rw [flg0 f1 (e1_all hV hl.1.1), flg0 f2 (e2_all hV), flg0 f4 (h4 n q.nt.1), flg0 f5 (e5_all hV hE.1.1 hE.2.1.1 hE.2.2.1.1), flg0 f6 (gB0 q.gm.1 10)]
  rfl
section PL2
variable {Q : LQ} {o6 : Option PV}
theorem p2_145 (hQ : ∀ M C, Q 1 M C) {M : Mem} {C : LMem} {kc : Nat} {j : StJ} {l : StL} {c : StC} {n : StN} {e : StE} {g : StG} {h : StH} {t : StT} {o0 o1 o2 o5 : Option PV} (q : IQ j l c n e g h t M) (hkc : kc ≤ 124000) : L_W_plays2_145 200 Q M C kc o0 o1 o2 1 o5 o6 := by
  have r0 : R32 0 := ⟨by decide, by decide⟩
  have r1 : R32 1 := ⟨by decide, by decide⟩
  refine b_W_plays2_145 ⟨⟨by decide, by decide⟩, fun z => absurd z (by decide), fun _ => ⟨by omega, ?_⟩⟩
  refine c_comeNo (d := 199) q (x := 501) (y := 1) (z := 0) (w := 1) (fun z => by unfold jobOk at z; omega) ⟨by decide, by decide⟩ r1 r0 r1 _ ?_
  rintro v1 M1 C1 ⟨rfl, rfl, rfl⟩
  refine ⟨⟨by decide, by decide⟩, fun z => absurd rfl z, fun _ => ⟨by omega, ?_⟩⟩
  refine c_lineNo (d := 199) (x := 5) (y := 0) (z := 0) (w := 1) (fun z => by unfold lineOk at z; omega) ⟨by decide, by decide⟩ r0 r0 r1 _ ?_
  rintro v2 M2 C2 ⟨rfl, rfl, rfl⟩
  refine ⟨⟨by decide, by decide⟩, fun z => absurd rfl z, fun _ => ⟨by omega, ?_⟩⟩
  refine c_statesNo (d := 199) (s := 8) (b := 1) (y := 0) (z := 0) (fun z => by unfold stOk at z; omega) ⟨by decide, by decide⟩ r1 r0 r0 _ ?_
  rintro v3 M3 C3 ⟨rfl, rfl, rfl⟩
  refine ⟨⟨by decide, by decide⟩, fun z => absurd rfl z, fun _ => ⟨by omega, ?_⟩⟩
  refine c_meanNo (d := 199) q (a := 3) (x := 0) (y := 0) (z := 0) (by omega) ⟨by decide, by decide⟩ r0 r0 r0 _ ?_
  rintro v4 M4 C4 ⟨rfl, rfl, rfl⟩
  exact ⟨⟨by decide, by decide⟩, fun z => absurd rfl z, fun _ => hQ _ _⟩
set_option maxRecDepth 200000 in
theorem p2_61 (HN : NetOK) (H4 : E4OK) (hQ : ∀ M C, Q 1 M C) : ∀ (u k : Nat) (M : Mem) (C : LMem) (kc : Nat) (j : StJ) (l : StL) (c : StC) (n : StN) (e : StE) (g : StG) (h : StH) (t : StT) (o6 : Option PV), k + u = 12 → kc + 10000 * u ≤ 121000 → IQ j l c n e g h t M → JCs 0 1 2 j l C → L_W_plays2_61 200 Q M C kc 0 1 2 1 (k : Int) o6 := by
  intro u
  induction u with
  | zero =>
    intro k M C kc j l c n e g h t o6 hk hkc q hj
    exact b_W_plays2_61 ⟨⟨by omega, by omega⟩, fun _ => p2_145 hQ q (by omega), fun z => absurd (by omega) z⟩
  | succ u ih =>
    intro k M C kc j l c n e g h t o6 hk hkc q hj
    have l129 : ∀ (M : Mem) (C : LMem) (kc' : Nat) (j : StJ) (l : StL) (c : StC) (n : StN) (e : StE) (g : StG) (h : StH) (t : StT) (o6 : Option PV), kc' ≤ kc + 10000 → IQ j l c n e g h t M → JCs 0 1 2 j l C → L_W_plays2_129 200 Q M C kc' 0 1 2 1 (k : Int) o6 := by
      intro M C kc' j l c n e g h t o6 hk' q hj
      refine b_W_plays2_129 ⟨⟨by decide, by decide⟩, fun z => absurd z (by decide), fun _ => ⟨⟨by omega, by omega⟩, ⟨by omega, by omega⟩, fun _ => ih (k + 1) M C kc' j l c n e g h t o6 (by omega) (by omega) q hj, fun _ => ⟨by omega, ?_⟩⟩⟩
      refine d_errors q _ ?_
      rintro v M1 ⟨q1, hv⟩
      have h0 := err0 H4 q hv
      show R32 v ∧ _
      exact ⟨⟨by omega, by omega⟩, fun z => absurd h0 z, fun _ => ih (k + 1) M1 C _ j l c n e g h t o6 (by omega) (by omega) q1 hj⟩
    obtain ⟨f, hr⟩ := id hj.1
    refine b_W_plays2_61 ⟨⟨by omega, by omega⟩, fun z => absurd z (by omega), fun _ => ⟨⟨by decide, by decide⟩, fun z => absurd z (by decide), fun _ => ⟨by omega, ?_⟩⟩⟩
    refine s_nextF (d := 199) hr _ ?_
    rintro v1 M1 C1 ⟨rfl, hv1, ⟨f1, hr1⟩, hf1⟩
    have hj1 := hj.off hf1 (by decide) (by decide)
    have off : ∀ {C2 : LMem}, LF [0] C1 C2 → JCs 0 1 2 j l C2 := fun h => hj1.off h (by decide) (by decide)
    refine ⟨by omega, ⟨by omega, by omega⟩, fun _ => ⟨fun _ => ⟨fun _ => ⟨fun _ => ⟨fun _ => ⟨fun _ => ⟨by omega, ?_⟩, fun _ => ⟨by omega, ?_⟩⟩, fun _ => ⟨by omega, ?_⟩⟩, fun _ => ⟨by omega, ?_⟩⟩, fun _ => ⟨by omega, ?_⟩⟩, fun _ => ⟨by omega, ?_⟩⟩, fun _ => ⟨by omega, ?_⟩⟩
    · refine s_isTape (d := 69) q hj1 _ ?_
      rintro v M2 C2 ⟨rfl, hf, j', h', t', q2, hj2⟩
      exact l129 M2 C2 _ j' l c n e g h' t' _ (by omega) q2 hj2
    · refine s_isGame (d := 69) q hr1 _ ?_
      rintro v M2 C2 ⟨rfl, hf, g', q2⟩
      exact l129 M2 C2 _ j l c n e g' h t _ (by omega) q2 (off hf)
    · refine s_isEnvelope (d := 69) q hj1 _ ?_
      rintro v M2 C2 ⟨rfl, hf, e', q2⟩
      exact l129 M2 C2 _ j l c n e' g h t _ (by omega) q2 (off hf)
    · refine HN q hr1 _ ?_
      rintro v M2 C2 ⟨rfl, hf, n', q2⟩
      exact l129 M2 C2 _ j l c n' e g h t _ (by omega) q2 (off hf)
    · refine s_isLost (d := 69) q hr1 _ ?_
      rintro v M2 C2 ⟨rfl, hf, q2⟩
      exact l129 M2 C2 _ j l c n e g h t _ (by omega) q2 (off hf)
    · refine s_isChain (d := 68) (reach_ok 68) q hr1 _ ?_
      rintro v M2 C2 ⟨rfl, hf, c', q2⟩
      exact l129 M2 C2 _ j l c' n e g h t _ (by omega) q2 (off hf)
    · refine s_isPlay (d := 69) q hj1 ⟨by decide, by decide, by decide⟩ _ ?_
      rintro v M2 C2 ⟨rfl, hf, j', l', h', q2, hj2⟩
      exact l129 M2 C2 _ j' l' c n e g h' t _ (by omega) q2 hj2
end PL2
