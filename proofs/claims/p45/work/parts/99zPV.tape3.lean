/-! isTape: the jobs that are told. -/
def lstT (n : Nat) (J : Nat → Int) : Int := if n = 0 then 0 else J (4 * (n - 1))
def TBq (n : Nat) (J : Nat → Int) (m : Nat) (fa : Nat → Int) (tm : Int) : Prop := (∀ x, x < 4 * n → fa x = J x) ∧ allOk (fun x => fa (4 * n + x)) m ∧ inOrder (lstT n J) (fun x => fa (4 * n + x)) m ∧ (tm = if m = 0 then lstT n J else fa (4 * n + 4 * (m - 1))) ∧ 0 ≤ tm ∧ tm ≤ 500
theorem TBq.step {n m : Nat} {J fa : Nat → Int} {tm x0 x1 x2 x3 : Int} (h : TBq n J m fa tm) (h0 : tm ≤ x0 ∧ x0 ≤ 500) (h1 : 1 ≤ x1 ∧ x1 ≤ 40) (h2 : 0 ≤ x2 ∧ x2 ≤ 2) (h3 : 1 ≤ x3 ∧ x3 ≤ 9) : TBq n J (m + 1) (sr (sr (sr (sr fa (4 * n + 4 * m) x0) (4 * n + 4 * m + 1) x1) (4 * n + 4 * m + 2) x2) (4 * n + 4 * m + 3) x3) x0 := by
  obtain ⟨a1, a2, a3, a4, a5, a6⟩ := h
  have lo : ∀ x, x < 4 * n + 4 * m → sr (sr (sr (sr fa (4 * n + 4 * m) x0) (4 * n + 4 * m + 1) x1) (4 * n + 4 * m + 2) x2) (4 * n + 4 * m + 3) x3 x = fa x := fun x hx => by
    rw [sr_ne (by omega), sr_ne (by omega), sr_ne (by omega), sr_ne (by omega)]
  have v0 : sr (sr (sr (sr fa (4 * n + 4 * m) x0) (4 * n + 4 * m + 1) x1) (4 * n + 4 * m + 2) x2) (4 * n + 4 * m + 3) x3 (4 * n + 4 * m) = x0 := by
    rw [sr_ne (by omega), sr_ne (by omega), sr_ne (by omega), sr_same]
  have v1 : sr (sr (sr (sr fa (4 * n + 4 * m) x0) (4 * n + 4 * m + 1) x1) (4 * n + 4 * m + 2) x2) (4 * n + 4 * m + 3) x3 (4 * n + 4 * m + 1) = x1 := by
    rw [sr_ne (by omega), sr_ne (by omega), sr_same]
  have v2 : sr (sr (sr (sr fa (4 * n + 4 * m) x0) (4 * n + 4 * m + 1) x1) (4 * n + 4 * m + 2) x2) (4 * n + 4 * m + 3) x3 (4 * n + 4 * m + 2) = x2 := by
    rw [sr_ne (by omega), sr_same]
  have v3 : sr (sr (sr (sr fa (4 * n + 4 * m) x0) (4 * n + 4 * m + 1) x1) (4 * n + 4 * m + 2) x2) (4 * n + 4 * m + 3) x3 (4 * n + 4 * m + 3) = x3 := sr_same
  generalize sr (sr (sr (sr fa (4 * n + 4 * m) x0) (4 * n + 4 * m + 1) x1) (4 * n + 4 * m + 2) x2) (4 * n + 4 * m + 3) x3 = fz at *
  refine ⟨fun x hx => (lo x (by omega)).trans (a1 x hx), fun k hk => ?_, fun k hk => ?_, ?_, by omega, h0.2⟩
  · show jobOk (fz (4 * n + 4 * k)) (fz (4 * n + (4 * k + 1))) (fz (4 * n + (4 * k + 2))) (fz (4 * n + (4 * k + 3)))
    by_cases z : k < m
    · rw [lo _ (by omega), lo _ (by omega), lo _ (by omega), lo _ (by omega)]
      exact a2 k z
    · obtain rfl : k = m := by omega
      rw [← Nat.add_assoc, ← Nat.add_assoc, ← Nat.add_assoc, v0, v1, v2, v3]
      exact ⟨⟨by omega, by omega⟩, ⟨by omega, by omega⟩, ⟨by omega, by omega⟩, by omega, by omega⟩
  · show (if k = 0 then lstT n J else fz (4 * n + 4 * (k - 1))) ≤ fz (4 * n + 4 * k)
    have ek : (if k = 0 then lstT n J else fz (4 * n + 4 * (k - 1))) = (if k = 0 then lstT n J else fa (4 * n + 4 * (k - 1))) := by
      by_cases z : k = 0
      · rw [if_pos z, if_pos z]
      · rw [if_neg z, if_neg z, lo _ (by omega)]
    rw [ek]
    by_cases z : k < m
    · rw [lo _ (by omega)]
      exact a3 k z
    · obtain rfl : k = m := by omega
      rw [v0, ← a4]
      exact h0.1
  · rw [if_neg (Nat.succ_ne_zero m), show m + 1 - 1 = m by omega, v0]
theorem TE.off {n m i : Nat} {fa fz f : Nat → Int} (h : TE n m fa f i) (e : ∀ x, x < 4 * n + 4 * m → fz x = fa x) : TE n m fz f i := by
  obtain ⟨⟨F, h1, h2⟩, h3⟩ := h
  exact ⟨⟨F, h1, fun T x hx => (h2 T x hx).trans (e _ (by omega)).symm⟩, h3⟩
section TPD
variable {d : Nat} {Q : LQ} {M : Mem} {C0 C : LMem} {r a b q1 q3 n m i kc : Nat} {fa fb fs f : Nat → Int} {cnt tm : Int} {F : (Nat → Int) → Nat → Int}
theorem tp_183 (hm : m < 3) (hn : n ≤ 20) (hs : TSq C0 r a b q1 q3 fa fb fs f C) (h : TX f i 4 m 1 F) (hF : TF n m fa F 2) (hF3 : ∀ T, F T (4 * m + 3) = 1) (hc : Ch9 f i) (hi : i ≤ 50 * m + 18) (hk : 0 ≤ fa (4 * n + (4 * m + 2)) ∧ fa (4 * n + (4 * m + 2)) ≤ 2) (hw : 1 ≤ fa (4 * n + (4 * m + 3)) ∧ fa (4 * n + (4 * m + 3)) ≤ 9) (hkc : kc ≤ 900)
    (hN : ∀ (C : LMem) (kc' i' : Nat) (f' : Nat → Int), kc' ≤ kc + 24 → TSq C0 r a b q1 q3 fa fb fs f' C → TE n (m + 1) fa f' i' → L_W_isTape_88 (d + 130) Q M C kc' r a b q1 (i' : Int) cnt tm q3 ((m : Int) + 1) (some (.inl (4 * ((n : Int) + (m : Int)))))) :
    L_W_isTape_183 (d + 130) Q M C kc r a b q1 (i : Int) cnt tm q3 (m : Int) (4 * ((n : Int) + (m : Int))) := by
  obtain ⟨w, hw9⟩ : ∃ w : Nat, fa (4 * n + (4 * m + 2)) = (w : Int) := ⟨(fa (4 * n + (4 * m + 2))).toNat, by omega⟩
  have e3 : fa (4 * ((n : Int) + (m : Int)) + 2).toNat = (w : Int) := by rw [← hw9]; congr 1; omega
  rw [hw9] at hk
  refine b_W_isTape_183 ⟨by omega, ?_⟩
  refine t_word (d := d + 128) (k := 3) (t3 := 2) ⟨by decide, by decide⟩ rfl hs (by omega) _ ?_
  rintro v1 M1 C1 ⟨rfl, y1, g1, hy1, rfl, hs1, hx1, hc1, hw1⟩
  obtain ⟨cls1, hcl1, hX1⟩ := hx1 _ _ _ _ h
  have hX2 := hX1.kind hw1 (okl hcl1 (Or.inr rfl) (by decide))
  have hc1 := hc1 hc
  have l4 : (wordL 3).length = 4 := rfl
  rw [l4] at hc1 ⊢
  have ha1 := hs1.2.1
  simp only [ha1, e3, Int.toNat_natCast]
  refine ⟨trivial, ⟨by omega, by omega⟩, ⟨by omega, by omega⟩, by omega, ?_⟩
  refine t_num (d := d + 128) (w := w) (by omega) hs1 (by omega) _ ?_
  rintro v2 M2 C2 ⟨rfl, y2, g2, len, hy2, hl2, rfl, hs2, hx2, hc2, hw2⟩
  obtain ⟨cls2, hcl2, hX3⟩ := hx2 _ _ _ _ hX2
  have hX4 := hX3.num (Or.inr (Or.inr (Or.inl ⟨rfl, rfl⟩))) hw2 (by omega)
  have hc2 := hc2 hc1
  refine tp_194 (Or.inr rfl) hm hn hs2 hX4 (fun T x hx => ?_) (fun T => ?_) hc2 (by omega) hw (by omega) (fun C kc' i' f' z1 z2 z3 => hN C kc' i' f' (by omega) z2 z3)
  · by_cases z : x = 4 * m + 2
    · rw [z, sr_same, hw9]
    · rw [sr_ne z]
      exact hF T x (by omega)
  · rw [sr_ne (by omega)]
    exact hF3 T
theorem tp_161 (hm : m < 3) (hn : n ≤ 20) (hs : TSq C0 r a b q1 q3 fa fb fs f C) (h : TX f i 2 m 1 F) (hF : TF n m fa F 1) (hF2 : ∀ T, F T (4 * m + 2) = 0) (hF3 : ∀ T, F T (4 * m + 3) = 1) (hc : Ch9 f i) (hi : i ≤ 50 * m + 8) (ht : 1 ≤ fa (4 * n + (4 * m + 1)) ∧ fa (4 * n + (4 * m + 1)) ≤ 40) (hk : 0 ≤ fa (4 * n + (4 * m + 2)) ∧ fa (4 * n + (4 * m + 2)) ≤ 2) (hw : 1 ≤ fa (4 * n + (4 * m + 3)) ∧ fa (4 * n + (4 * m + 3)) ≤ 9) (hkc : kc ≤ 800)
    (hN : ∀ (C : LMem) (kc' i' : Nat) (f' : Nat → Int), kc' ≤ kc + 32 → TSq C0 r a b q1 q3 fa fb fs f' C → TE n (m + 1) fa f' i' → L_W_isTape_88 (d + 130) Q M C kc' r a b q1 (i' : Int) cnt tm q3 ((m : Int) + 1) (some (.inl (4 * ((n : Int) + (m : Int)))))) :
    L_W_isTape_161 (d + 130) Q M C kc r a b q1 (i : Int) cnt tm q3 (m : Int) (4 * ((n : Int) + (m : Int))) := by
  obtain ⟨w, hw9⟩ : ∃ w : Nat, fa (4 * n + (4 * m + 1)) = (w : Int) := ⟨(fa (4 * n + (4 * m + 1))).toNat, by omega⟩
  have e3 : fa (4 * ((n : Int) + (m : Int)) + 1).toNat = (w : Int) := by rw [← hw9]; congr 1; omega
  have e2 : fa (4 * ((n : Int) + (m : Int)) + 2).toNat = fa (4 * n + (4 * m + 2)) := by congr 1; omega
  rw [hw9] at ht
  refine b_W_isTape_161 ⟨by omega, ?_⟩
  refine t_word (d := d + 128) (k := 2) (t3 := 1) ⟨by decide, by decide⟩ rfl hs (by omega) _ ?_
  rintro v1 M1 C1 ⟨rfl, y1, g1, hy1, rfl, hs1, hx1, hc1, hw1⟩
  obtain ⟨cls1, hcl1, hX1⟩ := hx1 _ _ _ _ h
  have hX2 := hX1.takes hw1 (okl hcl1 (Or.inr rfl) (by decide))
  have hc1 := hc1 hc
  have l4 : (wordL 2).length = 5 := rfl
  rw [l4] at hc1 ⊢
  have ha1 := hs1.2.1
  simp only [ha1, e3, Int.toNat_natCast]
  refine ⟨trivial, ⟨by omega, by omega⟩, ⟨by omega, by omega⟩, by omega, ?_⟩
  refine t_num (d := d + 128) (w := w) (by omega) hs1 (by omega) _ ?_
  rintro v2 M2 C2 ⟨rfl, y2, g2, len, hy2, hl2, rfl, hs2, hx2, hc2, hw2⟩
  obtain ⟨cls2, hcl2, hX3⟩ := hx2 _ _ _ _ hX2
  have hX4 := hX3.num (Or.inr (Or.inl ⟨rfl, rfl⟩)) hw2 (by omega)
  have hc2 := hc2 hc1
  have ha2 := hs2.2.1
  have hF' : TF n m fa (fun T => sr (F T) (4 * m + 1) (w : Int)) 2 := fun T x hx => by
    by_cases z : x = 4 * m + 1
    · rw [z]
      show sr (F T) (4 * m + 1) (w : Int) (4 * m + 1) = _
      rw [sr_same, hw9]
    · show sr (F T) (4 * m + 1) (w : Int) x = _
      rw [sr_ne z]
      exact hF T x (by omega)
  have hF3' : ∀ T, (fun T => sr (F T) (4 * m + 1) (w : Int)) T (4 * m + 3) = 1 := fun T => by
    show sr (F T) (4 * m + 1) (w : Int) (4 * m + 3) = 1
    rw [sr_ne (by omega)]
    exact hF3 T
  simp only [ha2, e2]
  have g183 : ∀ (C : LMem) (K : Nat), K ≤ kc + 8 → TSq C0 r a b q1 q3 fa fb fs g2 C → L_W_isTape_183 (d + 130) Q M2 C K r a b q1 ((i + y1 + 5 + y2 + len : Nat) : Int) cnt tm q3 (m : Int) (4 * ((n : Int) + (m : Int))) := fun C K hK hs => tp_183 hm hn hs hX4 hF' hF3' hc2 (by omega) hk hw (by omega) (fun C kc' i' f' z1 z2 z3 => hN C kc' i' f' (by omega) z2 z3)
  refine ⟨trivial, ⟨by omega, by omega⟩, ⟨by omega, by omega⟩, fun _ => g183 C2 _ (by omega) hs2, fun z => ⟨by omega, ?_⟩⟩
  obtain ⟨x, hr⟩ := hs2.1
  refine s_nextF hr _ ?_
  rintro v3 M3 C3 ⟨rfl, hv3, hr3, hf3⟩
  have hs3 := hs2.rnd hf3 hr3
  refine ⟨⟨by omega, by omega⟩, ⟨by omega, by omega⟩, fun _ => ?_, fun _ => g183 C3 _ (by omega) hs3⟩
  refine tp_194 (Or.inl rfl) hm hn hs3 hX4 (fun T x hx => ?_) hF3' hc2 (by omega) hw (by omega) (fun C kc' i' f' z1 z2 z3 => hN C kc' i' f' (by omega) z2 z3)
  by_cases z9 : x = 4 * m + 2
  · rw [z9]
    show sr (F T) (4 * m + 1) (w : Int) (4 * m + 2) = _
    rw [sr_ne (by omega), hF2]
    omega
  · exact hF' T x (by omega)
end TPD
