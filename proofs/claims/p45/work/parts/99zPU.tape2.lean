/-! isTape: a job is told. -/
section TPB
variable {d : Nat} {M : Mem} {C0 C : LMem} {r a b q1 q3 : Nat} {fa fb fs f : Nat → Int}
theorem t_word {i k : Nat} (hk : 1 ≤ k ∧ k < 6) {t3 : Nat} (ht : k = t3 + 1) (h : TSq C0 r a b q1 q3 fa fb fs f C) (hi : i + 8 ≤ 200) :
    LPo (d + 2) cW_puts [.inr (.inr (.inl (q1 + 1))), .inl (i : Int), .inr (.inr (.inl (r + 1))), .inr (.inr (.inr (t3 + 1)))] M C (fun v m c' => m = M ∧ ∃ (y : Nat) (g : Nat → Int), y ≤ 1 ∧ v = ((i + y + (wordL k).length : Nat) : Int) ∧ TSq C0 r a b q1 q3 fa fb fs g c' ∧ (∀ st c cls F, TX f i st c cls F → ∃ cls', (cls' = 0 ∨ cls' = cls) ∧ TX g (i + y) st c cls' F) ∧ (Ch9 f i → Ch9 g (i + y + (wordL k).length)) ∧ wordAt g (i + y) k) := by
  have hw : txL (t3 + 1) = wordL k := by
    unfold txL
    rw [if_pos (by omega), ht]
  have hlen : (wordL k).length ≤ 6 := by
    rcases (show k = 1 ∨ k = 2 ∨ k = 3 ∨ k = 4 ∨ k = 5 by omega) with rfl | rfl | rfl | rfl | rfl <;> decide
  refine (t_puts h (by rw [hw]; omega)).imp ?_
  rintro v m c' ⟨rfl, y, g, hy, hv, hs, g1, g2, g3⟩
  rw [hw] at hv g3
  exact ⟨rfl, y, g, hy, hv, hs, fun st c cls F hF => hF.pre hy g1 g2, fun hc => hc.app hy g1 g2 (fun x hx => by rw [g3 x hx]; exact word_ch k hk.2 hk.1 x hx), word_of g3⟩
theorem t_num {i w : Nat} (hw : w < 1000) (h : TSq C0 r a b q1 q3 fa fb fs f C) (hi : i + 8 ≤ 200) :
    LPo (d + 2) cW_puts [.inr (.inr (.inl (q1 + 1))), .inl (i : Int), .inr (.inr (.inl (r + 1))), .inr (.inr (.inr (2 * w + 0 + 5 + 1)))] M C (fun v m c' => m = M ∧ ∃ (y : Nat) (g : Nat → Int) (len : Nat), y ≤ 1 ∧ len ≤ 3 ∧ v = ((i + y + len : Nat) : Int) ∧ TSq C0 r a b q1 q3 fa fb fs g c' ∧ (∀ st c cls F, TX f i st c cls F → ∃ cls', (cls' = 0 ∨ cls' = cls) ∧ TX g (i + y) st c cls' F) ∧ (Ch9 f i → Ch9 g (i + y + len)) ∧ numAt g (i + y) len (w : Int)) := by
  have h9 := dig_len (v := w)
  refine (t_puts (t3 := 2 * w + 0 + 5) h (by rw [tx_num]; omega)).imp ?_
  rintro v m c' ⟨rfl, y, g, hy, hv, hs, g1, g2, g3⟩
  rw [tx_num] at hv g3
  have hn := dig_num hw g3
  exact ⟨rfl, y, g, _, hy, h9.2.1, hv, hs, fun st c cls F hF => hF.pre hy g1 g2, fun hc => hc.app hy g1 g2 (num_ch hn), hn⟩
theorem t_num0 {i w : Nat} (hw : w < 100) (h : TSq C0 r a b q1 q3 fa fb fs f C) (hi : i + 8 ≤ 200) :
    LPo (d + 2) cW_puts [.inr (.inr (.inl (q1 + 1))), .inl (i : Int), .inr (.inr (.inl (r + 1))), .inr (.inr (.inr (2 * w + 1 + 5 + 1)))] M C (fun v m c' => m = M ∧ ∃ (y : Nat) (g : Nat → Int) (len : Nat), y ≤ 1 ∧ len ≤ 3 ∧ v = ((i + y + len : Nat) : Int) ∧ TSq C0 r a b q1 q3 fa fb fs g c' ∧ (∀ st c cls F, TX f i st c cls F → ∃ cls', (cls' = 0 ∨ cls' = cls) ∧ TX g (i + y) st c cls' F) ∧ (Ch9 f i → Ch9 g (i + y + len)) ∧ numAt g (i + y) len (w : Int)) := by
  have h9 := dig_len (v := w)
  have hl : (48 :: digT w).length = (digT w).length + 1 := rfl
  have h2 := h9.2.2 hw
  refine (t_puts (t3 := 2 * w + 1 + 5) h (by rw [tx_num0, hl]; omega)).imp ?_
  rintro v m c' ⟨rfl, y, g, hy, hv, hs, g1, g2, g3⟩
  rw [tx_num0] at hv g3
  have hn := dig_num0 (by omega) g3
  exact ⟨rfl, y, g, _, hy, by rw [hl]; omega, hv, hs, fun st c cls F hF => hF.pre hy g1 g2, fun hc => hc.app hy g1 g2 (num_ch hn), hn⟩
end TPB
def TF (n m : Nat) (fa : Nat → Int) (F : (Nat → Int) → Nat → Int) (k : Nat) : Prop := ∀ T x, x < 4 * m + k → F T x = fa (4 * n + x)
/-- behind a job's last sign -/
def TE (n m : Nat) (fa f : Nat → Int) (i : Nat) : Prop := (∃ F, TX f i 0 m 0 F ∧ TF n m fa F 0) ∧ Ch9 f i ∧ i ≤ 50 * m ∧ (0 < m → 0 < i ∧ ∃ st c cls F, (st = 4 ∨ st = 6 ∨ st = 8) ∧ TX f (i - 1) st c cls F)
theorem okl {cls cls' : Nat} {v : Int} (h : cls' = 0 ∨ cls' = cls) (hc : cls = 0 ∨ cls = 1) (hv : 97 ≤ v) : okc cls' v := ⟨fun _ z => by have := isD_iff.mp z; omega, fun z => by omega⟩
section TPC
variable {d : Nat} {Q : LQ} {M : Mem} {C0 C : LMem} {r a b q1 q3 n m i kc : Nat} {fa fb fs f : Nat → Int} {cnt tm : Int} {F : (Nat → Int) → Nat → Int}
theorem te_end {st cls y : Nat} {g : Nat → Int} (hst : st = 4 ∨ st = 6 ∨ st = 8) (hx : ∀ st c cls F, TX f i st c cls F → ∃ cls', (cls' = 0 ∨ cls' = cls) ∧ TX g (i + y) st c cls' F) (h : TX f i st m cls F) (hw : wordAt g (i + y) 5) (hF : TF n m fa F 4) (hc : Ch9 g (i + y + 1)) (hi : i + y + 1 ≤ 50 * (m + 1)) : TE n (m + 1) fa g (i + y + 1) := by
  obtain ⟨cls', -, h1⟩ := hx _ _ _ _ h
  refine ⟨⟨F, h1.semi hst (w_first hw (v := 59) rfl), fun T x hx => hF T x (by omega)⟩, hc, hi, fun _ => ⟨Nat.succ_pos _, st, m, cls', F, hst, h1⟩⟩
theorem tp_194 {st : Nat} (hst : st = 4 ∨ st = 6) (hm : m < 3) (hn : n ≤ 20) (hs : TSq C0 r a b q1 q3 fa fb fs f C) (h : TX f i st m 1 F) (hF : TF n m fa F 3) (hF3 : ∀ T, F T (4 * m + 3) = 1) (hc : Ch9 f i) (hi : i ≤ 50 * m + 28) (hw : 1 ≤ fa (4 * n + (4 * m + 3)) ∧ fa (4 * n + (4 * m + 3)) ≤ 9) (hkc : kc ≤ 1000)
    (hN : ∀ (C : LMem) (kc' i' : Nat) (f' : Nat → Int), kc' ≤ kc + 16 → TSq C0 r a b q1 q3 fa fb fs f' C → TE n (m + 1) fa f' i' → L_W_isTape_88 (d + 130) Q M C kc' r a b q1 (i' : Int) cnt tm q3 ((m : Int) + 1) (some (.inl (4 * ((n : Int) + (m : Int)))))) :
    L_W_isTape_194 (d + 130) Q M C kc r a b q1 (i : Int) cnt tm q3 (m : Int) (4 * ((n : Int) + (m : Int))) := by
  have ha := hs.2.1
  obtain ⟨w, hw9⟩ : ∃ w : Nat, fa (4 * n + (4 * m + 3)) = (w : Int) := ⟨(fa (4 * n + (4 * m + 3))).toNat, by omega⟩
  have e3 : fa (4 * ((n : Int) + (m : Int)) + 3).toNat = (w : Int) := by rw [← hw9]; congr 1; omega
  rw [hw9] at hw
  -- the word, the number, the end
  have full : ∀ (C : LMem) (K : Nat), K ≤ kc → TSq C0 r a b q1 q3 fa fb fs f C → lcal (d + 130) cW_puts [.inr (.inr (.inl (q1 + 1))), .inl (i : Int), .inr (.inr (.inl (r + 1))), .inr (.inr (.inr 4))] M C (fun v1 M1 C1 => (C1 a).1 = 1 ∧ (0 ≤ 4 * ((n : Int) + (m : Int)) + 3 ∧ 4 * ((n : Int) + (m : Int)) + 3 < ((C1 a).2.1 : Int)) ∧ (0 ≤ (C1 a).2.2 (4 * ((n : Int) + (m : Int)) + 3).toNat ∧ (C1 a).2.2 (4 * ((n : Int) + (m : Int)) + 3).toNat < 1000) ∧ K + 8 ≤ 3000 ∧ lcal (d + 130) cW_puts [.inr (.inr (.inl (q1 + 1))), .inl v1, .inr (.inr (.inl (r + 1))), .inr (.inr (.inr (2 * ((C1 a).2.2 (4 * ((n : Int) + (m : Int)) + 3).toNat).toNat + 0 + 5 + 1)))] M1 C1 (fun v2 M2 C2 => K + 8 + 0 ≤ 3000 ∧ lcal (d + 130) cW_puts [.inr (.inr (.inl (q1 + 1))), .inl v2, .inr (.inr (.inl (r + 1))), .inr (.inr (.inr 5))] M2 C2 (fun v3 M3 C3 => L_W_isTape_88 (d + 130) Q M3 C3 (K + 8 + 0) r a b q1 v3 cnt tm q3 ((m : Int) + 1) (some (.inl (4 * ((n : Int) + (m : Int)))))))) := by
    intro C K hK hs
    refine t_word (d := d + 128) (k := 4) (t3 := 3) ⟨by decide, by decide⟩ rfl hs (by omega) _ ?_
    rintro v1 M1 C1 ⟨rfl, y1, g1, hy1, rfl, hs1, hx1, hc1, hw1⟩
    obtain ⟨cls1, hcl1, hX1⟩ := hx1 _ _ _ _ h
    have hX2 := hX1.weighs hst hw1 (okl hcl1 (Or.inr rfl) (by decide))
    have hc1 := hc1 hc
    have l4 : (wordL 4).length = 6 := rfl
    rw [l4] at hc1 ⊢
    have ha1 := hs1.2.1
    simp only [ha1, e3, Int.toNat_natCast]
    refine ⟨trivial, ⟨by omega, by omega⟩, ⟨by omega, by omega⟩, by omega, ?_⟩
    refine t_num (d := d + 128) (w := w) (by omega) hs1 (by omega) _ ?_
    rintro v2 M2 C2 ⟨rfl, y2, g2, len, hy2, hl2, rfl, hs2, hx2, hc2, hw2⟩
    obtain ⟨cls2, hcl2, hX3⟩ := hx2 _ _ _ _ hX2
    have hX4 := hX3.num (Or.inr (Or.inr (Or.inr ⟨rfl, rfl⟩))) hw2 (by omega)
    have hc2 := hc2 hc1
    refine ⟨by omega, ?_⟩
    refine t_word (d := d + 128) (k := 5) (t3 := 4) ⟨by decide, by decide⟩ rfl hs2 (by omega) _ ?_
    rintro v3 M3 C3 ⟨rfl, y3, g3, hy3, rfl, hs3, hx3, hc3, hw3⟩
    have l5 : (wordL 5).length = 1 := rfl
    rw [l5] at hc3 ⊢
    refine hN C3 (K + 8 + 0) _ g3 (by omega) hs3 (te_end (Or.inr (Or.inr rfl)) hx3 hX4 hw3 (fun T x hx => ?_) (hc3 hc2) (by omega))
    by_cases z : x = 4 * m + 3
    · rw [z, sr_same, hw9]
    · rw [sr_ne z]
      exact hF T x (by omega)
  refine b_W_isTape_194 ?_
  simp only [ha, e3]
  refine ⟨trivial, ⟨by omega, by omega⟩, ⟨by omega, by omega⟩, fun z => ⟨by omega, ?_⟩, fun z => ⟨by omega, ?_⟩⟩
  · exact full C (kc + 0) (Nat.le_refl _) hs
  · obtain ⟨x, hr⟩ := hs.1
    refine s_nextF hr _ ?_
    rintro v1 M1 C1 ⟨rfl, hv1, hr1, hf1⟩
    have hs1 := hs.rnd hf1 hr1
    refine ⟨⟨by omega, by omega⟩, ⟨by omega, by omega⟩, fun _ => ⟨by omega, ?_⟩, fun _ => ⟨by omega, ?_⟩⟩
    · refine t_word (d := d + 128) (k := 5) (t3 := 4) ⟨by decide, by decide⟩ rfl hs1 (by omega) _ ?_
      rintro v3 M3 C3 ⟨rfl, y3, g3, hy3, rfl, hs3, hx3, hc3, hw3⟩
      have l5 : (wordL 5).length = 1 := rfl
      rw [l5] at hc3 ⊢
      refine hN C3 _ _ g3 (by omega) hs3 (te_end (by omega) hx3 h hw3 (fun T x hx => ?_) (hc3 hc) (by omega))
      by_cases e : x = 4 * m + 3
      · rw [e, hF3, hw9]; omega
      · exact hF T x (by omega)
    · exact full C1 (kc + 0 + 0) (Nat.le_refl _) hs1
end TPC
