/-! The steps of the law's machine on cells, and its ends. -/
section StepsL5
variable {p : Program} {l : Launch} {e : Env} {R : Room} {s : State} {m : MethodId} {args : Array Value} {below : List Frame} {meth : Method} {c : Code}
variable {ρ sg sgL : Nat → Nat} {cA cW : Nat → ClassId} {D : va_G} {A J : Nat → Prop} {B : Nat} {bytes : ByteArray} {maxL km : Nat} {ret : Option FieldType} {pcs : List Nat} {rk : Nat} {Q : LQ}
variable {wl : List Cond} {linfs : List Inf} {mac : MacS} {cal : LCal} {cc : Cal} {ip kc : Nat} {lo : PL} {st : PS} {M : Mem} {C : LMem} {a b c0 d : Nat} {k : Int} {ts : List Nat} {ps : List Nat} {dp : Nat}
theorem w_heapL (hX : HypL p l R s m args meth c sg sgL cA cW D A J B bytes maxL km ret dp) (hrk : rk = rkL ret) (hwl : ∀ w ∈ wl, w ∈ lw_tbl) (hgd : ∀ w ∈ wl, goodWord w = true ∨ isStrW w = true) {i : Instr}
    (hi : match i with
      | .ineg | .baload | .bastore | .aastore | .aconst_null | .areturn | .ifnull _ | .ifnonnull _ | .newarray _ | .anewarray _ | .multianewarray _ _ | .iaload | .laload | .aaload | .iastore | .lastore | .arraylength | .ireturn | .lreturn | .ldc2_w _ => True
      | _ => False)
    (hc : chkIL linfs wl bytes maxL ret pcs ip ps (i, (a, b, c0, d), k, ts) = true)
    (hs : stepL mac cal cc rk km Q (PWL p l e R s m args below meth c ρ sgL cA cW D A J B maxL km pcs rk Q) (i, (a, b, c0, d), k, ts) ip kc lo st M C) : PWL p l e R s m args below meth c ρ sgL cA cW D A J B maxL km pcs rk Q ip kc lo st M C := by
  obtain ⟨hx, hb, hr, hml, hown, hlocks, hts, hfix, hsz, hBs, htr, hR1, hR2, hm40⟩ := hX
  intro hkm hJ H locs ls hl hw hS
  have hK := hfix.2.1
  have hAO := hfix.2.2.2.2.2.1
  have use : ∀ (pp : Nat) (w : Cond), wAt wl pp w = true → (isStrW w = false) → w ∈ LW := fun pp w h h2 => by
    have hm := wAt_mem h
    rcases hgd w hm with q | q
    · exact LW_mem (hwl w hm) q
    · rw [h2] at q; cases q
  cases i <;> try exact hi.elim
  all_goals clear hi
  all_goals simp only [stepL] at hs
  all_goals simp only [chkIL, chkI, dN, dE, jT, Bool.and_eq_true, decide_eq_true_eq] at hc
  case ineg =>
    obtain ⟨h1, h2⟩ := hc
    obtain ⟨x, r, rfl, hs11⟩ := pI_of hs
    refine lv_ineg hx hb h1 ?_
    rw [← Int32.ofInt_neg, ← h2]
    exact hs11 hkm hJ H locs ls hl hw hS
  case aconst_null =>
    obtain ⟨h1, h2⟩ := hc
    refine lv_null hx hb h1 ?_
    rw [← h2]
    exact hs hkm hJ H locs ls hl hw hS
  case ldc2_w n =>
    obtain ⟨⟨h1, h2⟩, h3⟩ := hc
    rcases ps with _ | ⟨q0, _ | ⟨q1, ps⟩⟩
    · cases h3
    · refine lv_ldc2 hx hb hown (hts _ (use _ _ h3 rfl)) h1 ?_
      rw [← h2]
      exact hs hkm hJ H locs ls hl hw hS
    · cases h3
  case ifnull off =>
    obtain ⟨⟨h1, h2⟩, h3⟩ := hc
    obtain ⟨n, r, rfl, g1, g2⟩ := pO_of hs
    rw [List.map_cons]
    rcases lrf_cases (B := B) (ρ := ρ) (sgL := sgL) n with ⟨e1, e2⟩ | ⟨q, e1, e2⟩
    · rw [e2]
      exact lv_ifnullN hx hb h1 h3 (g1 e1 hkm hJ H locs ls hl hw hS)
    · rw [e2]
      refine lv_ifnull hx hb h1 ?_
      rw [← h2]
      exact g2 (by omega) hkm hJ H locs ls hl hw hS
  case ifnonnull off =>
    obtain ⟨⟨h1, h2⟩, h3⟩ := hc
    obtain ⟨n, r, rfl, g1, g2⟩ := pO_of hs
    rw [List.map_cons]
    rcases lrf_cases (B := B) (ρ := ρ) (sgL := sgL) n with ⟨e1, e2⟩ | ⟨q, e1, e2⟩
    · rw [e2]
      refine lv_ifnonnullN hx hb h1 ?_
      rw [← h2]
      exact g2 e1 hkm hJ H locs ls hl hw hS
    · rw [e2]
      exact lv_ifnonnull hx hb h1 h3 (g1 (by omega) hkm hJ H locs ls hl hw hS)
  case newarray at_ =>
    obtain ⟨⟨⟨h1, h2⟩, h3, h4⟩, h5⟩ := hc
    obtain ⟨n, r, rfl, hn, hkk, hs1⟩ := pI_of hs
    rcases ps with _ | ⟨q0, _ | ⟨q1, ps⟩⟩
    · cases h5
    · refine l_newa (k := c0) hx hb hK (by rw [h3]; exact hts _ (use _ _ h5 rfl)) hw hS hsz hBs h4 h3 hn (by omega) (by omega) h1 (fun q H1 hf hw1 hS1 => ?_)
      rw [← h2]
      exact hs1 q hf hkk hJ H1 locs ls hl hw1 hS1
    · cases h5
  case anewarray idx =>
    obtain ⟨⟨⟨h1, h2⟩, h3⟩, h5⟩ := hc
    obtain ⟨n, r, rfl, hn, hkk, hs1⟩ := pI_of hs
    subst h3
    rcases ps with _ | ⟨q0, _ | ⟨q1, ps⟩⟩
    · cases h5
    · refine l_anew hx hb hown hK (hts _ (use _ _ h5 rfl)) hAO.2.2.1 hw hS hsz hBs hn (by omega) (by omega) h1 (fun q H1 hf hw1 hS1 => ?_)
      rw [← h2]
      exact hs1 q hf hkk hJ H1 locs ls hl hw1 hS1
    · cases h5
  case multianewarray idx dm =>
    obtain ⟨⟨⟨h1, h2⟩, rfl, h4⟩, h5⟩ := hc
    obtain ⟨k9, r, rfl, hs1⟩ := pI_of hs
    obtain ⟨n, r, rfl, ⟨hn, hk9⟩, hkk, hs2⟩ := pI_of hs1
    rcases ps with _ | ⟨q0, _ | ⟨q1, _ | ⟨q2, ps⟩⟩⟩ <;> try (cases h5; done)
    have h50 : wAt wl q0 (.classLink RL idx (clNm c0)) = true ∧ (c0 = 7 ∨ wAt wl q1 (.arrayClass (kTy (elK c0))) = true) := by
      rw [Bool.and_eq_true] at h5
      refine ⟨h5.1, ?_⟩
      rcases h4 with rfl | rfl | rfl
      · exact Or.inr h5.2
      · exact Or.inr h5.2
      · exact Or.inl rfl
    have go : ∀ ty : FieldType, ((c0 = 4 ∧ ty = .int) ∨ (c0 = 5 ∧ ty = .boolean) ∨ (c0 = 7 ∧ ty = .array .long)) → (Cond.classLink RL idx ("[" ++ (FieldType.array ty).toString)).before args s = true → AOA ty s → (Cond.arrayClass ty).before args s = true → W p l e R s m args below meth c H locs kc (52 * kc) (MQ below (QcL D cA cW A ρ B rk Q) args s km (52 * km) A) (F0 m (pcN pcs ip) ls ((.inl k9 :: .inl n :: r : PS).map (lpv B (ρ 149) sgL))) := fun ty h3 hcl hao hac => by
      refine l_mna hx hb hown hK h3 hcl (AOA.use hao) hac hw hS hsz hBs hn hk9 (by omega) (by omega) h1 (fun q H1 hf hw1 hS1 => ?_)
      rw [← h2]
      exact hs2 q hf hkk hJ H1 locs ls hl hw1 hS1
    have hcl := hts _ (use _ _ h50.1 rfl)
    rcases h4 with rfl | rfl | rfl
    · exact go .int (Or.inl ⟨rfl, rfl⟩) hcl hAO.1 (hts _ (use _ _ (h50.2.resolve_left (by decide)) rfl))
    · exact go .boolean (Or.inr (Or.inl ⟨rfl, rfl⟩)) hcl hAO.2.1 (hts _ (use _ _ (h50.2.resolve_left (by decide)) rfl))
    · exact go (.array .long) (Or.inr (Or.inr ⟨rfl, rfl⟩)) hcl hAO.2.2.2 (aoa_class hAO.2.2.1)
  case iaload =>
    obtain ⟨h1, h2⟩ := hc
    obtain ⟨x, r, rfl, hs1⟩ := pI_of hs
    obtain ⟨q, r, rfl, hk, hi, hs2⟩ := pC_of hs1
    obtain ⟨-, -, ⟨-, hl9⟩, hat⟩ := hw.2.2 q (by omega)
    rw [lCell_k hk] at hat
    have hq := z_in hi hl9
    refine va_iald (ws := [(B + q, .inl (cW 1, (C q).2.1, .inl fun j => Int32.ofInt ((C q).2.2 j)))]) hx hb hK (lat_one hat) 0 0 rfl (tysW_at 1 (by decide) (by decide)) hq.1 h1 ?_
    rw [hq.2, ← h2]
    exact hs2 hkm hJ H locs ls hl hw hS
  case laload =>
    obtain ⟨h1, h2⟩ := hc
    obtain ⟨x, r, rfl, hs1⟩ := pI_of hs
    obtain ⟨q, r, rfl, hk, hi, hs2⟩ := pC_of hs1
    obtain ⟨-, -, ⟨-, hl9⟩, hat⟩ := hw.2.2 q (by omega)
    rw [lCell_k hk] at hat
    have hq := z_in hi hl9
    refine va_lald (ws := [(B + q, .inl (cW 2, (C q).2.1, .inr (.inl fun j => Int64.ofInt ((C q).2.2 j))))]) hx hb hK (lat_one hat) 0 1 rfl (tysW_at 2 (by decide) (by decide)) hq.1 h1 ?_
    rw [hq.2, ← h2]
    exact hs2 hkm hJ H locs ls hl hw hS
  case baload =>
    obtain ⟨h1, h2⟩ := hc
    obtain ⟨x, r, rfl, hs1⟩ := pI_of hs
    obtain ⟨q, r, rfl, hk, hi, hs2⟩ := pC_of hs1
    obtain ⟨-, -, ⟨-, hl9⟩, hat⟩ := hw.2.2 q (by omega)
    rw [lCell_k hk] at hat
    have hq := z_in hi hl9
    refine va_zald (ws := [(B + q, .inl (cW 3, (C q).2.1, .inl fun j => Int32.ofInt ((C q).2.2 j)))]) hx hb hK (lat_one hat) 0 2 rfl (tysW_at 3 (by decide) (by decide)) hq.1 h1 ?_
    rw [hq.2, ← h2]
    exact hs2 hkm hJ H locs ls hl hw hS
  case aaload =>
    obtain ⟨h1, h2⟩ := hc
    obtain ⟨x, r, rfl, hs1⟩ := pI_of hs
    obtain ⟨q, r, rfl, hk, hi, hs2⟩ := pC_of hs1
    refine l_aald (ρ := ρ) (sgL := sgL) hx hb hK hw hk hi h1 ?_
    rw [← h2]
    exact hs2 hkm hJ H locs ls hl hw hS
  case iastore =>
    obtain ⟨h1, h2⟩ := hc
    obtain ⟨v, r, rfl, hs1⟩ := pI_of hs
    obtain ⟨x, r, rfl, hs2⟩ := pI_of hs1
    obtain ⟨q, r, rfl, hk, hi, hs3⟩ := pC_of hs2
    refine l_iast hx hb hK hw hS hk hi h1 (fun H1 locs1 hw1 hS1 => ?_)
    rw [← h2]
    exact hs3 hkm hJ H1 locs1 ls hl hw1 hS1
  case lastore =>
    obtain ⟨h1, h2⟩ := hc
    obtain ⟨v, r, rfl, hs1⟩ := pL_of hs
    obtain ⟨x, r, rfl, hs2⟩ := pI_of hs1
    obtain ⟨q, r, rfl, hk, hi, hs3⟩ := pC_of hs2
    refine l_last hx hb hK hw hS hk hi h1 (fun H1 locs1 hw1 hS1 => ?_)
    rw [← h2]
    exact hs3 hkm hJ H1 locs1 ls hl hw1 hS1
  case bastore =>
    obtain ⟨h1, h2⟩ := hc
    obtain ⟨v, r, rfl, hs1⟩ := pI_of hs
    obtain ⟨x, r, rfl, hs2⟩ := pI_of hs1
    obtain ⟨q, r, rfl, hk, hi, hv, hs3⟩ := pC_of hs2
    refine l_zast hx hb hK hw hS hk hi hv h1 (fun H1 locs1 hw1 hS1 => ?_)
    rw [← h2]
    exact hs3 hkm hJ H1 locs1 ls hl hw1 hS1
  case aastore =>
    obtain ⟨h1, h2⟩ := hc
    obtain ⟨v, r, rfl, hs1⟩ := pO_of hs
    obtain ⟨x, r, rfl, hs2⟩ := pI_of hs1
    obtain ⟨q, r, rfl, hk, hi, hv, hs3⟩ := pC_of hs2
    refine l_aast (ρ := ρ) (sgL := sgL) hAO hx hb hK hw hS hk hi hv h1 (fun H1 locs1 hw1 hS1 => ?_)
    rw [← h2]
    exact hs3 hkm hJ H1 locs1 ls hl hw1 hS1
  case arraylength =>
    obtain ⟨h1, h2⟩ := hc
    obtain ⟨q, r, rfl, hk, hs1⟩ := pC_of hs
    obtain ⟨-, -, ⟨-, hl9⟩, hat⟩ := hw.2.2 q (by omega)
    refine va_alen (ws := [(B + q, lCell B cW (C q))]) hx hb hK (lat_one hat) 0 ((C q).1 - 1) rfl (tysW_at _ hk.1 hk.2) (v := Int32.ofInt ((C q).2.1 : Int)) Int32.ofInt_eq_ofNat.symm h1 ?_
    rw [← h2]
    exact hs1 hkm hJ H locs ls hl hw hS
  case ireturn =>
    obtain ⟨h1, h2⟩ := hc
    obtain ⟨x, r, rfl, hs1⟩ := pI_of hs
    obtain ⟨rfl, hs2⟩ := isE_of hs1
    refine W.widen hkm (Nat.mul_le_mul_left 52 hkm) ?_
    rcases h2 with h2 | h2
    · subst h2
      subst hrk
      exact W.iret (v := Int32.ofInt x) hx hb hr (fun t ht hW => ⟨⟨_, (M, C), rfl, ⟨x, rfl, hs2⟩, (by show wWL D cA cW A ρ B M C t.heap; rw [ht]; exact hw)⟩, hS.F ht⟩) hS.2.2 h1
    · subst h2
      subst hrk
      obtain ⟨h01, hs3⟩ := hs2
      exact W.zret (v := Int32.ofInt x) (ty := .boolean) hx hb hr (by rcases h01 with rfl | rfl <;> decide) (fun t ht hW => ⟨⟨_, (M, C), rfl, ⟨x, rfl, hs3⟩, (by show wWL D cA cW A ρ B M C t.heap; rw [ht]; exact hw)⟩, hS.F ht⟩) hS.2.2 h1
  case lreturn =>
    obtain ⟨h1, h2⟩ := hc
    obtain ⟨x, r, rfl, hs1⟩ := pL_of hs
    obtain ⟨rfl, hs2⟩ := isE_of hs1
    refine W.widen hkm (Nat.mul_le_mul_left 52 hkm) ?_
    subst h2
    subst hrk
    exact W.lret (v := Int64.ofInt x) hx hb hr (fun t ht hW => ⟨⟨_, (M, C), rfl, ⟨x, rfl, hs2⟩, (by show wWL D cA cW A ρ B M C t.heap; rw [ht]; exact hw)⟩, hS.F ht⟩) hS.2.2 h1
  case areturn =>
    obtain ⟨h1, h2⟩ := hc
    obtain ⟨n, r, rfl, hs1⟩ := pO_of hs
    obtain ⟨rfl, hs2⟩ := isE_of hs1
    refine W.widen hkm (Nat.mul_le_mul_left 52 hkm) ?_
    obtain ⟨t9, ht9⟩ : ∃ t, ret = some (.array t) := by
      unfold isArrT at h2
      split at h2
      · exact ⟨_, rfl⟩
      · cases h2
    subst ht9
    subst hrk
    have ev : lpv B (ρ 149) sgL (.inr (.inr (.inl n))) = va_rf (rfB B (n : Int)) := by
      unfold rfB
      rw [Int.toNat_natCast]
      cases n <;> rfl
    show W p l e R s m args below meth c H locs km (52 * km) _ (F0 m (pcN pcs ip) ls [lpv B (ρ 149) sgL (.inr (.inr (.inl n)))])
    rw [ev]
    refine W.aret (v := va_rf (rfB B (n : Int))) (rt := .array t9) hx hb hr (Or.inr ⟨_, rfl⟩) (va_rf_or _) (fun t ht hW => ⟨⟨_, (M, C), rfl, ⟨n, rfl, hs2⟩, (by show wWL D cA cW A ρ B M C t.heap; rw [ht]; exact hw)⟩, hS.F ht⟩) hS.2.2 h1
end StepsL5
