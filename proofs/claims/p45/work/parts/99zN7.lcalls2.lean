/-! Words of the tables that the law's walk names (by program). -/
theorem kL_len : ((Jvm.Cond.methodLink "QueuewardLaw" (235 : Nat) ({ cls := "java/lang/String", name := "length", desc := "()I" } : Jvm.MethodName)) : Cond) ∈ LW := LW_mem (lw_in7 _ (List.mem_of_getElem? (i := 19) (by decide +kernel))) rfl
theorem kL_chr : ((Jvm.Cond.methodLink "QueuewardLaw" (240 : Nat) ({ cls := "java/lang/String", name := "charAt", desc := "(I)C" } : Jvm.MethodName)) : Cond) ∈ LW := LW_mem (lw_in7 _ (List.mem_of_getElem? (i := 20) (by decide +kernel))) rfl
theorem kL_sig : ((Jvm.Cond.methodLink "QueuewardLaw" (140 : Nat) ({ cls := "java/lang/Long", name := "signum", desc := "(J)I" } : Jvm.MethodName)) : Cond) ∈ LW := LW_mem (lw_in6 _ (List.mem_of_getElem? (i := 184) (by decide +kernel))) rfl
theorem iL_sig : ((Jvm.Cond.static ({ cls := "java/lang/Long", name := "signum", desc := "(J)I" } : Jvm.MethodName)) : Cond) ∈ LW := LW_mem (lw_in6 _ (List.mem_of_getElem? (i := 185) (by decide +kernel))) rfl
theorem inLg : ((Jvm.Cond.initialized "java/lang/Long") : Cond) ∈ LW := LW_mem (lw_in1 _ (List.mem_of_getElem? (i := 31) (by decide +kernel))) rfl
theorem cL_sig : ((Jvm.Cond.code ({ cls := "java/lang/Long", name := "signum", desc := "(J)I" } : Jvm.MethodName) prog_28_method_57_code (2 : Nat) (Option.some Jvm.ClassFile.FieldType.int)) : Cond) ∈ LW := LW_mem (lw_in6 _ (List.mem_of_getElem? (i := 186) (by decide +kernel))) rfl
def yL_sig : MethodName := ⟨"java/lang/Long", "signum", "(J)I"⟩
abbrev bL_sig : ByteArray := prog_28_method_57_code
theorem dSig_0 : decode bL_sig 0 = .ok (.lload_n 0, 1) := by decide +kernel
theorem dSig_1 : decode bL_sig 1 = .ok (.bipush 63, 2) := by decide +kernel
theorem dSig_3 : decode bL_sig 3 = .ok (.lshr, 1) := by decide +kernel
theorem dSig_4 : decode bL_sig 4 = .ok (.lload_n 0, 1) := by decide +kernel
theorem dSig_5 : decode bL_sig 5 = .ok (.lneg, 1) := by decide +kernel
theorem dSig_6 : decode bL_sig 6 = .ok (.bipush 63, 2) := by decide +kernel
theorem dSig_8 : decode bL_sig 8 = .ok (.lushr, 1) := by decide +kernel
theorem dSig_9 : decode bL_sig 9 = .ok (.lor, 1) := by decide +kernel
theorem dSig_10 : decode bL_sig 10 = .ok (.l2i, 1) := by decide +kernel
theorem dSig_11 : decode bL_sig 11 = .ok (.ireturn, 1) := by decide +kernel
theorem z64_shr63 {x : Int} (hx : R64 x) : Int64.ofInt x >>> ((63 : Int32).toInt64 &&& 63) = Int64.ofInt (x / 9223372036854775808) := by
  have hX : (BitVec.ofInt 64 x).toInt = x := by
    have := zi64 hx
    rwa [← Int64.toInt_toBitVec, Int64.toBitVec_ofInt] at this
  rw [← Int64.toBitVec_inj, Int64.toBitVec_shiftRight, Int64.toBitVec_ofInt, Int64.toBitVec_ofInt]
  rw [show ((63 : Int32).toInt64 &&& 63).toBitVec.smod 64 = 63#64 by decide]
  apply BitVec.eq_of_toInt_eq
  rw [BitVec.sshiftRight_eq', BitVec.toInt_sshiftRight, show (63#64).toNat = 63 by decide, hX, Int.shiftRight_eq_div_pow]
  have ha := hx.1
  have hb := hx.2
  have h6 := zi64 (x := x / 9223372036854775808) ⟨by omega, by omega⟩
  rw [← Int64.toInt_toBitVec, Int64.toBitVec_ofInt] at h6
  rw [h6]
  rfl
theorem or_all (n : Nat) (h : n < 2 ^ 64) : (2 ^ 64 - 1) ||| n = 2 ^ 64 - 1 := by
  apply Nat.eq_of_testBit_eq
  intro i
  rw [Nat.testBit_or, Nat.testBit_two_pow_sub_one]
  by_cases hi : i < 64
  · simp [hi]
  · have : n.testBit i = false := Nat.testBit_lt_two_pow (Nat.lt_of_lt_of_le h (Nat.pow_le_pow_right (by decide) (by omega)))
    rw [this]
    simp
theorem sig_val {x : Int} (hx : R64 x) : Int32.ofInt (zorL (x / 9223372036854775808) (zushL (-x) 63)) = Int32.ofInt x.sign := by
  have ha := hx.1
  have hb := hx.2
  have e63 : zushL (-x) 63 = ((-x) % 18446744073709551616) / 9223372036854775808 := rfl
  rw [e63]
  rcases Int.lt_trichotomy x 0 with h | h | h
  · rw [Int.sign_eq_neg_one_of_neg h]
    have e1 : x / 9223372036854775808 = -1 := by omega
    rw [e1]
    unfold zorL
    have e2 : (((-1 : Int) % 18446744073709551616).toNat : Nat) = 2 ^ 64 - 1 := by decide
    rw [e2, or_all _ (by omega)]
    decide
  · subst h; decide
  · rw [Int.sign_eq_one_of_pos h]
    have e1 : x / 9223372036854775808 = 0 := by omega
    have e2 : ((-x) % 18446744073709551616) / 9223372036854775808 = 1 := by omega
    rw [e1, e2]
    decide
set_option maxRecDepth 100000 in
theorem m_sig {l : Launch} {x : Int} (hx0 : R64 x) : Met l yL_sig (wMt yL_sig bL_sig 2 (some .int)) ({ frames := 0, cells := 0, slots := 0, locals := 0 }) (va_Pc [.long (Int64.ofInt x)] (fun _ => True)) (QI (Int32.ofInt x.sign)) 0 0 noA := by
  refine Met.ofW (cc := bL_sig) (maxL := 2) (ret := some .int) (by decide) rfl ?_
  intro p e s m args below meth c s₁ B hml hv
  obtain ⟨rfl, -⟩ := hv
  have hx := B.exec
  have hb := B.bytes
  have hr := B.returns
  have hS : va_S noA s.heap s.heap [] := va_S.rf
  have hl := lv_entry ([.long (Int64.ofInt x)]) (n := 2) (Nat.le_of_ble_eq_true rfl)
  rw [lg_entry_eq]
  generalize (lg_sl ([.long (Int64.ofInt x)]) ++ List.replicate (2 - (lg_sl ([.long (Int64.ofInt x)])).length) Slot.unset).toArray = ls at hl ⊢
  have hl : lv_has ls 2 [(0, .long (Int64.ofInt x))] := hl
  refine lv_lload_n hx hb dSig_0 rfl (lv_at hl 0 rfl) ?_
  refine lv_bipush (v := 63) hx hb dSig_1 (by decide) ?_
  refine lv_lshr hx hb dSig_3 (z64_shr63 hx0) ?_
  refine lv_lload_n hx hb dSig_4 rfl (lv_at hl 0 rfl) ?_
  refine lv_lneg hx hb dSig_5 ?_
  rw [← Int64.ofInt_neg]
  refine lv_bipush (v := Int32.ofInt 63) hx hb dSig_6 (by decide) ?_
  refine lv_lushr hx hb dSig_8 (z64_ushr (x := -x) (y := 63) ⟨by decide, by decide⟩) ?_
  refine lv_lor hx hb dSig_9 ?_
  rw [z64_or]
  refine lv_l2i hx hb dSig_10 Int64.toInt32_ofInt ?_
  exact W.iret (v := Int32.ofInt (zorL (x / 9223372036854775808) (zushL (-x) 63))) hx hb hr (fun t ht hW => ⟨⟨_, (), rfl, sig_val hx0, trivial⟩, hS.F ht⟩) hS.2.2 dSig_11
theorem noTx_of : ∀ (as : List PV), noTx as = true → ∀ k, (.inr (.inr (.inr (k + 1))) : PV) ∉ as
  | [], _, k, h => by cases h
  | .inl x :: r, h, k, q => by
    rcases List.mem_cons.mp q with q | q
    · cases q
    · exact noTx_of r h k q
  | .inr (.inl x) :: r, h, k, q => by
    rcases List.mem_cons.mp q with q | q
    · cases q
    · exact noTx_of r h k q
  | .inr (.inr (.inl x)) :: r, h, k, q => by
    rcases List.mem_cons.mp q with q | q
    · cases q
    · exact noTx_of r h k q
  | .inr (.inr (.inr 0)) :: r, h, k, q => by
    rcases List.mem_cons.mp q with q | q
    · cases q
    · exact noTx_of r h k q
  | .inr (.inr (.inr (n + 1))) :: r, h, k, q => by cases h
section StepsL7
variable {p : Program} {l : Launch} {e : Env} {R : Room} {s : State} {m : MethodId} {args : Array Value} {below : List Frame} {meth : Method} {c : Code}
variable {ρ sg sgL : Nat → Nat} {cA cW : Nat → ClassId} {D : va_G} {A J : Nat → Prop} {B : Nat} {bytes : ByteArray} {maxL km : Nat} {ret : Option FieldType} {pcs : List Nat} {rk : Nat} {Q : LQ}
variable {wl : List Cond} {linfs : List Inf} {mac : MacS} {cal : LCal} {ip kc : Nat} {lo : PL} {st : PS} {M : Mem} {C : LMem} {a b c0 d : Nat} {k : Int} {ts : List Nat} {ps : List Nat} {dp : Nat}
variable {Z : State → Prop} {H : Heap} {locs : List Loc} {ls : Array Slot} {cells slots : Nat} {rest : List Value} {pc : Nat}
theorem wWL.kept (hw : wWL D cA cW A ρ B M C H) {H1 : Heap} (hq : ∀ q : Nat, q < H.size → H1[q]? = H[q]?) : wWL D cA cW A ρ B M C H1 := ⟨hw.1.kept fun k q hk => hq _ (hw.1 k q hk).lt, hw.2.1, hw.2.2.kept fun k hk => hq _ (hw.2.2.lt hk)⟩
theorem chkLC_of {idx : Nat} (h : chkLC linfs wl idx ps a b c0 d = true) : ∃ f p0 p1 p2, nth linfs a = some f ∧ wAt wl p0 (.methodLink RL idx f.2.1) = true ∧ wAt wl p1 (.static f.2.1) = true ∧ wAt wl p2 (.initialized RL) = true ∧ f.1 = RL ∧ f.2.1.cls = RL ∧ c0 = f.2.2.2.2.2.1.2.1 ∧ d = f.2.2.2.2.2.1.2.2.1 ∧ c0 ≤ 4 ∧ (parseMethodDescriptor f.2.1.desc).map (fun q => q.parameters.length) = some b := by
  unfold chkLC at h
  cases hf : nth linfs a with
  | none => rw [hf] at h; cases h
  | some f =>
    rw [hf] at h
    rcases ps with _ | ⟨p0, _ | ⟨p1, _ | ⟨p2, _ | ⟨p3, ps⟩⟩⟩⟩ <;> try (cases h; done)
    simp only [Bool.and_eq_true, decide_eq_true_eq] at h
    obtain ⟨⟨⟨g0, g1⟩, g2⟩, g3, g4, g5, g6, g7, g8⟩ := h
    exact ⟨f, p0, p1, p2, rfl, g0, g1, g2, g3, g4, g5, g6, g7, g8⟩
theorem w_lcallL (hX : HypL p l R s m args meth c sg sgL cA cW D A J B bytes maxL km ret dp) (hwl : ∀ w ∈ wl, w ∈ lw_tbl) (hgd : ∀ w ∈ wl, goodWord w = true ∨ isStrW w = true) (hmx : ∀ y f, nth linfs y = some f → f.2.2.2.1 ≤ 40) (hnz : ∀ y f, nth linfs y = some f → f.2.2.2.2.2.1.2.1 ≠ 0)
    (hIH : ∀ y a M C Q, cal y a M C Q → SoundL l linfs ρ sg cA cW D B dp y a M C Q) {idx : Nat} (h89 : ¬ c0 = 8 ∧ ¬ c0 = 9)
    (hc : chkIL linfs wl bytes maxL ret pcs ip ps (.invokestatic idx, (a, b, c0, d), k, ts) = true)
    (hs : stepL mac cal (cald 12) rk km Q (PWL p l e R s m args below meth c ρ sgL cA cW D A J B maxL km pcs rk Q) (.invokestatic idx, (a, b, c0, d), k, ts) ip kc lo st M C) : PWL p l e R s m args below meth c ρ sgL cA cW D A J B maxL km pcs rk Q ip kc lo st M C := by
  have hX0 := hX
  obtain ⟨hx, hb, hr, hml, hown, hlocks, hts, hfix, hsz, hBs, htr, hR1, hR2, hm40⟩ := hX
  intro hkm hJ H locs ls hl hw hS
  have use : ∀ (pp : Nat) (w : Cond), wAt wl pp w = true → (isStrW w = false) → w ∈ LW := fun pp w h h2 => by
    have hm := wAt_mem h
    rcases hgd w hm with q | q
    · exact LW_mem (hwl w hm) q
    · rw [h2] at q; cases q
  have hgs : guardB (Nat.ble (wsum (st.drop b)) 8 && Nat.ble b st.length && noTx (st.take b)) (kc + d ≤ km ∧ cal a (st.take b).reverse M C fun v M' C' => PWL p l e R s m args below meth c ρ sgL cA cW D A J B maxL km pcs rk Q (ip + 1) (kc + d) lo (pushL c0 v (st.drop b)) M' C') := by
    rcases c0 with _ | _ | _ | _ | _ | _ | _ | _ | _ | _ | c0 <;> first | exact hs | exact absurd rfl h89.1 | exact absurd rfl h89.2
  have hcc : (decode bytes (pcN pcs ip) = .ok (.invokestatic idx, 3) ∧ pcN pcs (ip + 1) = pcN pcs ip + 3) ∧ chkLC linfs wl idx ps a b c0 d = true := by
    rcases c0 with _ | _ | _ | _ | _ | _ | _ | _ | _ | _ | c0 <;> first
      | exact absurd rfl h89.1
      | exact absurd rfl h89.2
      | (simp only [chkIL, dN, Bool.and_eq_true, decide_eq_true_eq] at hc
         exact hc)
  obtain ⟨⟨h1, h2⟩, h3⟩ := hcc
  obtain ⟨f, p0, p1, p2, hf, g0, g1, g2, g3, g4, g5, g6, g7, g8⟩ := chkLC_of h3
  obtain ⟨hg, hkk, hcal⟩ := guardB_of hgs
  simp only [Bool.and_eq_true] at hg
  have hg1 := Nat.le_of_ble_eq_true hg.1.1
  have hg2 := Nat.le_of_ble_eq_true hg.1.2
  subst g5
  subst g6
  have hst : st.map (lpv B (ρ 149) sgL) = (((st.take b).reverse).map (lpv B (ρ 149) sgL)).reverse ++ (st.drop b).map (lpv B (ρ 149) sgL) := by
    conv => lhs; rw [(List.take_append_drop b st).symm]
    simp [List.map_append, List.map_reverse]
  rw [hst]
  refine l_own hX0 hf (use _ _ g0 rfl) (use _ _ g1 rfl) (use _ _ g2 rfl) g4 (hmx _ _ hf) ⟨g7, hnz _ _ hf⟩ g8 (sg2 := sgL) (A2 := A) (J2 := J) (by rw [List.length_reverse, List.length_take]; omega) (fun q h => h) (fun k hk => absurd (List.mem_reverse.mp hk) (noTx_of _ hg.2 k)) (hIH _ _ _ _ _ hcal) hkk hw (fun q h => hsz q (Nat.le_trans hS.1 h)) (fun U hU hW => hfix.warm hW (fun q q1 q2 => by rw [hU]; exact hS.2.1 q q1 q2)) hS hl.1 (by rw [lsum_cat]; exact hg1) h1 (fun v M' C' H1 locs1 u hq hw1 hz hS1 hu => ?_)
  rw [← h2]
  have hk9 := hq hkk hJ H1 locs1 ls hl hw1 hS1
  have e9 : u :: (st.drop b).map (lpv B (ρ 149) sgL) = (pushL f.2.2.2.2.2.1.2.1 v (st.drop b)).map (lpv B (ρ 149) sgL) := by
    have hnz1 := hnz _ _ hf
    revert hu g7 hnz1
    generalize f.2.2.2.2.2.1.2.1 = r9
    intro g7 hu hnz1
    rcases r9 with _ | _ | _ | _ | _ | r9
    · exact absurd rfl hnz1
    · rw [show u = _ from hu]; rfl
    · rw [show u = _ from hu]; rfl
    · rw [show u = _ from hu]; rfl
    · obtain ⟨n, rfl, rfl⟩ := hu
      show va_rf (rfB B (n : Int)) :: _ = lpv B (ρ 149) sgL (.inr (.inr (.inl ((n : Int).toNat)))) :: _
      unfold rfB
      rw [Int.toNat_natCast]
      cases n <;> rfl
    · omega
  rw [e9]
  exact hk9
theorem w_ccallL (hX : HypL p l R s m args meth c sg sgL cA cW D A J B bytes maxL km ret dp) (hwl : ∀ w ∈ wl, w ∈ lw_tbl) (hgd : ∀ w ∈ wl, goodWord w = true ∨ isStrW w = true)
    (hinf : ∀ y f, nth infs y = some f → ∃ wl', (∀ w ∈ wl', w ∈ lw_tbl) ∧ chkF wl' f = true) {idx : Nat} (h56 : ¬ c0 = 5 ∧ ¬ c0 = 6)
    (hc : chkIL linfs wl bytes maxL ret pcs ip ps (.invokevirtual idx, (a, b, c0, d), k, ts) = true)
    (hs : stepL mac cal (cald 12) rk km Q (PWL p l e R s m args below meth c ρ sgL cA cW D A J B maxL km pcs rk Q) (.invokevirtual idx, (a, b, c0, d), k, ts) ip kc lo st M C) : PWL p l e R s m args below meth c ρ sgL cA cW D A J B maxL km pcs rk Q ip kc lo st M C := by
  have hX0 := hX
  obtain ⟨hx, hb, hr, hml, hown, hlocks, hts, hfix, hsz, hBs, htr, hR1, hR2, hm40⟩ := hX
  intro hkm hJ H locs ls hl hw hS
  have use : ∀ (pp : Nat) (w : Cond), wAt wl pp w = true → (isStrW w = false) → w ∈ LW := fun pp w h h2 => by
    have hm := wAt_mem h
    rcases hgd w hm with q | q
    · exact LW_mem (hwl w hm) q
    · rw [h2] at q; cases q
  have hgs : guardB (Nat.ble (wsum (st.drop b)) 8 && Nat.ble b st.length) (kc + d ≤ km ∧ hAr (st.take b).reverse fun as => guardB (numA as) <| cald 12 a (.inr (.inr (.inl kQ)) :: as) M fun r M' => Rl r fun v => PWL p l e R s m args below meth c ρ sgL cA cW D A J B maxL km pcs rk Q (ip + 1) (kc + d) lo (pushR c0 v (st.drop b)) M' C) := by
    rcases c0 with _ | _ | _ | _ | _ | _ | _ | c0 <;> first | exact hs | exact absurd rfl h56.1 | exact absurd rfl h56.2
  have hcc : (decode bytes (pcN pcs ip) = .ok (.invokevirtual idx, 3) ∧ pcN pcs (ip + 1) = pcN pcs ip + 3) ∧ (1 ≤ c0 ∧ c0 ≤ 3) ∧ chkCC wl idx ps a b c0 d = true := by
    rcases c0 with _ | _ | _ | _ | _ | _ | _ | c0 <;> first
      | exact absurd rfl h56.1
      | exact absurd rfl h56.2
      | (simp only [chkIL, dN, Bool.and_eq_true, decide_eq_true_eq] at hc
         exact ⟨hc.1.1, hc.1.2, hc.2⟩)
  obtain ⟨⟨h1, h2⟩, h13, h3⟩ := hcc
  unfold chkCC at h3
  cases hf : nth infs a with
  | none => rw [hf] at h3; cases h3
  | some f =>
    rw [hf] at h3
    rcases ps with _ | ⟨p0, _ | ⟨p1, _ | ⟨p2, _ | ⟨p3, _ | ⟨p4, ps⟩⟩⟩⟩⟩ <;> try (cases h3; done)
    simp only [Bool.and_eq_true, decide_eq_true_eq] at h3
    obtain ⟨⟨⟨⟨g0, g1⟩, g2⟩, g3⟩, g4, g5, g6, g7, g8, g9, g10⟩ := h3
    subst g6
    subst g7
    obtain ⟨hg, hkk, hcal⟩ := guardB_of hgs
    simp only [Bool.and_eq_true] at hg
    have hg1 := Nat.le_of_ble_eq_true hg.1
    have hg2 := Nat.le_of_ble_eq_true hg.2
    obtain ⟨as, has, hcal⟩ := hAr_of hcal
    obtain ⟨hna, hcal⟩ := guardB_of hcal
    have hlen : as.length = b - 1 := by
      have := congrArg List.length has
      rw [List.length_reverse, List.length_take, List.length_cons] at this
      omega
    have htk : st.take b = as.reverse ++ [.inr (.inr (.inr 0))] := by
      have := congrArg List.reverse has
      rw [List.reverse_reverse, List.reverse_cons] at this
      exact this
    have hst : st.map (lpv B (ρ 149) sgL) = (as.map (lpv B (ρ 149) sgL)).reverse ++ .ref (ρ 149) :: (st.drop b).map (lpv B (ρ 149) sgL) := by
      conv => lhs; rw [(List.take_append_drop b st).symm, htk]
      simp [List.map_append, List.map_reverse, lpv]
    rw [hst]
    refine l_class hX0 hf (hinf _ _ hf) (use _ _ g0 rfl) (use _ _ g1 rfl) (use _ _ g2 rfl) (use _ _ g3 rfl) g5 h13.2 g10 hna hlen hcal hkk hw hS hl.1 (by rw [lsum_cat]; exact hg1) h1 (fun x M' H1 locs1 ce q9 hq _ _ _ _ _ => False.elim hq) (fun v M' H1 locs1 hq hw1 hS1 => ?_)
    rw [← h2]
    have hk9 := hq hkk hJ H1 locs1 ls hl hw1 hS1
    have e9 : retV f.2.2.2.2.2.1.2.1 v ++ (st.drop b).map (lpv B (ρ 149) sgL) = (pushR f.2.2.2.2.2.1.2.1 v (st.drop b)).map (lpv B (ρ 149) sgL) := by
      generalize f.2.2.2.2.2.1.2.1 = r9
      rcases r9 with _ | _ | _ | r9 <;> rfl
    rw [e9]
    exact hk9
end StepsL7
