section Steps5
variable {p : Program} {l : Launch} {e : Env} {R : Room} {s : State} {m : MethodId} {args : Array Value} {below : List Frame} {meth : Method} {c : Code}
variable {ρ sg : Nat → Nat} {cA : Nat → ClassId} {D : va_G} {Aw : Nat → Prop} {own : String} {bytes : ByteArray} {maxL km : Nat} {ret : Option FieldType} {pcs : List Nat} {rk : Nat} {Q : Rs → Mem → Prop}
variable {wl : List Cond} {cal : Cal} {ip kc : Nat} {lo : PL} {st : PS} {M : Mem} {a b c0 d : Nat} {k : Int} {ts : List Nat} {ps : List Nat} {dp : Nat}
/-- the library's own -/
theorem w_math (hX : HypM p l R s m args meth c sg cA D Aw own bytes maxL km ret dp) (hwl : ∀ w ∈ wl, w ∈ lw_tbl) (hgd : ∀ w ∈ wl, goodWord w = true ∨ isNestW w = true ∨ isStrW w = true) {idx : Nat} (h47 : 4 ≤ c0 ∧ c0 ≤ 7)
    (hc : chkI infs wl own bytes maxL ret pcs ip ps (.invokestatic idx, (a, b, c0, d), k, ts) = true)
    (hs : stepG cal rk km Q (PW p l e R s m args below meth c ρ sg cA D Aw maxL km pcs rk Q) (.invokestatic idx, (a, b, c0, d), k, ts) ip kc lo st M) : PW p l e R s m args below meth c ρ sg cA D Aw maxL km pcs rk Q ip kc lo st M := by
  obtain ⟨hx, hb, hr, hml, hown, hlocks, hts, htab, hfix, hsz, htr, hR1, hR2, hm40⟩ := hX
  intro hkm H locs ls hl hP hD hS
  have use : ∀ (pp : Nat) (w : Cond), wAt wl pp w = true → (isNestW w = false) → (isStrW w = false) → w ∈ LW := fun pp w h h1 h2 => by
    have hm := wAt_mem h
    rcases hgd w hm with q | q | q
    · exact LW_mem (hwl w hm) q
    · rw [h1] at q; cases q
    · rw [h2] at q; cases q
  have hmls : c.maxLocals = ls.size := by rw [hml, hl.1]
  have hf1 : 1 ≤ R.frames := by have := hm40.2.1; omega
  have hcc : kc ≤ R.cells := by rw [hR1]; exact hkm
  have hss : 6 * kc ≤ R.slots := by rw [hR2]; omega
  have hlr := hm40.2.2
  rcases c0 with _ | _ | _ | _ | _ | _ | _ | _ | c0
  · omega
  · omega
  · omega
  · omega
  · simp only [stepG] at hs
    simp only [chkI, dN, Bool.and_eq_true, decide_eq_true_eq] at hc
    obtain ⟨⟨h1, h2⟩, h3⟩ := hc
    rcases ps with _ | ⟨p0, _ | ⟨p1, _ | ⟨p2, _ | ⟨p3, _ | ⟨p4, ps⟩⟩⟩⟩⟩ <;> try (cases h3; done)
    simp only [Bool.and_eq_true] at h3
    obtain ⟨⟨⟨w0, w1⟩, w2⟩, w3⟩ := h3
    obtain ⟨n, r, rfl, hs1⟩ := pI_of hs
    obtain ⟨dp1, r, rfl, hs2⟩ := pI_of hs1
    obtain ⟨o2, r, rfl, hs3⟩ := pO_of hs2
    obtain ⟨sp, r, rfl, hs4⟩ := pI_of hs3
    obtain ⟨o1, r, rfl, hs5⟩ := pO_of hs4
    obtain ⟨hg, hk1, hk2, hne, ⟨g1, g2, g3, g4, g5⟩, hs6⟩ := guardB_of hs5
    have hg := Nat.le_of_ble_eq_true hg
    have hl1 := (wOA o1 (wAk_lt hk1)).2.2.2
    have hl2 := (wOA o2 (wAk_lt hk2)).2.2.2
    have nn : ∀ z : Int, 0 ≤ z → z < 2147483648 → ¬ Int32.ofInt z < 0 ∧ (Int32.ofInt z).toNatClampNeg = z.toNat := fun z z1 z2 => by
      have rz : R32 z := ⟨by omega, z2⟩
      refine ⟨fun q => ?_, ?_⟩
      · have := (z32_lt rz r32_0).mp q
        omega
      · show (Int32.ofInt z).toInt.toNat = _
        rw [zi32 rz]
    have kn := nn n g1 (by omega)
    have ks := nn sp g2 (by omega)
    have kd := nn dp1 g3 (by omega)
    refine va_copyi hx hb hmls hown (hts _ (use _ _ w0 rfl rfl)) (hts _ (use _ _ w3 rfl rfl)) (hts _ (use _ _ w1 rfl rfl)) (hts _ (use _ _ w2 rfl rfl)) hfix.1 hP hD hS o1 o2 0 0 (f := fun j => Int32.ofInt (M o1 j)) (g := fun j => Int32.ofInt (M o2 j)) (ty := .int) (by rw [wWs_ar hk1, wArr1 hk1]) (by rw [wWs_ar hk2, wArr1 hk2]) rfl rfl rfl ks.1 kd.1 kn.1 (by rw [ks.2, kn.2]; omega) (by rw [kd.2, kn.2]; omega) (fun _ _ => rfl) hf1 (by
      rw [wsum_cat]
      have h9 : nativeFrameWords "java/lang/System" "arraycopy" 5 + 11 ≤ 200 := by decide
      omega) h1 (fun H1 locs1 hP1 hD1 hS1 => ?_)
    rw [ks.2, kd.2, kn.2, wSetI hk2 (g := cpy (M o1) (M o2) sp.toNat dp1.toNat n.toNat) (fun j => by unfold va_cpy cpy; split <;> rfl)] at hP1 hD1
    rw [← h2]
    exact hs6 hkm H1 locs1 ls hl hP1 hD1 hS1
  · simp only [stepG] at hs
    simp only [chkI, dN, Bool.and_eq_true, decide_eq_true_eq] at hc
    obtain ⟨⟨h1, h2⟩, h3⟩ := hc
    rcases ps with _ | ⟨p0, _ | ⟨p1, _ | ⟨p2, _ | ⟨p3, _ | ⟨p4, ps⟩⟩⟩⟩⟩ <;> try (cases h3; done)
    simp only [Bool.and_eq_true] at h3
    obtain ⟨⟨⟨w0, w1⟩, w2⟩, w3⟩ := h3
    obtain ⟨y, r, rfl, hs1⟩ := pI_of hs
    obtain ⟨x, r, rfl, hs2⟩ := pI_of hs1
    obtain ⟨hg, ⟨rx, ry⟩, hs3⟩ := guardB_of hs2
    have hg := Nat.le_of_ble_eq_true hg
    refine va_mmax hx hb hmls hown (hts _ (use _ _ w0 rfl rfl)) (hts _ (use _ _ w1 rfl rfl)) (hts _ (use _ _ w2 rfl rfl)) (hts _ (use _ _ w3 rfl rfl)) hf1 (by rw [wsum_cat]; omega) hcc hss h1 ?_
    have e : (if Int32.ofInt x < Int32.ofInt y then Int32.ofInt y else Int32.ofInt x) = Int32.ofInt (max x y) := by
      by_cases q : x < y
      · rw [if_pos ((z32_lt rx ry).mpr q), Int.max_eq_right (by omega)]
      · rw [if_neg (fun z => q ((z32_lt rx ry).mp z)), Int.max_eq_left (by omega)]
    rw [e, ← h2]
    exact hs3 hkm H locs ls hl hP hD hS
  · simp only [stepG] at hs
    simp only [chkI, dN, Bool.and_eq_true, decide_eq_true_eq] at hc
    obtain ⟨⟨h1, h2⟩, h3⟩ := hc
    rcases ps with _ | ⟨p0, _ | ⟨p1, _ | ⟨p2, _ | ⟨p3, _ | ⟨p4, ps⟩⟩⟩⟩⟩ <;> try (cases h3; done)
    simp only [Bool.and_eq_true] at h3
    obtain ⟨⟨⟨w0, w1⟩, w2⟩, w3⟩ := h3
    obtain ⟨y, r, rfl, hs1⟩ := pI_of hs
    obtain ⟨x, r, rfl, hs2⟩ := pI_of hs1
    obtain ⟨hg, ⟨rx, ry⟩, hs3⟩ := guardB_of hs2
    have hg := Nat.le_of_ble_eq_true hg
    refine va_mmin hx hb hmls hown (hts _ (use _ _ w0 rfl rfl)) (hts _ (use _ _ w1 rfl rfl)) (hts _ (use _ _ w2 rfl rfl)) (hts _ (use _ _ w3 rfl rfl)) hf1 (by rw [wsum_cat]; omega) hcc hss h1 ?_
    have e : (if Int32.ofInt y < Int32.ofInt x then Int32.ofInt y else Int32.ofInt x) = Int32.ofInt (min x y) := by
      by_cases q : y < x
      · rw [if_pos ((z32_lt ry rx).mpr q), Int.min_eq_right (by omega)]
      · rw [if_neg (fun z => q ((z32_lt ry rx).mp z)), Int.min_eq_left (by omega)]
    rw [e, ← h2]
    exact hs3 hkm H locs ls hl hP hD hS
  · simp only [stepG] at hs
    simp only [chkI, dN, Bool.and_eq_true, decide_eq_true_eq] at hc
    obtain ⟨⟨h1, h2⟩, h3⟩ := hc
    rcases ps with _ | ⟨p0, _ | ⟨p1, _ | ⟨p2, _ | ⟨p3, _ | ⟨p4, ps⟩⟩⟩⟩⟩ <;> try (cases h3; done)
    simp only [Bool.and_eq_true] at h3
    obtain ⟨⟨⟨w0, w1⟩, w2⟩, w3⟩ := h3
    obtain ⟨y, r, rfl, hs1⟩ := pL_of hs
    obtain ⟨x, r, rfl, hs2⟩ := pL_of hs1
    obtain ⟨hg, ⟨rx, ry⟩, hs3⟩ := guardB_of hs2
    have hg := Nat.le_of_ble_eq_true hg
    refine va_mmax_long hx hb hmls hown (hts _ (use _ _ w0 rfl rfl)) (hts _ (use _ _ w1 rfl rfl)) (hts _ (use _ _ w2 rfl rfl)) (hts _ (use _ _ w3 rfl rfl)) hf1 (by rw [wsum_cat]; omega) hcc hss h1 ?_
    have e : (if Int64.ofInt y < Int64.ofInt x then Int64.ofInt x else Int64.ofInt y) = Int64.ofInt (max x y) := by
      by_cases q : y < x
      · rw [if_pos ((z64_lt ry rx).mpr q), Int.max_eq_left (by omega)]
      · rw [if_neg (fun z => q ((z64_lt ry rx).mp z)), Int.max_eq_right (by omega)]
    rw [e, ← h2]
    exact hs3 hkm H locs ls hl hP hD hS
  · omega
/-- every step -/
theorem w_step (hX : HypM p l R s m args meth c sg cA D Aw own bytes maxL km ret dp) (hrk : rk = rkOf ret) (hwl : ∀ w ∈ wl, w ∈ lw_tbl) (hgd : ∀ w ∈ wl, goodWord w = true ∨ isNestW w = true ∨ isStrW w = true) (hns : NSOk l ρ sg cA D Aw) (hex : ∀ a, 1 ≤ a → a ≤ 4 → exOk a = true)
    (hinf : ∀ y f, nth infs y = some f → ∃ wl', (∀ w ∈ wl', w ∈ lw_tbl) ∧ chkF wl' f = true)
    (hIH : ∀ y a M Q, cal y a M Q → SoundC l ρ sg cA D Aw dp y a M Q)
    (hrec : ∀ y a M Q f, cal y a M Q → nth infs y = some f → 1 ≤ f.2.2.2.2.2.1.2.2.2.2 → ∃ o r, a = .inr (.inr (.inl o)) :: r ∧ wOb o = f.2.2.2.2.2.1.2.2.2.2) (g : GI)
    (hc : chkI infs wl own bytes maxL ret pcs ip ps g = true)
    (hs : stepG cal rk km Q (PW p l e R s m args below meth c ρ sg cA D Aw maxL km pcs rk Q) g ip kc lo st M) : PW p l e R s m args below meth c ρ sg cA D Aw maxL km pcs rk Q ip kc lo st M := by
  obtain ⟨i, ⟨a, b, c0, d⟩, k, ts⟩ := g
  cases hi : i
  case invokestatic idx =>
    subst hi
    by_cases h47 : 4 ≤ c0 ∧ c0 ≤ 7
    · exact w_math hX hwl hgd h47 hc hs
    · exact w_call hX hwl hgd hinf hIH hrec (Or.inr ⟨rfl, h47⟩) hc hs
  case invokevirtual idx =>
    subst hi
    exact w_call hX hwl hgd hinf hIH hrec (Or.inl rfl) hc hs
  case new ik =>
    subst hi
    exact w_throw hX hwl hgd hns hex hc hs
  case ireturn => subst hi; exact w_ends hX hrk trivial hc hs
  case lreturn => subst hi; exact w_ends hX hrk trivial hc hs
  case return_ => subst hi; exact w_ends hX hrk trivial hc hs
  all_goals subst hi
  all_goals first
    | exact w_plain hX hwl trivial hc hs
    | exact w_heap hX hwl hgd trivial hc hs
    | (exfalso; exact hs)
end Steps5
