theorem nth_some_lt {α : Type} : ∀ (l : List α) (i : Nat) (a : α), nth l i = some a → i < l.length
  | [], _, _ => by simp [nth]
  | b :: l, 0, a => fun _ => by simp
  | b :: l, i + 1, a => fun h => by
    have := nth_some_lt l i a h
    simp only [List.length_cons]
    omega
theorem wAt_of {wl : List Cond} (hwl : ∀ w ∈ wl, w ∈ lw_tbl) {p : Nat} {w : Cond} (h : wAt wl p w = true) : w ∈ lw_tbl := by
  unfold wAt at h
  cases hq : nth wl p with
  | none => rw [hq] at h; cases h
  | some v =>
    rw [hq] at h
    have e : v = w := of_decide_eq_true h
    subst e
    have : ∀ (l : List Cond) (i : Nat) (a : Cond), nth l i = some a → a ∈ l := by
      intro l
      induction l with
      | nil => intro i a h; simp [nth] at h
      | cons b l ih =>
        intro i a h
        cases i with
        | zero => cases h; exact List.mem_cons_self
        | succ i => exact List.mem_cons_of_mem _ (ih i a h)
    exact hwl _ (this wl p v hq)
section Steps2
variable {p : Program} {l : Launch} {e : Env} {R : Room} {s : State} {m : MethodId} {args : Array Value} {below : List Frame} {meth : Method} {c : Code}
variable {ρ sg : Nat → Nat} {cA : Nat → ClassId} {D : va_G} {Aw : Nat → Prop} {own : String} {bytes : ByteArray} {maxL km : Nat} {ret : Option FieldType} {pcs : List Nat} {rk : Nat} {Q : Rs → Mem → Prop}
variable {wl : List Cond} {cal : Cal} {ip kc : Nat} {lo : PL} {st : PS} {M : Mem} {a b c0 d : Nat} {k : Int} {ts : List Nat} {ps : List Nat} {dp : Nat}
/-- instructions that touch neither heap nor calls -/
theorem w_plain (hX : HypM p l R s m args meth c sg cA D Aw own bytes maxL km ret dp) (hwl : ∀ w ∈ wl, w ∈ lw_tbl) {i : Instr}
    (hi : match i with
      | .iconst _ | .bipush _ | .sipush _ | .lconst _ | .iload_n _ | .iload _ | .lload_n _ | .lload _ | .aload_n _ | .aload _ | .istore_n _ | .istore _ | .lstore_n _ | .lstore _ | .astore_n _ | .astore _ | .iinc _ _ | .iadd | .isub | .imul | .idiv | .irem | .ishl | .ishr | .iushr | .iand | .ior | .ixor | .ladd | .lsub | .lmul | .ldiv | .lrem | .lneg | .lshl | .lushr | .land | .lor | .i2l | .l2i | .lcmp | .if_icmp _ _ | .ifCond _ _ | .goto _ | .dup | .dup2 | .pop | .pop2 => True
      | _ => False)
    (hc : chkI infs wl own bytes maxL ret pcs ip ps (i, (a, b, c0, d), k, ts) = true)
    (hs : stepG cal rk km Q (PW p l e R s m args below meth c ρ sg cA D Aw maxL km pcs rk Q) (i, (a, b, c0, d), k, ts) ip kc lo st M) : PW p l e R s m args below meth c ρ sg cA D Aw maxL km pcs rk Q ip kc lo st M := by
  obtain ⟨hx, hb, hr, hml, hown, hlocks, hts, htab, hfix, hsz, htr, hR1, hR2, hm40⟩ := hX
  intro hkm H locs ls hl hP hD hS
  cases i <;> try exact hi.elim
  all_goals clear hi
  all_goals simp only [stepG] at hs
  all_goals simp only [chkI, dN, dE, jT, Bool.and_eq_true, decide_eq_true_eq] at hc
  case iconst n =>
    obtain ⟨⟨h1, h2⟩, rfl⟩ := hc
    refine lv_iconst hx hb h1 rfl ?_
    rw [← h2]
    exact hs hkm H locs ls hl hP hD hS
  case bipush n =>
    obtain ⟨⟨h1, h2⟩, h3⟩ := hc
    refine lv_bipush hx hb h1 h3 ?_
    rw [← h2]
    exact hs hkm H locs ls hl hP hD hS
  case sipush n =>
    obtain ⟨⟨h1, h2⟩, h3⟩ := hc
    refine lv_sipush hx hb h1 h3 ?_
    rw [← h2]
    exact hs hkm H locs ls hl hP hD hS
  case lconst n =>
    obtain ⟨⟨h1, h2⟩, h3⟩ := hc
    refine lv_lconst hx hb h1 (v := Int64.ofInt k) (by rw [← h3]; exact (Int64.ofInt_eq_ofNat).symm) ?_
    rw [← h2]
    exact hs hkm H locs ls hl hP hD hS
  case iload_n n =>
    obtain ⟨⟨h1, h2⟩, h3⟩ := hc
    obtain ⟨x, hg, hs11⟩ := gI_of hs
    refine lv_iload_n hx hb h1 h3 (hl.at' hg) ?_
    rw [← h2]
    exact hs11 hkm H locs ls hl hP hD hS
  case iload n =>
    obtain ⟨⟨h1, h2⟩, h3⟩ := hc
    obtain ⟨x, hg, hs11⟩ := gI_of hs
    subst h3
    refine lv_iload hx hb h1 (hl.at' hg) ?_
    rw [← h2]
    exact hs11 hkm H locs ls hl hP hD hS
  case lload_n n =>
    obtain ⟨⟨h1, h2⟩, h3⟩ := hc
    obtain ⟨x, hg, hs11⟩ := gL_of hs
    refine lv_lload_n hx hb h1 h3 (hl.at' hg) ?_
    rw [← h2]
    exact hs11 hkm H locs ls hl hP hD hS
  case lload n =>
    obtain ⟨⟨h1, h2⟩, h3⟩ := hc
    obtain ⟨x, hg, hs11⟩ := gL_of hs
    subst h3
    refine lv_lload hx hb h1 (hl.at' hg) ?_
    rw [← h2]
    exact hs11 hkm H locs ls hl hP hD hS
  case aload_n n =>
    obtain ⟨⟨h1, h2⟩, h3⟩ := hc
    obtain ⟨x, hg, hs11⟩ := gR_of hs
    rcases x with x | x
    · refine lv_aload_n hx hb h1 h3 (hl.at' hg) ?_
      rw [← h2]
      exact hs11 hkm H locs ls hl hP hD hS
    · refine lv_aload_n hx hb h1 h3 (hl.at' hg) ?_
      rw [← h2]
      exact hs11 hkm H locs ls hl hP hD hS
  case aload n =>
    obtain ⟨⟨h1, h2⟩, h3⟩ := hc
    obtain ⟨x, hg, hs11⟩ := gR_of hs
    subst h3
    rcases x with x | x
    · refine lv_aload hx hb h1 (hl.at' hg) ?_
      rw [← h2]
      exact hs11 hkm H locs ls hl hP hD hS
    · refine lv_aload hx hb h1 (hl.at' hg) ?_
      rw [← h2]
      exact hs11 hkm H locs ls hl hP hD hS
  case istore_n n =>
    obtain ⟨⟨h1, h2⟩, h3, h4⟩ := hc
    obtain ⟨x, r, rfl, hs11⟩ := pI_of hs
    refine lv_istore_n hx hb h1 h3 hl h4 rfl fun ls' hl' => ?_
    rw [← h2]
    exact hs11 hkm H locs ls' (LR.st1 (v := .inl x) hl') hP hD hS
  case istore n =>
    obtain ⟨⟨h1, h2⟩, h3, h4⟩ := hc
    obtain ⟨x, r, rfl, hs11⟩ := pI_of hs
    subst h3
    refine lv_istore hx hb h1 hl h4 rfl fun ls' hl' => ?_
    rw [← h2]
    exact hs11 hkm H locs ls' (LR.st1 (v := .inl x) hl') hP hD hS
  case lstore_n n =>
    obtain ⟨⟨h1, h2⟩, h3, h4⟩ := hc
    obtain ⟨x, r, rfl, hs11⟩ := pL_of hs
    refine lv_lstore_n hx hb h1 h3 hl h4 rfl fun ls' hl' => ?_
    rw [← h2]
    exact hs11 hkm H locs ls' (LR.st2 (v := .inr (.inl x)) hl') hP hD hS
  case lstore n =>
    obtain ⟨⟨h1, h2⟩, h3, h4⟩ := hc
    obtain ⟨x, r, rfl, hs11⟩ := pL_of hs
    subst h3
    refine lv_lstore hx hb h1 hl h4 rfl fun ls' hl' => ?_
    rw [← h2]
    exact hs11 hkm H locs ls' (LR.st2 (v := .inr (.inl x)) hl') hP hD hS
  case astore_n n =>
    obtain ⟨⟨h1, h2⟩, h3, h4⟩ := hc
    obtain ⟨x, r, rfl, hs11⟩ := pR_of hs
    rcases x with x | x
    · refine lv_astore_n hx hb h1 h3 hl h4 rfl fun ls' hl' => ?_
      rw [← h2]
      exact hs11 hkm H locs ls' (LR.st1 (v := .inr (.inr (.inl x))) hl') hP hD hS
    · refine lv_astore_n hx hb h1 h3 hl h4 rfl fun ls' hl' => ?_
      rw [← h2]
      exact hs11 hkm H locs ls' (LR.st1 (v := .inr (.inr (.inr x))) hl') hP hD hS
  case astore n =>
    obtain ⟨⟨h1, h2⟩, h3, h4⟩ := hc
    obtain ⟨x, r, rfl, hs11⟩ := pR_of hs
    subst h3
    rcases x with x | x
    · refine lv_astore hx hb h1 hl h4 rfl fun ls' hl' => ?_
      rw [← h2]
      exact hs11 hkm H locs ls' (LR.st1 (v := .inr (.inr (.inl x))) hl') hP hD hS
    · refine lv_astore hx hb h1 hl h4 rfl fun ls' hl' => ?_
      rw [← h2]
      exact hs11 hkm H locs ls' (LR.st1 (v := .inr (.inr (.inr x))) hl') hP hD hS
  case iinc n m2 =>
    obtain ⟨⟨h1, h2⟩, h3, h4, h5⟩ := hc
    obtain ⟨x, hg, hs11⟩ := gI_of hs
    subst h3; subst h4
    obtain ⟨q, hq⟩ := List.getElem?_of_mem ((mem_lst lo 0).mpr ⟨n, .inl x, (Nat.zero_add n).symm, hg, rfl⟩)
    refine lv_iinc hx hb h1 hl hq (Int32.ofInt_add x m2).symm h5 rfl fun ls' hl' => ?_
    rw [← h2]
    exact hs11 hkm H locs ls' (LR.st1 (v := .inl (x + m2)) hl') hP hD hS
  case iadd =>
    obtain ⟨h1, h2⟩ := hc
    obtain ⟨y, r, rfl, hs11⟩ := pI_of hs
    obtain ⟨x, r, rfl, hs12⟩ := pI_of hs11
    refine lv_iadd hx hb h1 ?_
    rw [← Int32.ofInt_add, ← h2]
    exact hs12 hkm H locs ls hl hP hD hS
  case isub =>
    obtain ⟨h1, h2⟩ := hc
    obtain ⟨y, r, rfl, hs11⟩ := pI_of hs
    obtain ⟨x, r, rfl, hs12⟩ := pI_of hs11
    refine lv_isub hx hb h1 ?_
    rw [← Int32.ofInt_sub, ← h2]
    exact hs12 hkm H locs ls hl hP hD hS
  case imul =>
    obtain ⟨h1, h2⟩ := hc
    obtain ⟨y, r, rfl, hs11⟩ := pI_of hs
    obtain ⟨x, r, rfl, hs12⟩ := pI_of hs11
    refine lv_imul hx hb h1 ?_
    rw [← Int32.ofInt_mul, ← h2]
    exact hs12 hkm H locs ls hl hP hD hS
  case idiv =>
    obtain ⟨h1, h2⟩ := hc
    obtain ⟨y, r, rfl, hs11⟩ := pI_of hs
    obtain ⟨x, r, rfl, hgx, hgy, hs12⟩ := pI_of hs11
    refine lv_idiv hx hb h1 (z32_ne0 hgy) ?_
    rw [z32_div hgx hgy, ← h2]
    exact hs12 hkm H locs ls hl hP hD hS
  case irem =>
    obtain ⟨h1, h2⟩ := hc
    obtain ⟨y, r, rfl, hs11⟩ := pI_of hs
    obtain ⟨x, r, rfl, hgx, hgy, hs12⟩ := pI_of hs11
    refine lv_irem hx hb h1 (z32_ne0 hgy) ?_
    rw [z32_mod hgx hgy, ← h2]
    exact hs12 hkm H locs ls hl hP hD hS
  case ishl =>
    obtain ⟨h1, h2⟩ := hc
    obtain ⟨y, r, rfl, hs11⟩ := pI_of hs
    obtain ⟨x, r, rfl, hgy, hs12⟩ := pI_of hs11
    refine lv_ishl hx hb h1 ?_
    rw [z32_shl hgy, ← h2]
    exact hs12 hkm H locs ls hl hP hD hS
  case ishr =>
    obtain ⟨h1, h2⟩ := hc
    obtain ⟨y, r, rfl, hs11⟩ := pI_of hs
    obtain ⟨x, r, rfl, hgx, hgy, hs12⟩ := pI_of hs11
    refine lv_ishr hx hb h1 ?_
    rw [z32_shr hgx hgy, ← h2]
    exact hs12 hkm H locs ls hl hP hD hS
  case iushr =>
    obtain ⟨h1, h2⟩ := hc
    obtain ⟨y, r, rfl, hs11⟩ := pI_of hs
    obtain ⟨x, r, rfl, hgy, hs12⟩ := pI_of hs11
    refine lv_iushr hx hb h1 (z32_ushr hgy) ?_
    rw [← h2]
    exact hs12 hkm H locs ls hl hP hD hS
  case iand =>
    obtain ⟨h1, h2⟩ := hc
    obtain ⟨y, r, rfl, hs11⟩ := pI_of hs
    obtain ⟨x, r, rfl, hs12⟩ := pI_of hs11
    refine lv_iand hx hb h1 ?_
    rw [z32_and, ← h2]
    exact hs12 hkm H locs ls hl hP hD hS
  case ior =>
    obtain ⟨h1, h2⟩ := hc
    obtain ⟨y, r, rfl, hs11⟩ := pI_of hs
    obtain ⟨x, r, rfl, hs12⟩ := pI_of hs11
    refine lv_ior hx hb h1 ?_
    rw [z32_or, ← h2]
    exact hs12 hkm H locs ls hl hP hD hS
  case ixor =>
    obtain ⟨h1, h2⟩ := hc
    obtain ⟨y, r, rfl, hs11⟩ := pI_of hs
    obtain ⟨x, r, rfl, hs12⟩ := pI_of hs11
    refine lv_ixor hx hb h1 ?_
    rw [z32_xor, ← h2]
    exact hs12 hkm H locs ls hl hP hD hS
  case ladd =>
    obtain ⟨h1, h2⟩ := hc
    obtain ⟨y, r, rfl, hs11⟩ := pL_of hs
    obtain ⟨x, r, rfl, hs12⟩ := pL_of hs11
    refine lv_ladd hx hb h1 ?_
    rw [← Int64.ofInt_add, ← h2]
    exact hs12 hkm H locs ls hl hP hD hS
  case lsub =>
    obtain ⟨h1, h2⟩ := hc
    obtain ⟨y, r, rfl, hs11⟩ := pL_of hs
    obtain ⟨x, r, rfl, hs12⟩ := pL_of hs11
    refine lv_lsub hx hb h1 ?_
    rw [← Int64.ofInt_sub, ← h2]
    exact hs12 hkm H locs ls hl hP hD hS
  case lmul =>
    obtain ⟨h1, h2⟩ := hc
    obtain ⟨y, r, rfl, hs11⟩ := pL_of hs
    obtain ⟨x, r, rfl, hs12⟩ := pL_of hs11
    refine lv_lmul hx hb h1 ?_
    rw [← Int64.ofInt_mul, ← h2]
    exact hs12 hkm H locs ls hl hP hD hS
  case ldiv =>
    obtain ⟨h1, h2⟩ := hc
    obtain ⟨y, r, rfl, hs11⟩ := pL_of hs
    obtain ⟨x, r, rfl, hgx, hgy, hs12⟩ := pL_of hs11
    refine lv_ldiv hx hb h1 (z64_ne0 hgy) ?_
    rw [z64_div hgx hgy, ← h2]
    exact hs12 hkm H locs ls hl hP hD hS
  case lrem =>
    obtain ⟨h1, h2⟩ := hc
    obtain ⟨y, r, rfl, hs11⟩ := pL_of hs
    obtain ⟨x, r, rfl, hgx, hgy, hs12⟩ := pL_of hs11
    refine lv_lrem hx hb h1 (z64_ne0 hgy) ?_
    rw [z64_mod hgx hgy, ← h2]
    exact hs12 hkm H locs ls hl hP hD hS
  case lneg =>
    obtain ⟨h1, h2⟩ := hc
    obtain ⟨x, r, rfl, hs11⟩ := pL_of hs
    refine lv_lneg hx hb h1 ?_
    rw [← Int64.ofInt_neg, ← h2]
    exact hs11 hkm H locs ls hl hP hD hS
  case lshl =>
    obtain ⟨h1, h2⟩ := hc
    obtain ⟨y, r, rfl, hs11⟩ := pI_of hs
    obtain ⟨x, r, rfl, hgy, hs12⟩ := pL_of hs11
    refine lv_lshl hx hb h1 (z64_shl hgy) ?_
    rw [← h2]
    exact hs12 hkm H locs ls hl hP hD hS
  case lushr =>
    obtain ⟨h1, h2⟩ := hc
    obtain ⟨y, r, rfl, hs11⟩ := pI_of hs
    obtain ⟨x, r, rfl, hgy, hs12⟩ := pL_of hs11
    refine lv_lushr hx hb h1 (z64_ushr hgy) ?_
    rw [← h2]
    exact hs12 hkm H locs ls hl hP hD hS
  case land =>
    obtain ⟨h1, h2⟩ := hc
    obtain ⟨y, r, rfl, hs11⟩ := pL_of hs
    obtain ⟨x, r, rfl, hs12⟩ := pL_of hs11
    refine lv_land hx hb h1 ?_
    rw [z64_and, ← h2]
    exact hs12 hkm H locs ls hl hP hD hS
  case lor =>
    obtain ⟨h1, h2⟩ := hc
    obtain ⟨y, r, rfl, hs11⟩ := pL_of hs
    obtain ⟨x, r, rfl, hs12⟩ := pL_of hs11
    refine lv_lor hx hb h1 ?_
    rw [z64_or, ← h2]
    exact hs12 hkm H locs ls hl hP hD hS
  case i2l =>
    obtain ⟨h1, h2⟩ := hc
    obtain ⟨x, r, rfl, hgx, hs11⟩ := pI_of hs
    refine lv_i2l hx hb h1 (z_i2l hgx) ?_
    rw [← h2]
    exact hs11 hkm H locs ls hl hP hD hS
  case l2i =>
    obtain ⟨h1, h2⟩ := hc
    obtain ⟨x, r, rfl, hs11⟩ := pL_of hs
    refine lv_l2i hx hb h1 Int64.toInt32_ofInt ?_
    rw [← h2]
    exact hs11 hkm H locs ls hl hP hD hS
  case lcmp =>
    obtain ⟨⟨⟨h1, h2⟩, h3⟩, h4⟩ := hc
    obtain ⟨y, r, rfl, hs11⟩ := pL_of hs
    obtain ⟨x, r, rfl, ⟨hgx, hgy⟩, hs1, hs2⟩ := pL_of hs11
    split at h4
    · rename_i cn off hd2
      rw [Bool.and_eq_true] at h4
      obtain ⟨h5, h6⟩ := h4
      have h5 := of_decide_eq_true h5
      have h6 := of_decide_eq_true h6
      subst h5
      refine w_lcmp hx hb hgx hgy h1 hd2 h6 (fun q => ?_) (fun q => ?_)
      · exact hs1 q hkm H locs ls hl hP hD hS
      · rw [← h3]
        exact hs2 q hkm H locs ls hl hP hD hS
    · cases h4
  case if_icmp cn off =>
    obtain ⟨⟨h1, h2⟩, h3⟩ := hc
    obtain ⟨y, r, rfl, hs11⟩ := pI_of hs
    obtain ⟨x, r, rfl, ⟨hgx, hgy⟩, hs1, hs2⟩ := pI_of hs11
    refine w_icmp hx hb hgx hgy h1 h3 (fun q => ?_) (fun q => ?_)
    · exact hs1 q hkm H locs ls hl hP hD hS
    · rw [← h2]
      exact hs2 q hkm H locs ls hl hP hD hS
  case ifCond cn off =>
    obtain ⟨⟨h1, h2⟩, h3⟩ := hc
    obtain ⟨x, r, rfl, hgx, hs1, hs2⟩ := pI_of hs
    refine w_if hx hb hgx h1 h3 (fun q => ?_) (fun q => ?_)
    · exact hs1 q hkm H locs ls hl hP hD hS
    · rw [← h2]
      exact hs2 q hkm H locs ls hl hP hD hS
  case goto off =>
    obtain ⟨h1, h3⟩ := hc
    exact lv_goto hx hb h1 h3 (hs hkm H locs ls hl hP hD hS)
  case dup =>
    obtain ⟨h1, h2⟩ := hc
    rcases st with _ | ⟨x | x | x, r⟩
    · exact hs.elim
    · refine lv_dup hx hb h1 rfl ?_
      rw [← h2]
      exact hs hkm H locs ls hl hP hD hS
    · exact hs.elim
    · refine lv_dup hx hb h1 (cpv_cat1 rfl) ?_
      rw [← h2]
      exact hs hkm H locs ls hl hP hD hS
  case dup2 =>
    obtain ⟨h1, h2⟩ := hc
    rcases st with _ | ⟨x | x | x, _ | ⟨y | y | y, r⟩⟩ <;> try exact hs.elim
    · refine lv_dup2_11 hx hb h1 rfl (cpv_cat1 rfl) ?_
      rw [← h2]
      exact hs hkm H locs ls hl hP hD hS
    all_goals
      refine lv_dup2_2 hx hb h1 rfl ?_
      rw [← h2]
      exact hs hkm H locs ls hl hP hD hS
  case pop =>
    obtain ⟨h1, h2⟩ := hc
    obtain ⟨x, r, rfl, hs11⟩ := pI_of hs
    refine lv_pop hx hb h1 rfl ?_
    rw [← h2]
    exact hs11 hkm H locs ls hl hP hD hS
  case pop2 =>
    obtain ⟨h1, h2⟩ := hc
    obtain ⟨x, r, rfl, hs11⟩ := pL_of hs
    refine lv_pop2_2 hx hb h1 rfl ?_
    rw [← h2]
    exact hs11 hkm H locs ls hl hP hD hS
end Steps2
