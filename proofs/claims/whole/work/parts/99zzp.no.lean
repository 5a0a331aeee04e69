/-! What ends with nothing doesn't end: no call answers with a false end. -/
theorem gI_no {o : Option (Option PV)} {f : Int → Prop} (h : ∀ x, f x → False) : gI o f → False := by
  unfold gI; split
  · exact h _
  · exact id
theorem gL_no {o : Option (Option PV)} {f : Int → Prop} (h : ∀ x, f x → False) : gL o f → False := by
  unfold gL; split
  · exact h _
  · exact id
theorem gR_no {o : Option (Option PV)} {f : Sum Nat Nat → Prop} (h : ∀ x, f x → False) : gR o f → False := by
  unfold gR; split
  · exact h _
  · exact id
theorem pI_no {st : PS} {f : Int → PS → Prop} (h : ∀ x r, f x r → False) : pI st f → False := by
  unfold pI; split
  · exact h _ _
  · exact id
theorem pL_no {st : PS} {f : Int → PS → Prop} (h : ∀ x r, f x r → False) : pL st f → False := by
  unfold pL; split
  · exact h _ _
  · exact id
theorem pR_no {st : PS} {f : Sum Nat Nat → PS → Prop} (h : ∀ x r, f x r → False) : pR st f → False := by
  unfold pR; split
  · exact h _ _
  · exact id
theorem pO_no {st : PS} {f : Nat → PS → Prop} (h : ∀ x r, f x r → False) : pO st f → False := by
  unfold pO; split
  · exact h _ _
  · exact id
theorem guardB_no {b : Bool} {p : Prop} (h : p → False) : guardB b p → False := by
  unfold guardB; split
  · exact h
  · exact id
theorem isE_no {r : PS} {p : Prop} (h : p → False) : isE r p → False := by
  unfold isE; split
  · exact h
  · exact id
theorem and_no {p q : Prop} (h : q → False) : p ∧ q → False := fun z => h z.2
theorem br_no {p : Prop} : (p → False) ∧ (¬ p → False) → False := fun h => h.2 h.1
abbrev K0 : Kt := fun _ _ _ _ _ => False
abbrev Q0 : Rs → Mem → Prop := fun _ _ => False
theorem swt_no {x : Int} {ip kc : Nat} {l : PL} {r : PS} {M : Mem} : ∀ (ts : List Nat) (k : Int), swt x ip kc l r M K0 ts k → False
  | [], _ => id
  | t :: ts, k => fun q => by
    by_cases e : x = k
    · exact q.1 e
    · exact swt_no ts _ (q.2 e)
theorem stepG_no {cal : Cal} (hm : Cmono cal) (hc : ∀ y a M, cal y a M Q0 → False) {rk km : Nat} (g : GI) (ip kc : Nat) (l : PL) (st : PS) (M : Mem) : stepG cal rk km Q0 K0 g ip kc l st M → False := by
  have hinv : ∀ (a d b c : Nat) , guardB (Nat.ble (kc + d) km && Nat.ble (wsum (st.drop b)) 8 && Nat.ble b st.length) (cal a (st.take b).reverse M fun r M' => Rt r (fun v => K0 (ip + 1) (kc + d) l (pushR c v (st.drop b)) M') (fun x => Q0 (.inr x) M')) → False := fun a d b c => guardB_no fun h => hc _ _ _ (hm _ _ _ _ _ (fun r m q => by rcases r with r | r <;> exact q) h)
  obtain ⟨i, ⟨a, b, c, d⟩, k, ts⟩ := g
  cases i
  case getfield =>
    refine pO_no fun _ _ => and_no ?_
    rcases c with _ | _ | _ | c <;> exact id
  case putfield =>
    rcases c with _ | _ | _ | c
    · exact pI_no fun _ _ => pO_no fun _ _ => and_no id
    · exact pL_no fun _ _ => pO_no fun _ _ => and_no id
    · exact pI_no fun _ _ => pO_no fun _ _ => and_no (and_no id)
    · exact id
  case iaload =>
    refine pI_no fun _ _ => pR_no fun o _ => ?_
    rcases o with o | _ | o
    · exact and_no (and_no id)
    · exact and_no id
    · exact id
  case dup =>
    rcases st with _ | ⟨_ | _ | _, r⟩ <;> exact id
  case dup2 =>
    rcases st with _ | ⟨_ | _ | _, _ | ⟨_ | _ | _, r⟩⟩ <;> exact id
  case ireturn =>
    refine pI_no fun _ _ => isE_no ?_
    rcases rk with _ | _ | _ | _ | rk <;> first | exact id | exact and_no id
  case invokestatic =>
    rcases c with _ | _ | _ | _ | _ | _ | _ | _ | c
    case succ.succ.succ.succ.zero => exact pI_no fun _ _ => pI_no fun _ _ => pO_no fun _ _ => pI_no fun _ _ => pO_no fun _ _ => guardB_no (and_no (and_no (and_no (and_no id))))
    case succ.succ.succ.succ.succ.zero => exact pI_no fun _ _ => pI_no fun _ _ => guardB_no (and_no id)
    case succ.succ.succ.succ.succ.succ.zero => exact pI_no fun _ _ => pI_no fun _ _ => guardB_no (and_no id)
    case succ.succ.succ.succ.succ.succ.succ.zero => exact pL_no fun _ _ => pL_no fun _ _ => guardB_no (and_no id)
    all_goals exact hinv _ _ _ _
  case invokevirtual => exact hinv _ _ _ _
  case tableswitch => exact pI_no fun _ _ => and_no (swt_no _ _)
  case new => exact guardB_no id
  all_goals first
    | exact id
    | exact gI_no fun _ => id
    | exact gL_no fun _ => id
    | exact gR_no fun _ => id
    | exact pI_no fun _ _ => id
    | exact pL_no fun _ _ => id
    | exact pR_no fun _ _ => id
    | exact pI_no fun _ _ => pI_no fun _ _ => id
    | exact pL_no fun _ _ => pL_no fun _ _ => id
    | exact pI_no fun _ _ => pI_no fun _ _ => and_no id
    | exact pI_no fun _ _ => pI_no fun _ _ => and_no (and_no id)
    | exact pL_no fun _ _ => pL_no fun _ _ => and_no (and_no id)
    | exact pI_no fun _ _ => pL_no fun _ _ => and_no id
    | exact pI_no fun _ _ => and_no id
    | exact pL_no fun _ _ => pL_no fun _ _ => and_no br_no
    | exact pI_no fun _ _ => pI_no fun _ _ => and_no br_no
    | exact pI_no fun _ _ => and_no br_no
    | exact pI_no fun _ _ => pO_no fun _ _ => and_no (and_no id)
    | exact pI_no fun _ _ => pI_no fun _ _ => pO_no fun _ _ => and_no (and_no id)
    | exact pL_no fun _ _ => pI_no fun _ _ => pO_no fun _ _ => and_no (and_no id)
    | exact pO_no fun _ _ => and_no id
    | exact pL_no fun _ _ => isE_no id
    | exact isE_no id
theorem extS_no {y : Nat} {a : List PV} {M : Mem} (h : extS y a M Q0) : False := by
  unfold extS at h
  split at h
  · obtain ⟨_, _, _, hQ⟩ := h
    have h1 := hQ 1 (Or.inr rfl)
    have h0 := hQ 0 (Or.inl rfl)
    exact h0 ⟨fun e => absurd e (by decide), fun z => (h1 ⟨fun _ => z, fun _ => rfl⟩).elim⟩
  · exact h
theorem cald_no : ∀ (d y : Nat) (a : List PV) (M : Mem), cald d y a M Q0 → False
  | 0, _, _, _ => fun h => h
  | d + 1, y, a, M => fun h => by
    have h : calD MTf extS (d + 1) y a M Q0 := h
    unfold calD at h
    cases hy : MTf y with
    | none => rw [hy] at h; exact extS_no h
    | some mi =>
      rw [hy] at h
      refine guardB_no (fun h => h.2 K0 fun ip kc l st M hs => ?_) h
      unfold stepT at hs
      cases hg : nth mi.1 ip with
      | none => rw [hg] at hs; exact hs
      | some g => rw [hg] at hs; exact stepG_no (cald_mono d) (cald_no d) g ip kc l st M hs
