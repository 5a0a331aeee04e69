/-! Arrays.fill, setLong(1): what the constructors call while the world is being made. -/
section EHF
variable {p : Program} {l : Launch} {e : Env} {R : Room} {s : State} {m : MethodId} {args : Array Value} {below : List Frame} {meth : Method} {c : Code} {H H0 : Heap} {locs : List Loc} {cells slots : Nat} {Q : State → Prop}
variable {cc : ByteArray} {pc : Nat} {ls : Array Slot} {rest : List Value} {D : va_G} {cA : Nat → ClassId} {B N : Nat} {g : Nat → va_E}
theorem eh_alen {i : Nat} (hexec : p.tables.exec = Jvm.exec) (hb : c.code = cc) (hK : va_K D gCl (tysL cA) s) (hE : EH D B N g H) {n : Nat} {f : Nat → Int32} (hi0 : i < N) (he : g i = .inl (cA 1, n, .inl f)) {v : Int32} (hv : Int32.ofNat n = v) (hdg : decode cc pc = .ok (.arraylength, 1))
    (kk : W p l e R s m args below meth c H locs cells slots Q (F0 m (pc + 1) ls (.int v :: rest))) : W p l e R s m args below meth c H locs cells slots Q (F0 m pc ls (.ref (B + i) :: rest)) :=
  va_alen (ws := [(B + i, .inl (cA 1, n, .inl f))]) hexec hb hK (at_one (hE.at' hi0 he)) 0 0 rfl (show (tysL cA)[0]? = some (cA 1, .int) from rfl) hv hdg kk
theorem eh_iald {i : Nat} (hexec : p.tables.exec = Jvm.exec) (hb : c.code = cc) (hK : va_K D gCl (tysL cA) s) (hE : EH D B N g H) {n : Nat} {f : Nat → Int32} (hi0 : i < N) (he : g i = .inl (cA 1, n, .inl f)) {j : Int32} (hin : vp_in j n) (hdg : decode cc pc = .ok (.iaload, 1))
    (kk : W p l e R s m args below meth c H locs cells slots Q (F0 m (pc + 1) ls (.int (f j.toNatClampNeg) :: rest))) : W p l e R s m args below meth c H locs cells slots Q (F0 m pc ls (.int j :: .ref (B + i) :: rest)) :=
  va_iald (ws := [(B + i, .inl (cA 1, n, .inl f))]) hexec hb hK (at_one (hE.at' hi0 he)) 0 0 rfl (show (tysL cA)[0]? = some (cA 1, .int) from rfl) hin hdg kk
end EHF
theorem dJ7_fill_53178_0 : decode cJ7_fill_53178 0 = .ok (.iconst 0, 1) := by decide +kernel
theorem dJ7_fill_53178_1 : decode cJ7_fill_53178 1 = .ok (.istore_n 2, 1) := by decide +kernel
theorem dJ7_fill_53178_2 : decode cJ7_fill_53178 2 = .ok (.aload_n 0, 1) := by decide +kernel
theorem dJ7_fill_53178_3 : decode cJ7_fill_53178 3 = .ok (.arraylength, 1) := by decide +kernel
theorem dJ7_fill_53178_4 : decode cJ7_fill_53178 4 = .ok (.istore_n 3, 1) := by decide +kernel
theorem dJ7_fill_53178_5 : decode cJ7_fill_53178 5 = .ok (.iload_n 2, 1) := by decide +kernel
theorem dJ7_fill_53178_6 : decode cJ7_fill_53178 6 = .ok (.iload_n 3, 1) := by decide +kernel
theorem dJ7_fill_53178_7 : decode cJ7_fill_53178 7 = .ok (.if_icmp .ge 13, 3) := by decide +kernel
theorem dJ7_fill_53178_10 : decode cJ7_fill_53178 10 = .ok (.aload_n 0, 1) := by decide +kernel
theorem dJ7_fill_53178_11 : decode cJ7_fill_53178 11 = .ok (.iload_n 2, 1) := by decide +kernel
theorem dJ7_fill_53178_12 : decode cJ7_fill_53178 12 = .ok (.iload_n 1, 1) := by decide +kernel
theorem dJ7_fill_53178_13 : decode cJ7_fill_53178 13 = .ok (.iastore, 1) := by decide +kernel
theorem dJ7_fill_53178_14 : decode cJ7_fill_53178 14 = .ok (.iinc 2 1, 3) := by decide +kernel
theorem dJ7_fill_53178_17 : decode cJ7_fill_53178 17 = .ok (.goto (-12), 3) := by decide +kernel
theorem dJ7_fill_53178_20 : decode cJ7_fill_53178 20 = .ok (.return_, 1) := by decide +kernel
theorem wJ7_fill : (Cond.code yJ7_fill_53178 cJ7_fill_53178 4 none : Cond) ∈ LW := by
  obtain ⟨wl, h1, h2⟩ := infs_ok cA_fill nA_fill rfl
  exact LW_mem (wAt_of h1 (chkF_of h2).1) rfl
set_option maxHeartbeats 4000000 in
set_option maxRecDepth 100000 in
theorem k_fill {l : Launch} {D : va_G} {cA : Nat → ClassId} {B N i n : Nat} {g : Nat → va_E} {f : Nat → Int32} {v : Int32} (hn : n < 2147483648) (hi : i < N) (he : g i = .inl (cA 1, n, .inl f)) : Met l yJ7_fill_53178 (wMt yJ7_fill_53178 cJ7_fill_53178 4 none) ({ frames := 0, cells := 0, slots := 0, locals := 0 }) (va_Pc [.ref (B + i), .int v] (fun U => EH D B N g U.heap ∧ wCon cA D U)) (va_Qv (fun g1 : Nat → va_E => (∀ k, k < N → k ≠ i → g1 k = g k) ∧ g1 i = .inl (cA 1, n, .inl (fun j => if j < n then v else f j))) (fun g1 t => EH D B N g1 t.heap) (Al B)) 0 0 (Al B) := by
  refine Met.ofW (cc := cJ7_fill_53178) (maxL := 4) (ret := none) (by decide) rfl ?_
  intro p e s m args below meth c s₁ B9 hml hv
  obtain ⟨rfl, hE, hCon⟩ := hv
  have hx := B9.exec
  have hb := B9.bytes
  have hr := B9.returns
  have hts0 := atoms_spec (ws := wMt yJ7_fill_53178 cJ7_fill_53178 4 none) B9.pre
  have hts : ∀ w ∈ LW, w.before _ s = true := fun w hw => hts0 w (List.mem_cons_of_mem _ hw)
  have hlocks := B9.notSynchronized
  have hK := hCon.1
  have hS : va_S (Al B) s.heap s.heap [] := va_S.rf
  have hl := lv_entry ([.ref (B + i), .int v]) (n := 4) (Nat.le_of_ble_eq_true rfl)
  rw [lg_entry_eq]
  generalize (lg_sl ([.ref (B + i), .int v]) ++ List.replicate (4 - (lg_sl ([.ref (B + i), .int v])).length) Slot.unset).toArray = ls at hl ⊢
  have hl : lv_has ls 4 [(0, .ref (B + i)), (1, .int v)] := hl
  have loop : ∀ (q k : Nat) (g1 : Nat → va_E) (H : Heap) (locs : List Loc) (ls : Array Slot), k + q = n → (∀ k, k < N → k ≠ i → g1 k = g k) → g1 i = .inl (cA 1, n, .inl (fun j => if j < k then v else f j)) → EH D B N g1 H → va_S (Al B) s.heap H locs → lv_has ls 4 [(2, .int (nI k)), (3, .int (nI n)), (0, .ref (B + i)), (1, .int v)] →
      W p l e (headSpec (wMt yJ7_fill_53178 cJ7_fill_53178 4 none) ({ frames := 0, cells := 0, slots := 0, locals := 0 })).room s m ([.ref (B + i), .int v] : List Value).toArray below meth c H locs 0 0 (MQ below (va_Qv (fun g1 : Nat → va_E => (∀ k, k < N → k ≠ i → g1 k = g k) ∧ g1 i = .inl (cA 1, n, .inl (fun j => if j < n then v else f j))) (fun g1 t => EH D B N g1 t.heap) (Al B)) ([.ref (B + i), .int v] : List Value).toArray s 0 0 (Al B)) (F0 m 5 ls []) := by
    intro q
    induction q with
    | zero =>
      intro k g1 H locs ls hk h1 h2 hE hS hl
      have hk : k = n := by omega
      subst hk
      refine lv_iload_n hx hb dJ7_fill_53178_5 rfl (lv_at hl 0 rfl) ?_
      refine lv_iload_n hx hb dJ7_fill_53178_6 rfl (lv_at hl 1 rfl) ?_
      refine lv_icmp_ge (tgt := 20) hx hb dJ7_fill_53178_7 (by decide) (fun _ => ?_) (fun h => absurd (nI_le (Nat.le_refl k) (by omega)) h)
      exact W.vret hx hb hr (fun t ht hW => ⟨⟨g1, rfl, ⟨h1, h2⟩, hE.moved ht⟩, hS.F ht⟩) hS.2.2 dJ7_fill_53178_20
    | succ q ih =>
      intro k g1 H locs ls hk h1 h2 hE hS hl
      refine lv_iload_n hx hb dJ7_fill_53178_5 rfl (lv_at hl 0 rfl) ?_
      refine lv_iload_n hx hb dJ7_fill_53178_6 rfl (lv_at hl 1 rfl) ?_
      refine lv_icmp_ge (tgt := 20) hx hb dJ7_fill_53178_7 (by decide) (fun h => absurd h (nI_ge (by omega) (by omega))) (fun _ => ?_)
      refine lv_aload_n hx hb dJ7_fill_53178_10 rfl (lv_at hl 2 rfl) ?_
      refine lv_iload_n hx hb dJ7_fill_53178_11 rfl (lv_at hl 0 rfl) ?_
      refine lv_iload_n hx hb dJ7_fill_53178_12 rfl (lv_at hl 3 rfl) ?_
      refine eh_iast hx hb hK hE hS hi h2 (vp_in_nI (by omega) (by omega)) dJ7_fill_53178_13 (fun H locs hE hS => ?_)
      rw [nI_clamp (by omega)] at hE
      refine lv_iinc (v := nI (k + 1)) (lv' := [(2, .int (nI (k + 1))), (3, .int (nI n)), (0, .ref (B + i)), (1, .int v)]) hx hb dJ7_fill_53178_14 hl (k := 0) rfl (by rw [nI_succ]; rfl) (by decide) rfl (fun ls hl => ?_)
      refine lv_goto (tgt := 5) hx hb dJ7_fill_53178_17 (by decide) ?_
      refine ih (k + 1) _ H locs ls (by omega) (fun q hq hqi => by rw [gup_ne hqi]; exact h1 q hq hqi) ?_ hE hS hl
      rw [gup_same]
      have ef : upd (fun j => if j < k then v else f j) k v = fun j => if j < k + 1 then v else f j := ?_
      · rw [ef]
      funext j
      unfold upd
      by_cases e1 : j = k
      · rw [if_pos e1, if_pos (by omega)]
      · rw [if_neg e1]
        by_cases e2 : j < k
        · simp only [if_pos e2]; rw [if_pos (by omega)]
        · simp only [if_neg e2]; rw [if_neg (by omega)]
  refine lv_iconst (v := 0) hx hb dJ7_fill_53178_0 (by decide) ?_
  refine lv_istore_n (lv' := [(2, .int 0), (0, .ref (B + i)), (1, .int v)]) hx hb dJ7_fill_53178_1 rfl hl (by decide) rfl (fun ls hl => ?_)
  refine lv_aload_n hx hb dJ7_fill_53178_2 rfl (lv_at hl 1 rfl) ?_
  refine eh_alen hx hb hK hE hi he (v := nI n) rfl dJ7_fill_53178_3 ?_
  refine lv_istore_n (lv' := [(3, .int (nI n)), (2, .int 0), (0, .ref (B + i)), (1, .int v)]) hx hb dJ7_fill_53178_4 rfl hl (by decide) rfl (fun ls hl => ?_)
  refine loop n 0 g s.heap [] ls (by omega) (fun _ _ _ => rfl) ?_ hE hS (lv_sub hl [1, 0, 2, 3] rfl)
  rw [he]
  have ef : (fun j => if j < 0 then v else f j) = f := funext fun j => if_neg (Nat.not_lt_zero j)
  rw [ef]
