/-! What the tables and the given words say of the law's start (by program). -/
def nar : List Cond := flatC (Cond.and given_1 narrow_1)
def strK : List (String × Nat) := [("Queueward$Tape", 84), ("Queueward$Tape", 70), ("Queueward$Tape", 76), ("Queueward$Tape", 90), ("Queueward$Tape", 92), ("Queueward", 100), ("Queueward", 115), ("Queueward", 132), ("Queueward", 137), ("Queueward", 149), ("Queueward", 161), ("Queueward", 166), ("Queueward", 182), ("Queueward", 184), ("Queueward", 191), ("Queueward", 197), ("Queueward", 209), ("Queueward", 211), ("Queueward", 238), ("Queueward", 258), ("Queueward", 316), ("Queueward", 271), ("Queueward", 321), ("Queueward", 305), ("Queueward", 310), ("Queueward", 323), ("Queueward", 349), ("Queueward", 347), ("Queueward", 351), ("Queueward", 411), ("Queueward", 359), ("Queueward", 370), ("Queueward", 416), ("Queueward", 388), ("Queueward", 390), ("Queueward", 401), ("Queueward", 406), ("Queueward", 418), ("Queueward", 426), ("Queueward", 428), ("Queueward", 435), ("Queueward", 454), ("Queueward", 463)]
theorem ns_0 : Cond.exactly (.string "Queueward$Tape" 84) "java/lang/String" ∈ nar := List.mem_of_getElem? (i := 112) (by decide +kernel)
theorem ns_1 : Cond.exactly (.string "Queueward$Tape" 70) "java/lang/String" ∈ nar := List.mem_of_getElem? (i := 118) (by decide +kernel)
theorem ns_2 : Cond.exactly (.string "Queueward$Tape" 76) "java/lang/String" ∈ nar := List.mem_of_getElem? (i := 127) (by decide +kernel)
theorem ns_3 : Cond.exactly (.string "Queueward$Tape" 90) "java/lang/String" ∈ nar := List.mem_of_getElem? (i := 135) (by decide +kernel)
theorem ns_4 : Cond.exactly (.string "Queueward$Tape" 92) "java/lang/String" ∈ nar := List.mem_of_getElem? (i := 145) (by decide +kernel)
theorem ns_5 : Cond.exactly (.string "Queueward" 100) "java/lang/String" ∈ nar := List.mem_of_getElem? (i := 150) (by decide +kernel)
theorem ns_6 : Cond.exactly (.string "Queueward" 115) "java/lang/String" ∈ nar := List.mem_of_getElem? (i := 175) (by decide +kernel)
theorem ns_7 : Cond.exactly (.string "Queueward" 132) "java/lang/String" ∈ nar := List.mem_of_getElem? (i := 205) (by decide +kernel)
theorem ns_8 : Cond.exactly (.string "Queueward" 137) "java/lang/String" ∈ nar := List.mem_of_getElem? (i := 238) (by decide +kernel)
theorem ns_9 : Cond.exactly (.string "Queueward" 149) "java/lang/String" ∈ nar := List.mem_of_getElem? (i := 263) (by decide +kernel)
theorem ns_10 : Cond.exactly (.string "Queueward" 161) "java/lang/String" ∈ nar := List.mem_of_getElem? (i := 313) (by decide +kernel)
theorem ns_11 : Cond.exactly (.string "Queueward" 166) "java/lang/String" ∈ nar := List.mem_of_getElem? (i := 337) (by decide +kernel)
theorem ns_12 : Cond.exactly (.string "Queueward" 182) "java/lang/String" ∈ nar := List.mem_of_getElem? (i := 369) (by decide +kernel)
theorem ns_13 : Cond.exactly (.string "Queueward" 184) "java/lang/String" ∈ nar := List.mem_of_getElem? (i := 408) (by decide +kernel)
theorem ns_14 : Cond.exactly (.string "Queueward" 191) "java/lang/String" ∈ nar := List.mem_of_getElem? (i := 458) (by decide +kernel)
theorem ns_15 : Cond.exactly (.string "Queueward" 197) "java/lang/String" ∈ nar := List.mem_of_getElem? (i := 488) (by decide +kernel)
theorem ns_16 : Cond.exactly (.string "Queueward" 209) "java/lang/String" ∈ nar := List.mem_of_getElem? (i := 528) (by decide +kernel)
theorem ns_17 : Cond.exactly (.string "Queueward" 211) "java/lang/String" ∈ nar := List.mem_of_getElem? (i := 552) (by decide +kernel)
theorem ns_18 : Cond.exactly (.string "Queueward" 238) "java/lang/String" ∈ nar := List.mem_of_getElem? (i := 576) (by decide +kernel)
theorem ns_19 : Cond.exactly (.string "Queueward" 258) "java/lang/String" ∈ nar := List.mem_of_getElem? (i := 600) (by decide +kernel)
theorem ns_20 : Cond.exactly (.string "Queueward" 316) "java/lang/String" ∈ nar := List.mem_of_getElem? (i := 641) (by decide +kernel)
theorem ns_21 : Cond.exactly (.string "Queueward" 271) "java/lang/String" ∈ nar := List.mem_of_getElem? (i := 667) (by decide +kernel)
theorem ns_22 : Cond.exactly (.string "Queueward" 321) "java/lang/String" ∈ nar := List.mem_of_getElem? (i := 692) (by decide +kernel)
theorem ns_23 : Cond.exactly (.string "Queueward" 305) "java/lang/String" ∈ nar := List.mem_of_getElem? (i := 719) (by decide +kernel)
theorem ns_24 : Cond.exactly (.string "Queueward" 310) "java/lang/String" ∈ nar := List.mem_of_getElem? (i := 765) (by decide +kernel)
theorem ns_25 : Cond.exactly (.string "Queueward" 323) "java/lang/String" ∈ nar := List.mem_of_getElem? (i := 790) (by decide +kernel)
theorem ns_26 : Cond.exactly (.string "Queueward" 349) "java/lang/String" ∈ nar := List.mem_of_getElem? (i := 817) (by decide +kernel)
theorem ns_27 : Cond.exactly (.string "Queueward" 347) "java/lang/String" ∈ nar := List.mem_of_getElem? (i := 861) (by decide +kernel)
theorem ns_28 : Cond.exactly (.string "Queueward" 351) "java/lang/String" ∈ nar := List.mem_of_getElem? (i := 895) (by decide +kernel)
theorem ns_29 : Cond.exactly (.string "Queueward" 411) "java/lang/String" ∈ nar := List.mem_of_getElem? (i := 920) (by decide +kernel)
theorem ns_30 : Cond.exactly (.string "Queueward" 359) "java/lang/String" ∈ nar := List.mem_of_getElem? (i := 945) (by decide +kernel)
theorem ns_31 : Cond.exactly (.string "Queueward" 370) "java/lang/String" ∈ nar := List.mem_of_getElem? (i := 985) (by decide +kernel)
theorem ns_32 : Cond.exactly (.string "Queueward" 416) "java/lang/String" ∈ nar := List.mem_of_getElem? (i := 1016) (by decide +kernel)
theorem ns_33 : Cond.exactly (.string "Queueward" 388) "java/lang/String" ∈ nar := List.mem_of_getElem? (i := 1043) (by decide +kernel)
theorem ns_34 : Cond.exactly (.string "Queueward" 390) "java/lang/String" ∈ nar := List.mem_of_getElem? (i := 1067) (by decide +kernel)
theorem ns_35 : Cond.exactly (.string "Queueward" 401) "java/lang/String" ∈ nar := List.mem_of_getElem? (i := 1093) (by decide +kernel)
theorem ns_36 : Cond.exactly (.string "Queueward" 406) "java/lang/String" ∈ nar := List.mem_of_getElem? (i := 1117) (by decide +kernel)
theorem ns_37 : Cond.exactly (.string "Queueward" 418) "java/lang/String" ∈ nar := List.mem_of_getElem? (i := 1142) (by decide +kernel)
theorem ns_38 : Cond.exactly (.string "Queueward" 426) "java/lang/String" ∈ nar := List.mem_of_getElem? (i := 1186) (by decide +kernel)
theorem ns_39 : Cond.exactly (.string "Queueward" 428) "java/lang/String" ∈ nar := List.mem_of_getElem? (i := 1228) (by decide +kernel)
theorem ns_40 : Cond.exactly (.string "Queueward" 435) "java/lang/String" ∈ nar := List.mem_of_getElem? (i := 1258) (by decide +kernel)
theorem ns_41 : Cond.exactly (.string "Queueward" 454) "java/lang/String" ∈ nar := List.mem_of_getElem? (i := 1284) (by decide +kernel)
theorem ns_42 : Cond.exactly (.string "Queueward" 463) "java/lang/String" ∈ nar := List.mem_of_getElem? (i := 1319) (by decide +kernel)
theorem ns_all : ∀ q ∈ strK, Cond.exactly (.string q.1 q.2) "java/lang/String" ∈ nar := List.forall_mem_cons.mpr ⟨ns_0, List.forall_mem_cons.mpr ⟨ns_1, List.forall_mem_cons.mpr ⟨ns_2, List.forall_mem_cons.mpr ⟨ns_3, List.forall_mem_cons.mpr ⟨ns_4, List.forall_mem_cons.mpr ⟨ns_5, List.forall_mem_cons.mpr ⟨ns_6, List.forall_mem_cons.mpr ⟨ns_7, List.forall_mem_cons.mpr ⟨ns_8, List.forall_mem_cons.mpr ⟨ns_9, List.forall_mem_cons.mpr ⟨ns_10, List.forall_mem_cons.mpr ⟨ns_11, List.forall_mem_cons.mpr ⟨ns_12, List.forall_mem_cons.mpr ⟨ns_13, List.forall_mem_cons.mpr ⟨ns_14, List.forall_mem_cons.mpr ⟨ns_15, List.forall_mem_cons.mpr ⟨ns_16, List.forall_mem_cons.mpr ⟨ns_17, List.forall_mem_cons.mpr ⟨ns_18, List.forall_mem_cons.mpr ⟨ns_19, List.forall_mem_cons.mpr ⟨ns_20, List.forall_mem_cons.mpr ⟨ns_21, List.forall_mem_cons.mpr ⟨ns_22, List.forall_mem_cons.mpr ⟨ns_23, List.forall_mem_cons.mpr ⟨ns_24, List.forall_mem_cons.mpr ⟨ns_25, List.forall_mem_cons.mpr ⟨ns_26, List.forall_mem_cons.mpr ⟨ns_27, List.forall_mem_cons.mpr ⟨ns_28, List.forall_mem_cons.mpr ⟨ns_29, List.forall_mem_cons.mpr ⟨ns_30, List.forall_mem_cons.mpr ⟨ns_31, List.forall_mem_cons.mpr ⟨ns_32, List.forall_mem_cons.mpr ⟨ns_33, List.forall_mem_cons.mpr ⟨ns_34, List.forall_mem_cons.mpr ⟨ns_35, List.forall_mem_cons.mpr ⟨ns_36, List.forall_mem_cons.mpr ⟨ns_37, List.forall_mem_cons.mpr ⟨ns_38, List.forall_mem_cons.mpr ⟨ns_39, List.forall_mem_cons.mpr ⟨ns_40, List.forall_mem_cons.mpr ⟨ns_41, List.forall_mem_cons.mpr ⟨ns_42, fun _ h => absurd h List.not_mem_nil⟩⟩⟩⟩⟩⟩⟩⟩⟩⟩⟩⟩⟩⟩⟩⟩⟩⟩⟩⟩⟩⟩⟩⟩⟩⟩⟩⟩⟩⟩⟩⟩⟩⟩⟩⟩⟩⟩⟩⟩⟩⟩⟩
def wK (j : Nat) : Nat := match j with
  | 1 => 84
  | 2 => 70
  | 3 => 76
  | 4 => 90
  | _ => 92
def strB (w : Cond) : Bool := match w with
  | .stringRef o k t => strK.any (fun q => q.1 == o && q.2 == k) && [1, 2, 3, 4, 5].all (fun j => !(o == RX10 && t == wTx j) || k == wK j)
  | _ => true
theorem strB_all : lw_tbl.all strB = true := by decide +kernel
theorem strB_of {o : String} {k : Nat} {t : String} (h : Cond.stringRef o k t ∈ lw_tbl) : (o, k) ∈ strK ∧ ∀ j, 1 ≤ j → j ≤ 5 → o = RX10 → t = wTx j → k = wK j := by
  have h1 : strB (.stringRef o k t) = true := List.all_eq_true.mp strB_all _ h
  unfold strB at h1
  rw [Bool.and_eq_true] at h1
  obtain ⟨h1, h2⟩ := h1
  refine ⟨?_, fun j a b e1 e2 => ?_⟩
  · obtain ⟨q, hq, he⟩ := List.any_eq_true.mp h1
    rw [Bool.and_eq_true, beq_iff_eq, beq_iff_eq] at he
    obtain ⟨e1, e2⟩ := he
    subst e1; subst e2
    exact hq
  · have hj : j ∈ [1, 2, 3, 4, 5] := by
      simp only [List.mem_cons, List.not_mem_nil, or_false]; omega
    have h3 := List.all_eq_true.mp h2 j hj
    rw [Bool.or_eq_true] at h3
    rcases h3 with h3 | h3
    · rw [e1, e2] at h3
      simp at h3
    · exact beq_iff_eq.mp h3
theorem str_ev {args : Array Value} {s : State} {o : String} {k : Nat} (h : (Cond.exactly (.string o k) "java/lang/String").before args s = true) : ∃ a, (Term.string o k).eval args s none [] s = some (.ref a) := by
  obtain ⟨a, c, cA, kA, q1, -⟩ := Cond.exactly_spec (args := args) (first := s) (o := none) (s := s) (idx := []) (t := .string o k) (cls := "java/lang/String") h
  exact ⟨a, q1⟩
theorem one_word {args : Array Value} {s : State} {k : Nat} {L : List Int} {A : Nat → Prop} (hN : L.length < 2 ^ 31) (hex : (Cond.exactly (.string RX10 k) "java/lang/String").before args s = true) (hco : (Cond.eq (.field (.string RX10 k) "java/lang/String" "coder" "B") (.int 0)).before args s = true) (har : (Cond.arrayOf (.field (.string RX10 k) "java/lang/String" "value" "[B") .byte).before args s = true) (hle : (Cond.eq (.length (.field (.string RX10 k) "java/lang/String" "value" "[B")) (.int (Int32.ofNat L.length))).before args s = true)
    (hel : ∀ j : Nat, j < L.length → (Cond.eq (.elem (.field (.string RX10 k) "java/lang/String" "value" "[B") (.int (Int32.ofNat j))) (.int (Int32.ofInt (L.getD j 0)))).before args s = true) (hA : ∀ a : Nat, a < s.heap.size → ¬ A a) :
    ∃ a, (Term.string RX10 k).eval args s none [] s = some (.ref a) ∧ va_O "java/lang/String" a A s s.heap ∧ va_OF "java/lang/String" "coder" "B" (.int 0) a A s s.heap ∧ ∃ t, va_OF "java/lang/String" "value" "[B" (.ref t) a A s s.heap ∧ va_T .byte t L.length (fun i => .int (Int32.ofInt (L.getD i 0))) A s s.heap := by
  obtain ⟨a, q1⟩ := str_ev hex
  obtain ⟨t, ht, hT⟩ := va_Tof (f := fun j => .int (Int32.ofInt (L.getD j 0))) (A := A) hN har (va_eqt hle) (fun j hj => va_eqt (hel j hj)) hA
  exact ⟨a, q1, va_Oof hex q1 hA, vk_OFof q1 (va_eqt hco) hA, t, vk_OFof q1 ht hA, hT⟩
theorem word_1 {args : Array Value} {s : State} {A : Nat → Prop} (hn : ∀ w ∈ nar, w.before args s = true) (hA : ∀ a : Nat, a < s.heap.size → ¬ A a) : ∃ a, (Term.string RX10 (wK 1)).eval args s none [] s = some (.ref a) ∧ va_O "java/lang/String" a A s s.heap ∧ va_OF "java/lang/String" "coder" "B" (.int 0) a A s s.heap ∧ ∃ t, va_OF "java/lang/String" "value" "[B" (.ref t) a A s s.heap ∧ va_T .byte t (wordL 1).length (fun i => .int (Int32.ofInt ((wordL 1).getD i 0))) A s s.heap :=
  one_word (k := 84) (L := wordL 1) (by decide) (hn _ (List.mem_of_getElem? (i := 112) (by decide +kernel))) (hn _ (List.mem_of_getElem? (i := 113) (by decide +kernel))) (hn _ (List.mem_of_getElem? (i := 114) (by decide +kernel))) (hn _ (List.mem_of_getElem? (i := 115) (by decide +kernel))) (fun j hj => match j, hj with
  | 0, _ => hn _ (List.mem_of_getElem? (i := 116) (by decide +kernel))
  | 1, _ => hn _ (List.mem_of_getElem? (i := 117) (by decide +kernel))
  | n + 2, h => absurd h (by show ¬ n + 2 < 2; omega)) hA
theorem word_2 {args : Array Value} {s : State} {A : Nat → Prop} (hn : ∀ w ∈ nar, w.before args s = true) (hA : ∀ a : Nat, a < s.heap.size → ¬ A a) : ∃ a, (Term.string RX10 (wK 2)).eval args s none [] s = some (.ref a) ∧ va_O "java/lang/String" a A s s.heap ∧ va_OF "java/lang/String" "coder" "B" (.int 0) a A s s.heap ∧ ∃ t, va_OF "java/lang/String" "value" "[B" (.ref t) a A s s.heap ∧ va_T .byte t (wordL 2).length (fun i => .int (Int32.ofInt ((wordL 2).getD i 0))) A s s.heap :=
  one_word (k := 70) (L := wordL 2) (by decide) (hn _ (List.mem_of_getElem? (i := 118) (by decide +kernel))) (hn _ (List.mem_of_getElem? (i := 119) (by decide +kernel))) (hn _ (List.mem_of_getElem? (i := 120) (by decide +kernel))) (hn _ (List.mem_of_getElem? (i := 121) (by decide +kernel))) (fun j hj => match j, hj with
  | 0, _ => hn _ (List.mem_of_getElem? (i := 122) (by decide +kernel))
  | 1, _ => hn _ (List.mem_of_getElem? (i := 123) (by decide +kernel))
  | 2, _ => hn _ (List.mem_of_getElem? (i := 124) (by decide +kernel))
  | 3, _ => hn _ (List.mem_of_getElem? (i := 125) (by decide +kernel))
  | 4, _ => hn _ (List.mem_of_getElem? (i := 126) (by decide +kernel))
  | n + 5, h => absurd h (by show ¬ n + 5 < 5; omega)) hA
theorem word_3 {args : Array Value} {s : State} {A : Nat → Prop} (hn : ∀ w ∈ nar, w.before args s = true) (hA : ∀ a : Nat, a < s.heap.size → ¬ A a) : ∃ a, (Term.string RX10 (wK 3)).eval args s none [] s = some (.ref a) ∧ va_O "java/lang/String" a A s s.heap ∧ va_OF "java/lang/String" "coder" "B" (.int 0) a A s s.heap ∧ ∃ t, va_OF "java/lang/String" "value" "[B" (.ref t) a A s s.heap ∧ va_T .byte t (wordL 3).length (fun i => .int (Int32.ofInt ((wordL 3).getD i 0))) A s s.heap :=
  one_word (k := 76) (L := wordL 3) (by decide) (hn _ (List.mem_of_getElem? (i := 127) (by decide +kernel))) (hn _ (List.mem_of_getElem? (i := 128) (by decide +kernel))) (hn _ (List.mem_of_getElem? (i := 129) (by decide +kernel))) (hn _ (List.mem_of_getElem? (i := 130) (by decide +kernel))) (fun j hj => match j, hj with
  | 0, _ => hn _ (List.mem_of_getElem? (i := 131) (by decide +kernel))
  | 1, _ => hn _ (List.mem_of_getElem? (i := 132) (by decide +kernel))
  | 2, _ => hn _ (List.mem_of_getElem? (i := 133) (by decide +kernel))
  | 3, _ => hn _ (List.mem_of_getElem? (i := 134) (by decide +kernel))
  | n + 4, h => absurd h (by show ¬ n + 4 < 4; omega)) hA
theorem word_4 {args : Array Value} {s : State} {A : Nat → Prop} (hn : ∀ w ∈ nar, w.before args s = true) (hA : ∀ a : Nat, a < s.heap.size → ¬ A a) : ∃ a, (Term.string RX10 (wK 4)).eval args s none [] s = some (.ref a) ∧ va_O "java/lang/String" a A s s.heap ∧ va_OF "java/lang/String" "coder" "B" (.int 0) a A s s.heap ∧ ∃ t, va_OF "java/lang/String" "value" "[B" (.ref t) a A s s.heap ∧ va_T .byte t (wordL 4).length (fun i => .int (Int32.ofInt ((wordL 4).getD i 0))) A s s.heap :=
  one_word (k := 90) (L := wordL 4) (by decide) (hn _ (List.mem_of_getElem? (i := 135) (by decide +kernel))) (hn _ (List.mem_of_getElem? (i := 136) (by decide +kernel))) (hn _ (List.mem_of_getElem? (i := 137) (by decide +kernel))) (hn _ (List.mem_of_getElem? (i := 138) (by decide +kernel))) (fun j hj => match j, hj with
  | 0, _ => hn _ (List.mem_of_getElem? (i := 139) (by decide +kernel))
  | 1, _ => hn _ (List.mem_of_getElem? (i := 140) (by decide +kernel))
  | 2, _ => hn _ (List.mem_of_getElem? (i := 141) (by decide +kernel))
  | 3, _ => hn _ (List.mem_of_getElem? (i := 142) (by decide +kernel))
  | 4, _ => hn _ (List.mem_of_getElem? (i := 143) (by decide +kernel))
  | 5, _ => hn _ (List.mem_of_getElem? (i := 144) (by decide +kernel))
  | n + 6, h => absurd h (by show ¬ n + 6 < 6; omega)) hA
theorem word_5 {args : Array Value} {s : State} {A : Nat → Prop} (hn : ∀ w ∈ nar, w.before args s = true) (hA : ∀ a : Nat, a < s.heap.size → ¬ A a) : ∃ a, (Term.string RX10 (wK 5)).eval args s none [] s = some (.ref a) ∧ va_O "java/lang/String" a A s s.heap ∧ va_OF "java/lang/String" "coder" "B" (.int 0) a A s s.heap ∧ ∃ t, va_OF "java/lang/String" "value" "[B" (.ref t) a A s s.heap ∧ va_T .byte t (wordL 5).length (fun i => .int (Int32.ofInt ((wordL 5).getD i 0))) A s s.heap :=
  one_word (k := 92) (L := wordL 5) (by decide) (hn _ (List.mem_of_getElem? (i := 145) (by decide +kernel))) (hn _ (List.mem_of_getElem? (i := 146) (by decide +kernel))) (hn _ (List.mem_of_getElem? (i := 147) (by decide +kernel))) (hn _ (List.mem_of_getElem? (i := 148) (by decide +kernel))) (fun j hj => match j, hj with
  | 0, _ => hn _ (List.mem_of_getElem? (i := 149) (by decide +kernel))
  | n + 1, h => absurd h (by show ¬ n + 1 < 1; omega)) hA
theorem powers {args : Array Value} {s : State} {A : Nat → Prop} (hn : ∀ w ∈ nar, w.before args s = true) (hA : ∀ a : Nat, a < s.heap.size → ¬ A a) : ∃ t, (Term.static "Queueward$Big" "POWERS" "[I").eval args s none [] s = some (.ref t) ∧ va_T .int t 9 (fun j => .int (Int32.ofInt (10 ^ j))) A s s.heap :=
  va_Tof (by decide) (hn _ (List.mem_of_getElem? (i := 12) (by decide +kernel))) (va_eqt (z := Int32.ofNat 9) (hn _ (List.mem_of_getElem? (i := 13) (by decide +kernel)))) (fun j hj => match j, hj with
  | 0, _ => va_eqt (hn _ (List.mem_of_getElem? (i := 14) (by decide +kernel)))
  | 1, _ => va_eqt (hn _ (List.mem_of_getElem? (i := 15) (by decide +kernel)))
  | 2, _ => va_eqt (hn _ (List.mem_of_getElem? (i := 16) (by decide +kernel)))
  | 3, _ => va_eqt (hn _ (List.mem_of_getElem? (i := 17) (by decide +kernel)))
  | 4, _ => va_eqt (hn _ (List.mem_of_getElem? (i := 18) (by decide +kernel)))
  | 5, _ => va_eqt (hn _ (List.mem_of_getElem? (i := 19) (by decide +kernel)))
  | 6, _ => va_eqt (hn _ (List.mem_of_getElem? (i := 20) (by decide +kernel)))
  | 7, _ => va_eqt (hn _ (List.mem_of_getElem? (i := 21) (by decide +kernel)))
  | 8, _ => va_eqt (hn _ (List.mem_of_getElem? (i := 22) (by decide +kernel)))
  | n + 9, h => absurd h (by omega)) hA
theorem ki_0 {args : Array Value} {s : State} (hts : ∀ w ∈ lw_tbl, w.before args s = true) : ∃ q : ClassId × (Nat → Nat), u_Kn s (clR 0) (gT 0) (gN 0) q.1 q.2 := by
  obtain ⟨c, i, h⟩ := u_known (n := 2) (fun w hw => hts w (List.mem_filter.mp hw).1) (uw_in 0 (by decide)) (hts _ (lw_in1 _ (List.mem_of_getElem? (i := 46) (by decide +kernel))))
  exact ⟨(c, i), h⟩
theorem ki_1 {args : Array Value} {s : State} (hts : ∀ w ∈ lw_tbl, w.before args s = true) : ∃ q : ClassId × (Nat → Nat), u_Kn s (clR 1) (gT 1) (gN 1) q.1 q.2 := by
  obtain ⟨c, i, h⟩ := u_known (n := 9) (fun w hw => hts w (List.mem_filter.mp hw).1) (uw_in 1 (by decide)) (hts _ (lw_in1 _ (List.mem_of_getElem? (i := 211) (by decide +kernel))))
  exact ⟨(c, i), h⟩
theorem ki_2 {args : Array Value} {s : State} (hts : ∀ w ∈ lw_tbl, w.before args s = true) : ∃ q : ClassId × (Nat → Nat), u_Kn s (clR 2) (gT 2) (gN 2) q.1 q.2 := by
  obtain ⟨c, i, h⟩ := u_known (n := 7) (fun w hw => hts w (List.mem_filter.mp hw).1) (uw_in 2 (by decide)) (hts _ (lw_in2 _ (List.mem_of_getElem? (i := 112) (by decide +kernel))))
  exact ⟨(c, i), h⟩
theorem ki_3 {args : Array Value} {s : State} (hts : ∀ w ∈ lw_tbl, w.before args s = true) : ∃ q : ClassId × (Nat → Nat), u_Kn s (clR 3) (gT 3) (gN 3) q.1 q.2 := by
  obtain ⟨c, i, h⟩ := u_known (n := 5) (fun w hw => hts w (List.mem_filter.mp hw).1) (uw_in 3 (by decide)) (hts _ (lw_in1 _ (List.mem_of_getElem? (i := 40) (by decide +kernel))))
  exact ⟨(c, i), h⟩
theorem ki_4 {args : Array Value} {s : State} (hts : ∀ w ∈ lw_tbl, w.before args s = true) : ∃ q : ClassId × (Nat → Nat), u_Kn s (clR 4) (gT 4) (gN 4) q.1 q.2 := by
  obtain ⟨c, i, h⟩ := u_known (n := 3) (fun w hw => hts w (List.mem_filter.mp hw).1) (uw_in 4 (by decide)) (hts _ (lw_in2 _ (List.mem_of_getElem? (i := 144) (by decide +kernel))))
  exact ⟨(c, i), h⟩
theorem ki_5 {args : Array Value} {s : State} (hts : ∀ w ∈ lw_tbl, w.before args s = true) : ∃ q : ClassId × (Nat → Nat), u_Kn s (clR 5) (gT 5) (gN 5) q.1 q.2 := by
  obtain ⟨c, i, h⟩ := u_known (n := 6) (fun w hw => hts w (List.mem_filter.mp hw).1) (uw_in 5 (by decide)) (hts _ (lw_in1 _ (List.mem_of_getElem? (i := 116) (by decide +kernel))))
  exact ⟨(c, i), h⟩
theorem ki_6 {args : Array Value} {s : State} (hts : ∀ w ∈ lw_tbl, w.before args s = true) : ∃ q : ClassId × (Nat → Nat), u_Kn s (clR 6) (gT 6) (gN 6) q.1 q.2 := by
  obtain ⟨c, i, h⟩ := u_known (n := 6) (fun w hw => hts w (List.mem_filter.mp hw).1) (uw_in 6 (by decide)) (hts _ (lw_in2 _ (List.mem_of_getElem? (i := 28) (by decide +kernel))))
  exact ⟨(c, i), h⟩
theorem ki_7 {args : Array Value} {s : State} (hts : ∀ w ∈ lw_tbl, w.before args s = true) : ∃ q : ClassId × (Nat → Nat), u_Kn s (clR 7) (gT 7) (gN 7) q.1 q.2 := by
  obtain ⟨c, i, h⟩ := u_known (n := 12) (fun w hw => hts w (List.mem_filter.mp hw).1) (uw_in 7 (by decide)) (hts _ (lw_in2 _ (List.mem_of_getElem? (i := 57) (by decide +kernel))))
  exact ⟨(c, i), h⟩
theorem ki_8 {args : Array Value} {s : State} (hts : ∀ w ∈ lw_tbl, w.before args s = true) : ∃ q : ClassId × (Nat → Nat), u_Kn s (clR 8) (gT 8) (gN 8) q.1 q.2 := by
  obtain ⟨c, i, h⟩ := u_known (n := 17) (fun w hw => hts w (List.mem_filter.mp hw).1) (uw_in 8 (by decide)) (hts _ (lw_in1 _ (List.mem_of_getElem? (i := 147) (by decide +kernel))))
  exact ⟨(c, i), h⟩
theorem ki_9 {args : Array Value} {s : State} (hts : ∀ w ∈ lw_tbl, w.before args s = true) : ∃ q : ClassId × (Nat → Nat), u_Kn s (clR 9) (gT 9) (gN 9) q.1 q.2 := by
  obtain ⟨c, i, h⟩ := u_known (n := 2) (fun w hw => hts w (List.mem_filter.mp hw).1) (uw_in 9 (by decide)) (hts _ (lw_in1 _ (List.mem_of_getElem? (i := 218) (by decide +kernel))))
  exact ⟨(c, i), h⟩
theorem ki_10 {args : Array Value} {s : State} (hts : ∀ w ∈ lw_tbl, w.before args s = true) : ∃ q : ClassId × (Nat → Nat), u_Kn s (clR 10) (gT 10) (gN 10) q.1 q.2 := by
  obtain ⟨c, i, h⟩ := u_known (n := 4) (fun w hw => hts w (List.mem_filter.mp hw).1) (uw_in 10 (by decide)) (hts _ (lw_in1 _ (List.mem_of_getElem? (i := 94) (by decide +kernel))))
  exact ⟨(c, i), h⟩
theorem ki_11 {args : Array Value} {s : State} (hts : ∀ w ∈ lw_tbl, w.before args s = true) : ∃ q : ClassId × (Nat → Nat), u_Kn s (clR 11) (gT 11) (gN 11) q.1 q.2 := by
  obtain ⟨c, i, h⟩ := u_known (n := 13) (fun w hw => hts w (List.mem_filter.mp hw).1) (uw_in 11 (by decide)) (hts _ (lw_in1 _ (List.mem_of_getElem? (i := 32) (by decide +kernel))))
  exact ⟨(c, i), h⟩
theorem ki_12 {args : Array Value} {s : State} (hts : ∀ w ∈ lw_tbl, w.before args s = true) : ∃ q : ClassId × (Nat → Nat), u_Kn s (clR 12) (gT 12) (gN 12) q.1 q.2 := by
  obtain ⟨c, i, h⟩ := u_known (n := 45) (fun w hw => hts w (List.mem_filter.mp hw).1) (uw_in 12 (by decide)) (hts _ (lw_in7 _ (List.mem_of_getElem? (i := 69) (by decide +kernel))))
  exact ⟨(c, i), h⟩
theorem k_all {args : Array Value} {s : State} (hts : ∀ w ∈ lw_tbl, w.before args s = true) : ∀ b, ∃ q : ClassId × (Nat → Nat), b < 13 → u_Kn s (clR b) (gT b) (gN b) q.1 q.2
  | 0 => let ⟨q, h⟩ := ki_0 hts; ⟨q, fun _ => h⟩
  | 1 => let ⟨q, h⟩ := ki_1 hts; ⟨q, fun _ => h⟩
  | 2 => let ⟨q, h⟩ := ki_2 hts; ⟨q, fun _ => h⟩
  | 3 => let ⟨q, h⟩ := ki_3 hts; ⟨q, fun _ => h⟩
  | 4 => let ⟨q, h⟩ := ki_4 hts; ⟨q, fun _ => h⟩
  | 5 => let ⟨q, h⟩ := ki_5 hts; ⟨q, fun _ => h⟩
  | 6 => let ⟨q, h⟩ := ki_6 hts; ⟨q, fun _ => h⟩
  | 7 => let ⟨q, h⟩ := ki_7 hts; ⟨q, fun _ => h⟩
  | 8 => let ⟨q, h⟩ := ki_8 hts; ⟨q, fun _ => h⟩
  | 9 => let ⟨q, h⟩ := ki_9 hts; ⟨q, fun _ => h⟩
  | 10 => let ⟨q, h⟩ := ki_10 hts; ⟨q, fun _ => h⟩
  | 11 => let ⟨q, h⟩ := ki_11 hts; ⟨q, fun _ => h⟩
  | 12 => let ⟨q, h⟩ := ki_12 hts; ⟨q, fun _ => h⟩
  | n + 13 => ⟨(0, fun _ => 0), fun h => absurd h (by omega)⟩
theorem arr_p {args : Array Value} {s : State} {ty : FieldType} (h : (Cond.arrayClass ty).before args s = true) : ∃ c, ArrOfT s c ty ∧ s.vm.findClass ("[" ++ ty.toString) = some c := by
  obtain ⟨cA, kA, comp, h1, h2, h3⟩ := Cond.arrayClass_spec h
  exact ⟨cA, fun n z => ⟨fun k h => (by cases h), kA, h2, comp, h3⟩, h1⟩
theorem arr_a {args : Array Value} {s : State} {ty : FieldType} (h : (Cond.arrayOver (.array ty)).before args s = true) : ∃ c, ArrOfT s c (.array ty) ∧ s.vm.findClass ("[" ++ (FieldType.array ty).toString) = some c := by
  obtain ⟨comp, c, k, h1, h2, h3, h4, h5⟩ := arrayOverA_spec h
  exact ⟨c, fun n z => ⟨fun k h => (by cases h), k, h3, comp, h4⟩, h5⟩
theorem arr_q {args : Array Value} {s : State} {C : String} (h : (Cond.arrayOver (.object C)).before args s = true) : ∃ c, ArrOfT s c (.object C) ∧ va_RA s c (.object C) := by
  obtain ⟨comp, c, k, h1, h2, h3, h4, h5⟩ := Cond.arrayOver_spec h
  exact ⟨c, fun n z => ⟨fun k h => (by cases h), k, h3, comp, h4⟩, k, comp, h3, h4, h1, h5⟩
set_option maxHeartbeats 4000000 in
theorem start_fix {args : Array Value} {s : State} (hts : ∀ w ∈ lw_tbl, w.before args s = true) (hn : ∀ w ∈ nar, w.before args s = true) : ∃ (D : va_G) (cA : Nat → ClassId) (sg : Nat → Nat), wFix sg cA D s.heap.size s ∧ wCon cA D s := by
  have hA : ∀ a : Nat, a < s.heap.size → ¬ Ar s.heap.size a := fun a h q => by have := q.1; omega
  obtain ⟨ad, had⟩ := Classical.axiomOfChoice (k_all hts)
  obtain ⟨c1, i1, j1⟩ := arr_p (ty := .int) (hts _ (lw_in1 _ (List.mem_of_getElem? (i := 59) (by decide +kernel))))
  obtain ⟨c2, i2, j2⟩ := arr_p (ty := .long) (hts _ (lw_in1 _ (List.mem_of_getElem? (i := 232) (by decide +kernel))))
  obtain ⟨c3, i3, j3⟩ := arr_a (ty := .int) (hts _ (lw_in1 _ (List.mem_of_getElem? (i := 122) (by decide +kernel))))
  obtain ⟨c4, i4, j4⟩ := arr_a (ty := .long) (hts _ (lw_in1 _ (List.mem_of_getElem? (i := 224) (by decide +kernel))))
  obtain ⟨c5, i5, j5⟩ := arr_q (C := RX0) (hts _ (lw_in1 _ (List.mem_of_getElem? (i := 234) (by decide +kernel))))
  obtain ⟨t0, e0, hT0⟩ := powers hn hA
  obtain ⟨a1, e1, o1⟩ := word_1 hn hA
  obtain ⟨a2, e2, o2⟩ := word_2 hn hA
  obtain ⟨a3, e3, o3⟩ := word_3 hn hA
  obtain ⟨a4, e4, o4⟩ := word_4 hn hA
  obtain ⟨a5, e5, o5⟩ := word_5 hn hA
  have hK : va_K (fun b => (ad b).1, fun b => (ad b).2) gCl (tysL (fun k => match k with | 1 => c1 | 2 => c2 | 3 => c3 | 4 => c4 | _ => c5)) s := by
    refine ⟨fun c q hq => ?_, fun k q hq => ?_⟩
    · have hc : c < 13 := (List.getElem?_eq_some_iff.mp hq).1
      rw [gCl_at c hc] at hq
      cases hq
      exact had c hc
    · match k, hq with
      | 0, hq => cases hq; exact ⟨i1, j1⟩
      | 1, hq => cases hq; exact ⟨i2, j2⟩
      | 2, hq => cases hq; exact ⟨i3, j3⟩
      | 3, hq => cases hq; exact ⟨i4, j4⟩
      | 4, hq => cases hq; exact ⟨i5, j5⟩
      | k + 5, hq => simp [tysL] at hq
  have hnest : ∀ (own : String) (k : Nat) (y : MethodName) (h : String), Cond.methodLinkNest own k y h ∈ lw_tbl → va_Nw (.methodLinkNest own k y h) s := fun own k y h hm => va_Nw.of rfl (hts _ hm)
  refine ⟨_, _, fun j => match j with | 0 => t0 | 1 => a1 | 2 => a2 | 3 => a3 | 4 => a4 | _ => a5, ⟨hK, va_Zof (hts _ (lw_in4 _ (List.mem_of_getElem? (i := 195) (by decide +kernel)))) (hts _ (lw_in1 _ (List.mem_of_getElem? (i := 3) (by decide +kernel)))) e0 hA, hT0, fun own k tx hm => ?_, ⟨fun j k hj hk hm => ?_, fun j hj hk => ?_, va_Zof (hts _ (lw_in3 _ (List.mem_of_getElem? (i := 8) (by decide +kernel)))) (hts _ (lw_in1 _ (List.mem_of_getElem? (i := 20) (by decide +kernel)))) (va_eqi (hn _ (List.mem_of_getElem? (i := 4) (by decide +kernel)))) hA, va_Zqof (hts _ (lw_in3 _ (List.mem_of_getElem? (i := 24) (by decide +kernel)))) (hts _ (lw_in1 _ (List.mem_of_getElem? (i := 26) (by decide +kernel)))) (hn _ (List.mem_of_getElem? (i := 5) (by decide +kernel))) hA⟩, vx_Zqof (hts _ (lw_in4 _ (List.mem_of_getElem? (i := 107) (by decide +kernel)))) (hts _ (lw_in1 _ (List.mem_of_getElem? (i := 16) (by decide +kernel)))) (hn _ (List.mem_of_getElem? (i := 9) (by decide +kernel))) hA, vx_Zqof (hts _ (lw_in4 _ (List.mem_of_getElem? (i := 109) (by decide +kernel)))) (hts _ (lw_in1 _ (List.mem_of_getElem? (i := 16) (by decide +kernel)))) (hn _ (List.mem_of_getElem? (i := 10) (by decide +kernel))) hA, hnest, fun C T hm => va_Nw.of rfl (hts _ hm), fun x hm => va_Nw.of rfl (hts _ hm)⟩, hK, hnest, va_AO.of (hts _ (lw_in1 _ (List.mem_of_getElem? (i := 234) (by decide +kernel)))), AOA.of (hts _ (lw_in1 _ (List.mem_of_getElem? (i := 122) (by decide +kernel)))), AOA.of (hts _ (lw_in1 _ (List.mem_of_getElem? (i := 224) (by decide +kernel))))⟩
  · obtain ⟨a, ha⟩ := str_ev (hn _ (ns_all _ (strB_of hm).1))
    exact ⟨a, vk_R.of (hts _ hm) ha⟩
  · have hk2 := (strB_of hm).2 j hj hk rfl rfl
    subst hk2
    refine vk_R.of (hts _ hm) ?_
    rcases (show j = 1 ∨ j = 2 ∨ j = 3 ∨ j = 4 ∨ j = 5 by omega) with rfl | rfl | rfl | rfl | rfl
    · exact e1
    · exact e2
    · exact e3
    · exact e4
    · exact e5
  · rcases (show j = 1 ∨ j = 2 ∨ j = 3 ∨ j = 4 ∨ j = 5 by omega) with rfl | rfl | rfl | rfl | rfl
    · exact o1
    · exact o2
    · exact o3
    · exact o4
    · exact o5
def ncL : List (String × String) := [("java/lang/IllegalArgumentException", "java/lang/IndexOutOfBoundsException"), ("java/util/NoSuchElementException", "java/lang/IndexOutOfBoundsException"), ("java/util/NoSuchElementException", "java/lang/IllegalArgumentException"), ("java/lang/IllegalStateException", "java/lang/IllegalArgumentException"), ("java/lang/IllegalStateException", "java/lang/IndexOutOfBoundsException")]
/-- what the helpers read of classes that don't cast -/
def wNc (U : State) : Prop := ∀ q ∈ ncL, va_Nc q.1 q.2 U
theorem wNc.moved {u U : State} (h : u.vm.Alike U.vm) (hN : wNc u) : wNc U := fun q hq => va_Nc.moved h (hN q hq)
theorem start_nc {args : Array Value} {s : State} (hn : ∀ w ∈ nar, w.before args s = true) : wNc s := List.forall_mem_cons.mpr ⟨va_Nc.of (hn _ (List.mem_of_getElem? (i := 92) (by decide +kernel))), List.forall_mem_cons.mpr ⟨va_Nc.of (hn _ (List.mem_of_getElem? (i := 93) (by decide +kernel))), List.forall_mem_cons.mpr ⟨va_Nc.of (hn _ (List.mem_of_getElem? (i := 76) (by decide +kernel))), List.forall_mem_cons.mpr ⟨va_Nc.of (hn _ (List.mem_of_getElem? (i := 73) (by decide +kernel))), List.forall_mem_cons.mpr ⟨va_Nc.of (hn _ (List.mem_of_getElem? (i := 91) (by decide +kernel))), fun _ h => absurd h List.not_mem_nil⟩⟩⟩⟩⟩
