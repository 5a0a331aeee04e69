/-! What the tables and the given words say of the law's start (by program). -/
def nar : List Cond := flatC (Cond.and given_1 narrow_1)
def strK : List (String × Nat) := [("Queueward", 182), ("Queueward", 184), ("Queueward", 197), ("Queueward", 209), ("Queueward", 211), ("Queueward", 238), ("Queueward", 258), ("Queueward", 316), ("Queueward", 271), ("Queueward", 321), ("Queueward", 305), ("Queueward", 310), ("Queueward", 323), ("Queueward", 349), ("Queueward", 347), ("Queueward", 351), ("Queueward", 411), ("Queueward", 359), ("Queueward", 370), ("Queueward", 416), ("Queueward", 388), ("Queueward", 390), ("Queueward", 401), ("Queueward", 406), ("Queueward", 418), ("Queueward", 426), ("Queueward", 428), ("Queueward", 435), ("Queueward", 454), ("Queueward", 463), ("Queueward$Tape", 84), ("Queueward$Tape", 70), ("Queueward$Tape", 76), ("Queueward$Tape", 90), ("Queueward$Tape", 92), ("Queueward", 149), ("Queueward", 161), ("Queueward", 166), ("Queueward", 191), ("Queueward", 115), ("Queueward", 100), ("Queueward", 137), ("QueuewardLaw", 253), ("QueuewardLaw", 262), ("java/util/Arrays", 337), ("QueuewardLaw", 275), ("QueuewardLaw", 277), ("QueuewardLaw", 279), ("QueuewardLaw", 281), ("QueuewardLaw", 283), ("Queueward", 132)]
theorem ns_0 : Cond.exactly (.string "Queueward" 182) "java/lang/String" ∈ nar := List.mem_of_getElem? (i := 304) (by decide +kernel)
theorem ns_1 : Cond.exactly (.string "Queueward" 184) "java/lang/String" ∈ nar := List.mem_of_getElem? (i := 343) (by decide +kernel)
theorem ns_2 : Cond.exactly (.string "Queueward" 197) "java/lang/String" ∈ nar := List.mem_of_getElem? (i := 393) (by decide +kernel)
theorem ns_3 : Cond.exactly (.string "Queueward" 209) "java/lang/String" ∈ nar := List.mem_of_getElem? (i := 433) (by decide +kernel)
theorem ns_4 : Cond.exactly (.string "Queueward" 211) "java/lang/String" ∈ nar := List.mem_of_getElem? (i := 457) (by decide +kernel)
theorem ns_5 : Cond.exactly (.string "Queueward" 238) "java/lang/String" ∈ nar := List.mem_of_getElem? (i := 481) (by decide +kernel)
theorem ns_6 : Cond.exactly (.string "Queueward" 258) "java/lang/String" ∈ nar := List.mem_of_getElem? (i := 505) (by decide +kernel)
theorem ns_7 : Cond.exactly (.string "Queueward" 316) "java/lang/String" ∈ nar := List.mem_of_getElem? (i := 546) (by decide +kernel)
theorem ns_8 : Cond.exactly (.string "Queueward" 271) "java/lang/String" ∈ nar := List.mem_of_getElem? (i := 572) (by decide +kernel)
theorem ns_9 : Cond.exactly (.string "Queueward" 321) "java/lang/String" ∈ nar := List.mem_of_getElem? (i := 597) (by decide +kernel)
theorem ns_10 : Cond.exactly (.string "Queueward" 305) "java/lang/String" ∈ nar := List.mem_of_getElem? (i := 624) (by decide +kernel)
theorem ns_11 : Cond.exactly (.string "Queueward" 310) "java/lang/String" ∈ nar := List.mem_of_getElem? (i := 670) (by decide +kernel)
theorem ns_12 : Cond.exactly (.string "Queueward" 323) "java/lang/String" ∈ nar := List.mem_of_getElem? (i := 695) (by decide +kernel)
theorem ns_13 : Cond.exactly (.string "Queueward" 349) "java/lang/String" ∈ nar := List.mem_of_getElem? (i := 722) (by decide +kernel)
theorem ns_14 : Cond.exactly (.string "Queueward" 347) "java/lang/String" ∈ nar := List.mem_of_getElem? (i := 766) (by decide +kernel)
theorem ns_15 : Cond.exactly (.string "Queueward" 351) "java/lang/String" ∈ nar := List.mem_of_getElem? (i := 800) (by decide +kernel)
theorem ns_16 : Cond.exactly (.string "Queueward" 411) "java/lang/String" ∈ nar := List.mem_of_getElem? (i := 825) (by decide +kernel)
theorem ns_17 : Cond.exactly (.string "Queueward" 359) "java/lang/String" ∈ nar := List.mem_of_getElem? (i := 850) (by decide +kernel)
theorem ns_18 : Cond.exactly (.string "Queueward" 370) "java/lang/String" ∈ nar := List.mem_of_getElem? (i := 890) (by decide +kernel)
theorem ns_19 : Cond.exactly (.string "Queueward" 416) "java/lang/String" ∈ nar := List.mem_of_getElem? (i := 921) (by decide +kernel)
theorem ns_20 : Cond.exactly (.string "Queueward" 388) "java/lang/String" ∈ nar := List.mem_of_getElem? (i := 948) (by decide +kernel)
theorem ns_21 : Cond.exactly (.string "Queueward" 390) "java/lang/String" ∈ nar := List.mem_of_getElem? (i := 972) (by decide +kernel)
theorem ns_22 : Cond.exactly (.string "Queueward" 401) "java/lang/String" ∈ nar := List.mem_of_getElem? (i := 998) (by decide +kernel)
theorem ns_23 : Cond.exactly (.string "Queueward" 406) "java/lang/String" ∈ nar := List.mem_of_getElem? (i := 1022) (by decide +kernel)
theorem ns_24 : Cond.exactly (.string "Queueward" 418) "java/lang/String" ∈ nar := List.mem_of_getElem? (i := 1047) (by decide +kernel)
theorem ns_25 : Cond.exactly (.string "Queueward" 426) "java/lang/String" ∈ nar := List.mem_of_getElem? (i := 1091) (by decide +kernel)
theorem ns_26 : Cond.exactly (.string "Queueward" 428) "java/lang/String" ∈ nar := List.mem_of_getElem? (i := 1133) (by decide +kernel)
theorem ns_27 : Cond.exactly (.string "Queueward" 435) "java/lang/String" ∈ nar := List.mem_of_getElem? (i := 1163) (by decide +kernel)
theorem ns_28 : Cond.exactly (.string "Queueward" 454) "java/lang/String" ∈ nar := List.mem_of_getElem? (i := 1189) (by decide +kernel)
theorem ns_29 : Cond.exactly (.string "Queueward" 463) "java/lang/String" ∈ nar := List.mem_of_getElem? (i := 1224) (by decide +kernel)
theorem ns_30 : Cond.exactly (.string "Queueward$Tape" 84) "java/lang/String" ∈ nar := List.mem_of_getElem? (i := 1251) (by decide +kernel)
theorem ns_31 : Cond.exactly (.string "Queueward$Tape" 70) "java/lang/String" ∈ nar := List.mem_of_getElem? (i := 1257) (by decide +kernel)
theorem ns_32 : Cond.exactly (.string "Queueward$Tape" 76) "java/lang/String" ∈ nar := List.mem_of_getElem? (i := 1266) (by decide +kernel)
theorem ns_33 : Cond.exactly (.string "Queueward$Tape" 90) "java/lang/String" ∈ nar := List.mem_of_getElem? (i := 1274) (by decide +kernel)
theorem ns_34 : Cond.exactly (.string "Queueward$Tape" 92) "java/lang/String" ∈ nar := List.mem_of_getElem? (i := 1284) (by decide +kernel)
theorem ns_35 : Cond.exactly (.string "Queueward" 149) "java/lang/String" ∈ nar := List.mem_of_getElem? (i := 1289) (by decide +kernel)
theorem ns_36 : Cond.exactly (.string "Queueward" 161) "java/lang/String" ∈ nar := List.mem_of_getElem? (i := 1339) (by decide +kernel)
theorem ns_37 : Cond.exactly (.string "Queueward" 166) "java/lang/String" ∈ nar := List.mem_of_getElem? (i := 1363) (by decide +kernel)
theorem ns_38 : Cond.exactly (.string "Queueward" 191) "java/lang/String" ∈ nar := List.mem_of_getElem? (i := 1395) (by decide +kernel)
theorem ns_39 : Cond.exactly (.string "Queueward" 115) "java/lang/String" ∈ nar := List.mem_of_getElem? (i := 1425) (by decide +kernel)
theorem ns_40 : Cond.exactly (.string "Queueward" 100) "java/lang/String" ∈ nar := List.mem_of_getElem? (i := 1455) (by decide +kernel)
theorem ns_41 : Cond.exactly (.string "Queueward" 137) "java/lang/String" ∈ nar := List.mem_of_getElem? (i := 1480) (by decide +kernel)
theorem ns_42 : Cond.exactly (.string "QueuewardLaw" 253) "java/lang/String" ∈ nar := List.mem_of_getElem? (i := 1505) (by decide +kernel)
theorem ns_43 : Cond.exactly (.string "QueuewardLaw" 262) "java/lang/String" ∈ nar := List.mem_of_getElem? (i := 1512) (by decide +kernel)
theorem ns_44 : Cond.exactly (.string "java/util/Arrays" 337) "java/lang/String" ∈ nar := List.mem_of_getElem? (i := 1516) (by decide +kernel)
theorem ns_45 : Cond.exactly (.string "QueuewardLaw" 275) "java/lang/String" ∈ nar := List.mem_of_getElem? (i := 1523) (by decide +kernel)
theorem ns_46 : Cond.exactly (.string "QueuewardLaw" 277) "java/lang/String" ∈ nar := List.mem_of_getElem? (i := 1528) (by decide +kernel)
theorem ns_47 : Cond.exactly (.string "QueuewardLaw" 279) "java/lang/String" ∈ nar := List.mem_of_getElem? (i := 1538) (by decide +kernel)
theorem ns_48 : Cond.exactly (.string "QueuewardLaw" 281) "java/lang/String" ∈ nar := List.mem_of_getElem? (i := 1547) (by decide +kernel)
theorem ns_49 : Cond.exactly (.string "QueuewardLaw" 283) "java/lang/String" ∈ nar := List.mem_of_getElem? (i := 1558) (by decide +kernel)
theorem ns_50 : Cond.exactly (.string "Queueward" 132) "java/lang/String" ∈ nar := List.mem_of_getElem? (i := 1564) (by decide +kernel)
theorem ns_all : ∀ q ∈ strK, Cond.exactly (.string q.1 q.2) "java/lang/String" ∈ nar := List.forall_mem_cons.mpr ⟨ns_0, List.forall_mem_cons.mpr ⟨ns_1, List.forall_mem_cons.mpr ⟨ns_2, List.forall_mem_cons.mpr ⟨ns_3, List.forall_mem_cons.mpr ⟨ns_4, List.forall_mem_cons.mpr ⟨ns_5, List.forall_mem_cons.mpr ⟨ns_6, List.forall_mem_cons.mpr ⟨ns_7, List.forall_mem_cons.mpr ⟨ns_8, List.forall_mem_cons.mpr ⟨ns_9, List.forall_mem_cons.mpr ⟨ns_10, List.forall_mem_cons.mpr ⟨ns_11, List.forall_mem_cons.mpr ⟨ns_12, List.forall_mem_cons.mpr ⟨ns_13, List.forall_mem_cons.mpr ⟨ns_14, List.forall_mem_cons.mpr ⟨ns_15, List.forall_mem_cons.mpr ⟨ns_16, List.forall_mem_cons.mpr ⟨ns_17, List.forall_mem_cons.mpr ⟨ns_18, List.forall_mem_cons.mpr ⟨ns_19, List.forall_mem_cons.mpr ⟨ns_20, List.forall_mem_cons.mpr ⟨ns_21, List.forall_mem_cons.mpr ⟨ns_22, List.forall_mem_cons.mpr ⟨ns_23, List.forall_mem_cons.mpr ⟨ns_24, List.forall_mem_cons.mpr ⟨ns_25, List.forall_mem_cons.mpr ⟨ns_26, List.forall_mem_cons.mpr ⟨ns_27, List.forall_mem_cons.mpr ⟨ns_28, List.forall_mem_cons.mpr ⟨ns_29, List.forall_mem_cons.mpr ⟨ns_30, List.forall_mem_cons.mpr ⟨ns_31, List.forall_mem_cons.mpr ⟨ns_32, List.forall_mem_cons.mpr ⟨ns_33, List.forall_mem_cons.mpr ⟨ns_34, List.forall_mem_cons.mpr ⟨ns_35, List.forall_mem_cons.mpr ⟨ns_36, List.forall_mem_cons.mpr ⟨ns_37, List.forall_mem_cons.mpr ⟨ns_38, List.forall_mem_cons.mpr ⟨ns_39, List.forall_mem_cons.mpr ⟨ns_40, List.forall_mem_cons.mpr ⟨ns_41, List.forall_mem_cons.mpr ⟨ns_42, List.forall_mem_cons.mpr ⟨ns_43, List.forall_mem_cons.mpr ⟨ns_44, List.forall_mem_cons.mpr ⟨ns_45, List.forall_mem_cons.mpr ⟨ns_46, List.forall_mem_cons.mpr ⟨ns_47, List.forall_mem_cons.mpr ⟨ns_48, List.forall_mem_cons.mpr ⟨ns_49, List.forall_mem_cons.mpr ⟨ns_50, fun _ h => absurd h List.not_mem_nil⟩⟩⟩⟩⟩⟩⟩⟩⟩⟩⟩⟩⟩⟩⟩⟩⟩⟩⟩⟩⟩⟩⟩⟩⟩⟩⟩⟩⟩⟩⟩⟩⟩⟩⟩⟩⟩⟩⟩⟩⟩⟩⟩⟩⟩⟩⟩⟩⟩⟩⟩
def wK (j : Nat) : Nat := match j with
  | 1 => 84
  | 2 => 70
  | 3 => 76
  | 4 => 90
  | _ => 92
def strB (w : Cond) : Bool := match w with
  | .stringRef o k t => strK.any (fun q => q.1 == o && q.2 == k) && [1, 2, 3, 4, 5].all (fun j => !(o == RX10 && t == wTx j) || k == wK j)
  | _ => true
theorem strB_all : lw_tbl.all strB = true := by decide +kernel
theorem strB_of {o : String} {k : Nat} {t : String} (h : Cond.stringRef o k t ∈ lw_tbl) : (o, k) ∈ strK ∧ ∀ j, 1 ≤ j → j ≤ 5 → o = RX10 → t = wTx j → k = wK j := by
  have h1 : strB (.stringRef o k t) = true := List.all_eq_true.mp strB_all _ h
  unfold strB at h1
  rw [Bool.and_eq_true] at h1
  obtain ⟨h1, h2⟩ := h1
  refine ⟨?_, fun j a b e1 e2 => ?_⟩
  · obtain ⟨q, hq, he⟩ := List.any_eq_true.mp h1
    rw [Bool.and_eq_true, beq_iff_eq, beq_iff_eq] at he
    obtain ⟨e1, e2⟩ := he
    subst e1; subst e2
    exact hq
  · have hj : j ∈ [1, 2, 3, 4, 5] := by
      simp only [List.mem_cons, List.not_mem_nil, or_false]; omega
    have h3 := List.all_eq_true.mp h2 j hj
    rw [Bool.or_eq_true] at h3
    rcases h3 with h3 | h3
    · rw [e1, e2] at h3
      simp at h3
    · exact beq_iff_eq.mp h3
theorem str_ev {args : Array Value} {s : State} {o : String} {k : Nat} (h : (Cond.exactly (.string o k) "java/lang/String").before args s = true) : ∃ a, (Term.string o k).eval args s none [] s = some (.ref a) := by
  obtain ⟨a, c, cA, kA, q1, -⟩ := Cond.exactly_spec (args := args) (first := s) (o := none) (s := s) (idx := []) (t := .string o k) (cls := "java/lang/String") h
  exact ⟨a, q1⟩
theorem one_word {args : Array Value} {s : State} {own : String} {k : Nat} {L : List Int} {A : Nat → Prop} (hN : L.length < 2 ^ 31) (hex : (Cond.exactly (.string own k) "java/lang/String").before args s = true) (hco : (Cond.eq (.field (.string own k) "java/lang/String" "coder" "B") (.int 0)).before args s = true) (har : (Cond.arrayOf (.field (.string own k) "java/lang/String" "value" "[B") .byte).before args s = true) (hle : (Cond.eq (.length (.field (.string own k) "java/lang/String" "value" "[B")) (.int (Int32.ofNat L.length))).before args s = true)
    (hel : ∀ j : Nat, j < L.length → (Cond.eq (.elem (.field (.string own k) "java/lang/String" "value" "[B") (.int (Int32.ofNat j))) (.int (Int32.ofInt (L.getD j 0)))).before args s = true) (hA : ∀ a : Nat, a < s.heap.size → ¬ A a) :
    ∃ a, (Term.string own k).eval args s none [] s = some (.ref a) ∧ va_O "java/lang/String" a A s s.heap ∧ va_OF "java/lang/String" "coder" "B" (.int 0) a A s s.heap ∧ ∃ t, va_OF "java/lang/String" "value" "[B" (.ref t) a A s s.heap ∧ va_T .byte t L.length (fun i => .int (Int32.ofInt (L.getD i 0))) A s s.heap := by
  obtain ⟨a, q1⟩ := str_ev hex
  obtain ⟨t, ht, hT⟩ := va_Tof (f := fun j => .int (Int32.ofInt (L.getD j 0))) (A := A) hN har (va_eqt hle) (fun j hj => va_eqt (hel j hj)) hA
  exact ⟨a, q1, va_Oof hex q1 hA, vk_OFof q1 (va_eqt hco) hA, t, vk_OFof q1 ht hA, hT⟩
theorem word_1 {args : Array Value} {s : State} {A : Nat → Prop} (hn : ∀ w ∈ nar, w.before args s = true) (hA : ∀ a : Nat, a < s.heap.size → ¬ A a) : ∃ a, (Term.string RX10 (wK 1)).eval args s none [] s = some (.ref a) ∧ va_O "java/lang/String" a A s s.heap ∧ va_OF "java/lang/String" "coder" "B" (.int 0) a A s s.heap ∧ ∃ t, va_OF "java/lang/String" "value" "[B" (.ref t) a A s s.heap ∧ va_T .byte t (wordL 1).length (fun i => .int (Int32.ofInt ((wordL 1).getD i 0))) A s s.heap :=
  one_word (own := RX10) (k := 84) (L := wordL 1) (by decide) (hn _ (List.mem_of_getElem? (i := 1251) (by decide +kernel))) (hn _ (List.mem_of_getElem? (i := 1252) (by decide +kernel))) (hn _ (List.mem_of_getElem? (i := 1253) (by decide +kernel))) (hn _ (List.mem_of_getElem? (i := 1254) (by decide +kernel))) (fun j hj => match j, hj with
  | 0, _ => hn _ (List.mem_of_getElem? (i := 1255) (by decide +kernel))
  | 1, _ => hn _ (List.mem_of_getElem? (i := 1256) (by decide +kernel))
  | n + 2, h => absurd h (by show ¬ n + 2 < 2; omega)) hA
theorem word_2 {args : Array Value} {s : State} {A : Nat → Prop} (hn : ∀ w ∈ nar, w.before args s = true) (hA : ∀ a : Nat, a < s.heap.size → ¬ A a) : ∃ a, (Term.string RX10 (wK 2)).eval args s none [] s = some (.ref a) ∧ va_O "java/lang/String" a A s s.heap ∧ va_OF "java/lang/String" "coder" "B" (.int 0) a A s s.heap ∧ ∃ t, va_OF "java/lang/String" "value" "[B" (.ref t) a A s s.heap ∧ va_T .byte t (wordL 2).length (fun i => .int (Int32.ofInt ((wordL 2).getD i 0))) A s s.heap :=
  one_word (own := RX10) (k := 70) (L := wordL 2) (by decide) (hn _ (List.mem_of_getElem? (i := 1257) (by decide +kernel))) (hn _ (List.mem_of_getElem? (i := 1258) (by decide +kernel))) (hn _ (List.mem_of_getElem? (i := 1259) (by decide +kernel))) (hn _ (List.mem_of_getElem? (i := 1260) (by decide +kernel))) (fun j hj => match j, hj with
  | 0, _ => hn _ (List.mem_of_getElem? (i := 1261) (by decide +kernel))
  | 1, _ => hn _ (List.mem_of_getElem? (i := 1262) (by decide +kernel))
  | 2, _ => hn _ (List.mem_of_getElem? (i := 1263) (by decide +kernel))
  | 3, _ => hn _ (List.mem_of_getElem? (i := 1264) (by decide +kernel))
  | 4, _ => hn _ (List.mem_of_getElem? (i := 1265) (by decide +kernel))
  | n + 5, h => absurd h (by show ¬ n + 5 < 5; omega)) hA
theorem word_3 {args : Array Value} {s : State} {A : Nat → Prop} (hn : ∀ w ∈ nar, w.before args s = true) (hA : ∀ a : Nat, a < s.heap.size → ¬ A a) : ∃ a, (Term.string RX10 (wK 3)).eval args s none [] s = some (.ref a) ∧ va_O "java/lang/String" a A s s.heap ∧ va_OF "java/lang/String" "coder" "B" (.int 0) a A s s.heap ∧ ∃ t, va_OF "java/lang/String" "value" "[B" (.ref t) a A s s.heap ∧ va_T .byte t (wordL 3).length (fun i => .int (Int32.ofInt ((wordL 3).getD i 0))) A s s.heap :=
  one_word (own := RX10) (k := 76) (L := wordL 3) (by decide) (hn _ (List.mem_of_getElem? (i := 1266) (by decide +kernel))) (hn _ (List.mem_of_getElem? (i := 1267) (by decide +kernel))) (hn _ (List.mem_of_getElem? (i := 1268) (by decide +kernel))) (hn _ (List.mem_of_getElem? (i := 1269) (by decide +kernel))) (fun j hj => match j, hj with
  | 0, _ => hn _ (List.mem_of_getElem? (i := 1270) (by decide +kernel))
  | 1, _ => hn _ (List.mem_of_getElem? (i := 1271) (by decide +kernel))
  | 2, _ => hn _ (List.mem_of_getElem? (i := 1272) (by decide +kernel))
  | 3, _ => hn _ (List.mem_of_getElem? (i := 1273) (by decide +kernel))
  | n + 4, h => absurd h (by show ¬ n + 4 < 4; omega)) hA
theorem word_4 {args : Array Value} {s : State} {A : Nat → Prop} (hn : ∀ w ∈ nar, w.before args s = true) (hA : ∀ a : Nat, a < s.heap.size → ¬ A a) : ∃ a, (Term.string RX10 (wK 4)).eval args s none [] s = some (.ref a) ∧ va_O "java/lang/String" a A s s.heap ∧ va_OF "java/lang/String" "coder" "B" (.int 0) a A s s.heap ∧ ∃ t, va_OF "java/lang/String" "value" "[B" (.ref t) a A s s.heap ∧ va_T .byte t (wordL 4).length (fun i => .int (Int32.ofInt ((wordL 4).getD i 0))) A s s.heap :=
  one_word (own := RX10) (k := 90) (L := wordL 4) (by decide) (hn _ (List.mem_of_getElem? (i := 1274) (by decide +kernel))) (hn _ (List.mem_of_getElem? (i := 1275) (by decide +kernel))) (hn _ (List.mem_of_getElem? (i := 1276) (by decide +kernel))) (hn _ (List.mem_of_getElem? (i := 1277) (by decide +kernel))) (fun j hj => match j, hj with
  | 0, _ => hn _ (List.mem_of_getElem? (i := 1278) (by decide +kernel))
  | 1, _ => hn _ (List.mem_of_getElem? (i := 1279) (by decide +kernel))
  | 2, _ => hn _ (List.mem_of_getElem? (i := 1280) (by decide +kernel))
  | 3, _ => hn _ (List.mem_of_getElem? (i := 1281) (by decide +kernel))
  | 4, _ => hn _ (List.mem_of_getElem? (i := 1282) (by decide +kernel))
  | 5, _ => hn _ (List.mem_of_getElem? (i := 1283) (by decide +kernel))
  | n + 6, h => absurd h (by show ¬ n + 6 < 6; omega)) hA
theorem word_5 {args : Array Value} {s : State} {A : Nat → Prop} (hn : ∀ w ∈ nar, w.before args s = true) (hA : ∀ a : Nat, a < s.heap.size → ¬ A a) : ∃ a, (Term.string RX10 (wK 5)).eval args s none [] s = some (.ref a) ∧ va_O "java/lang/String" a A s s.heap ∧ va_OF "java/lang/String" "coder" "B" (.int 0) a A s s.heap ∧ ∃ t, va_OF "java/lang/String" "value" "[B" (.ref t) a A s s.heap ∧ va_T .byte t (wordL 5).length (fun i => .int (Int32.ofInt ((wordL 5).getD i 0))) A s s.heap :=
  one_word (own := RX10) (k := 92) (L := wordL 5) (by decide) (hn _ (List.mem_of_getElem? (i := 1284) (by decide +kernel))) (hn _ (List.mem_of_getElem? (i := 1285) (by decide +kernel))) (hn _ (List.mem_of_getElem? (i := 1286) (by decide +kernel))) (hn _ (List.mem_of_getElem? (i := 1287) (by decide +kernel))) (fun j hj => match j, hj with
  | 0, _ => hn _ (List.mem_of_getElem? (i := 1288) (by decide +kernel))
  | n + 1, h => absurd h (by show ¬ n + 1 < 1; omega)) hA
theorem powers {args : Array Value} {s : State} {A : Nat → Prop} (hn : ∀ w ∈ nar, w.before args s = true) (hA : ∀ a : Nat, a < s.heap.size → ¬ A a) : ∃ t, (Term.static "Queueward$Big" "POWERS" "[I").eval args s none [] s = some (.ref t) ∧ va_T .int t 9 (fun j => .int (Int32.ofInt (10 ^ j))) A s s.heap :=
  va_Tof (by decide) (hn _ (List.mem_of_getElem? (i := 12) (by decide +kernel))) (va_eqt (z := Int32.ofNat 9) (hn _ (List.mem_of_getElem? (i := 13) (by decide +kernel)))) (fun j hj => match j, hj with
  | 0, _ => va_eqt (hn _ (List.mem_of_getElem? (i := 14) (by decide +kernel)))
  | 1, _ => va_eqt (hn _ (List.mem_of_getElem? (i := 15) (by decide +kernel)))
  | 2, _ => va_eqt (hn _ (List.mem_of_getElem? (i := 16) (by decide +kernel)))
  | 3, _ => va_eqt (hn _ (List.mem_of_getElem? (i := 17) (by decide +kernel)))
  | 4, _ => va_eqt (hn _ (List.mem_of_getElem? (i := 18) (by decide +kernel)))
  | 5, _ => va_eqt (hn _ (List.mem_of_getElem? (i := 19) (by decide +kernel)))
  | 6, _ => va_eqt (hn _ (List.mem_of_getElem? (i := 20) (by decide +kernel)))
  | 7, _ => va_eqt (hn _ (List.mem_of_getElem? (i := 21) (by decide +kernel)))
  | 8, _ => va_eqt (hn _ (List.mem_of_getElem? (i := 22) (by decide +kernel)))
  | n + 9, h => absurd h (by omega)) hA
theorem ki_0 {args : Array Value} {s : State} (hts : ∀ w ∈ lw_tbl, w.before args s = true) : ∃ q : ClassId × (Nat → Nat), u_Kn s (clR 0) (gT 0) (gN 0) q.1 q.2 := by
  obtain ⟨c, i, h⟩ := u_known (n := 2) (fun w hw => hts w (List.mem_filter.mp hw).1) (uw_in 0 (by decide)) (hts _ (lw_in1 _ (List.mem_of_getElem? (i := 53) (by decide +kernel))))
  exact ⟨(c, i), h⟩
theorem ki_1 {args : Array Value} {s : State} (hts : ∀ w ∈ lw_tbl, w.before args s = true) : ∃ q : ClassId × (Nat → Nat), u_Kn s (clR 1) (gT 1) (gN 1) q.1 q.2 := by
  obtain ⟨c, i, h⟩ := u_known (n := 9) (fun w hw => hts w (List.mem_filter.mp hw).1) (uw_in 1 (by decide)) (hts _ (lw_in1 _ (List.mem_of_getElem? (i := 218) (by decide +kernel))))
  exact ⟨(c, i), h⟩
theorem ki_2 {args : Array Value} {s : State} (hts : ∀ w ∈ lw_tbl, w.before args s = true) : ∃ q : ClassId × (Nat → Nat), u_Kn s (clR 2) (gT 2) (gN 2) q.1 q.2 := by
  obtain ⟨c, i, h⟩ := u_known (n := 7) (fun w hw => hts w (List.mem_filter.mp hw).1) (uw_in 2 (by decide)) (hts _ (lw_in2 _ (List.mem_of_getElem? (i := 119) (by decide +kernel))))
  exact ⟨(c, i), h⟩
theorem ki_3 {args : Array Value} {s : State} (hts : ∀ w ∈ lw_tbl, w.before args s = true) : ∃ q : ClassId × (Nat → Nat), u_Kn s (clR 3) (gT 3) (gN 3) q.1 q.2 := by
  obtain ⟨c, i, h⟩ := u_known (n := 5) (fun w hw => hts w (List.mem_filter.mp hw).1) (uw_in 3 (by decide)) (hts _ (lw_in1 _ (List.mem_of_getElem? (i := 47) (by decide +kernel))))
  exact ⟨(c, i), h⟩
theorem ki_4 {args : Array Value} {s : State} (hts : ∀ w ∈ lw_tbl, w.before args s = true) : ∃ q : ClassId × (Nat → Nat), u_Kn s (clR 4) (gT 4) (gN 4) q.1 q.2 := by
  obtain ⟨c, i, h⟩ := u_known (n := 3) (fun w hw => hts w (List.mem_filter.mp hw).1) (uw_in 4 (by decide)) (hts _ (lw_in2 _ (List.mem_of_getElem? (i := 151) (by decide +kernel))))
  exact ⟨(c, i), h⟩
theorem ki_5 {args : Array Value} {s : State} (hts : ∀ w ∈ lw_tbl, w.before args s = true) : ∃ q : ClassId × (Nat → Nat), u_Kn s (clR 5) (gT 5) (gN 5) q.1 q.2 := by
  obtain ⟨c, i, h⟩ := u_known (n := 6) (fun w hw => hts w (List.mem_filter.mp hw).1) (uw_in 5 (by decide)) (hts _ (lw_in1 _ (List.mem_of_getElem? (i := 123) (by decide +kernel))))
  exact ⟨(c, i), h⟩
theorem ki_6 {args : Array Value} {s : State} (hts : ∀ w ∈ lw_tbl, w.before args s = true) : ∃ q : ClassId × (Nat → Nat), u_Kn s (clR 6) (gT 6) (gN 6) q.1 q.2 := by
  obtain ⟨c, i, h⟩ := u_known (n := 6) (fun w hw => hts w (List.mem_filter.mp hw).1) (uw_in 6 (by decide)) (hts _ (lw_in2 _ (List.mem_of_getElem? (i := 35) (by decide +kernel))))
  exact ⟨(c, i), h⟩
theorem ki_7 {args : Array Value} {s : State} (hts : ∀ w ∈ lw_tbl, w.before args s = true) : ∃ q : ClassId × (Nat → Nat), u_Kn s (clR 7) (gT 7) (gN 7) q.1 q.2 := by
  obtain ⟨c, i, h⟩ := u_known (n := 12) (fun w hw => hts w (List.mem_filter.mp hw).1) (uw_in 7 (by decide)) (hts _ (lw_in2 _ (List.mem_of_getElem? (i := 64) (by decide +kernel))))
  exact ⟨(c, i), h⟩
theorem ki_8 {args : Array Value} {s : State} (hts : ∀ w ∈ lw_tbl, w.before args s = true) : ∃ q : ClassId × (Nat → Nat), u_Kn s (clR 8) (gT 8) (gN 8) q.1 q.2 := by
  obtain ⟨c, i, h⟩ := u_known (n := 17) (fun w hw => hts w (List.mem_filter.mp hw).1) (uw_in 8 (by decide)) (hts _ (lw_in1 _ (List.mem_of_getElem? (i := 154) (by decide +kernel))))
  exact ⟨(c, i), h⟩
theorem ki_9 {args : Array Value} {s : State} (hts : ∀ w ∈ lw_tbl, w.before args s = true) : ∃ q : ClassId × (Nat → Nat), u_Kn s (clR 9) (gT 9) (gN 9) q.1 q.2 := by
  obtain ⟨c, i, h⟩ := u_known (n := 2) (fun w hw => hts w (List.mem_filter.mp hw).1) (uw_in 9 (by decide)) (hts _ (lw_in1 _ (List.mem_of_getElem? (i := 225) (by decide +kernel))))
  exact ⟨(c, i), h⟩
theorem ki_10 {args : Array Value} {s : State} (hts : ∀ w ∈ lw_tbl, w.before args s = true) : ∃ q : ClassId × (Nat → Nat), u_Kn s (clR 10) (gT 10) (gN 10) q.1 q.2 := by
  obtain ⟨c, i, h⟩ := u_known (n := 4) (fun w hw => hts w (List.mem_filter.mp hw).1) (uw_in 10 (by decide)) (hts _ (lw_in1 _ (List.mem_of_getElem? (i := 101) (by decide +kernel))))
  exact ⟨(c, i), h⟩
theorem ki_11 {args : Array Value} {s : State} (hts : ∀ w ∈ lw_tbl, w.before args s = true) : ∃ q : ClassId × (Nat → Nat), u_Kn s (clR 11) (gT 11) (gN 11) q.1 q.2 := by
  obtain ⟨c, i, h⟩ := u_known (n := 13) (fun w hw => hts w (List.mem_filter.mp hw).1) (uw_in 11 (by decide)) (hts _ (lw_in1 _ (List.mem_of_getElem? (i := 39) (by decide +kernel))))
  exact ⟨(c, i), h⟩
theorem k_all {args : Array Value} {s : State} (hts : ∀ w ∈ lw_tbl, w.before args s = true) : ∀ b, ∃ q : ClassId × (Nat → Nat), b < 12 → u_Kn s (clR b) (gT b) (gN b) q.1 q.2
  | 0 => let ⟨q, h⟩ := ki_0 hts; ⟨q, fun _ => h⟩
  | 1 => let ⟨q, h⟩ := ki_1 hts; ⟨q, fun _ => h⟩
  | 2 => let ⟨q, h⟩ := ki_2 hts; ⟨q, fun _ => h⟩
  | 3 => let ⟨q, h⟩ := ki_3 hts; ⟨q, fun _ => h⟩
  | 4 => let ⟨q, h⟩ := ki_4 hts; ⟨q, fun _ => h⟩
  | 5 => let ⟨q, h⟩ := ki_5 hts; ⟨q, fun _ => h⟩
  | 6 => let ⟨q, h⟩ := ki_6 hts; ⟨q, fun _ => h⟩
  | 7 => let ⟨q, h⟩ := ki_7 hts; ⟨q, fun _ => h⟩
  | 8 => let ⟨q, h⟩ := ki_8 hts; ⟨q, fun _ => h⟩
  | 9 => let ⟨q, h⟩ := ki_9 hts; ⟨q, fun _ => h⟩
  | 10 => let ⟨q, h⟩ := ki_10 hts; ⟨q, fun _ => h⟩
  | 11 => let ⟨q, h⟩ := ki_11 hts; ⟨q, fun _ => h⟩
  | n + 12 => ⟨(0, fun _ => 0), fun h => absurd h (by omega)⟩
theorem arr_p {args : Array Value} {s : State} {ty : FieldType} (h : (Cond.arrayClass ty).before args s = true) : ∃ c, ArrOfT s c ty ∧ s.vm.findClass ("[" ++ ty.toString) = some c := by
  obtain ⟨cA, kA, comp, h1, h2, h3⟩ := Cond.arrayClass_spec h
  exact ⟨cA, fun n z => ⟨fun k h => (by cases h), kA, h2, comp, h3⟩, h1⟩
theorem arr_a {args : Array Value} {s : State} {ty : FieldType} (h : (Cond.arrayOver (.array ty)).before args s = true) : ∃ c, ArrOfT s c (.array ty) ∧ s.vm.findClass ("[" ++ (FieldType.array ty).toString) = some c := by
  obtain ⟨comp, c, k, h1, h2, h3, h4, h5⟩ := arrayOverA_spec h
  exact ⟨c, fun n z => ⟨fun k h => (by cases h), k, h3, comp, h4⟩, h5⟩
theorem arr_q {args : Array Value} {s : State} {C : String} (h : (Cond.arrayOver (.object C)).before args s = true) : ∃ c, ArrOfT s c (.object C) ∧ va_RA s c (.object C) := by
  obtain ⟨comp, c, k, h1, h2, h3, h4, h5⟩ := Cond.arrayOver_spec h
  exact ⟨c, fun n z => ⟨fun k h => (by cases h), k, h3, comp, h4⟩, k, comp, h3, h4, h1, h5⟩

def wKL (j : Nat) : Nat := match j with
  | 1 => 253
  | 2 => 277
  | 3 => 279
  | 4 => 281
  | _ => 283
def strBL (w : Cond) : Bool := match w with
  | .stringRef o k t => [1, 2, 3, 4, 5].all (fun j => !(o == RL && t == wTx j) || k == wKL j)
  | _ => true
theorem strBL_all : lw_tbl.all strBL = true := by decide +kernel
theorem strBL_of {k : Nat} {t : String} (h : Cond.stringRef RL k t ∈ lw_tbl) : ∀ j, 1 ≤ j → j ≤ 5 → t = wTx j → k = wKL j := by
  have h1 : strBL (.stringRef RL k t) = true := List.all_eq_true.mp strBL_all _ h
  unfold strBL at h1
  intro j a b e2
  have hj : j ∈ [1, 2, 3, 4, 5] := by
    simp only [List.mem_cons, List.not_mem_nil, or_false]; omega
  have h3 := List.all_eq_true.mp h1 j hj
  rw [Bool.or_eq_true] at h3
  rcases h3 with h3 | h3
  · rw [e2] at h3
    simp at h3
  · exact beq_iff_eq.mp h3
theorem wordL_1 {args : Array Value} {s : State} {A : Nat → Prop} (hn : ∀ w ∈ nar, w.before args s = true) (hA : ∀ a : Nat, a < s.heap.size → ¬ A a) : ∃ a, (Term.string "QueuewardLaw" 253).eval args s none [] s = some (.ref a) ∧ strAt (wordL 1) a A s :=
  one_word (own := "QueuewardLaw") (k := 253) (L := wordL 1) (by decide) (hn _ (List.mem_of_getElem? (i := 1505) (by decide +kernel))) (hn _ (List.mem_of_getElem? (i := 1506) (by decide +kernel))) (hn _ (List.mem_of_getElem? (i := 1507) (by decide +kernel))) (hn _ (List.mem_of_getElem? (i := 1508) (by decide +kernel))) (fun j hj => match j, hj with
  | 0, _ => hn _ (List.mem_of_getElem? (i := 1509) (by decide +kernel))
  | 1, _ => hn _ (List.mem_of_getElem? (i := 1510) (by decide +kernel))
  | n + 2, h => absurd h (by show ¬ n + 2 < 2; omega)) hA
theorem wordL_2 {args : Array Value} {s : State} {A : Nat → Prop} (hn : ∀ w ∈ nar, w.before args s = true) (hA : ∀ a : Nat, a < s.heap.size → ¬ A a) : ∃ a, (Term.string "QueuewardLaw" 277).eval args s none [] s = some (.ref a) ∧ strAt (wordL 2) a A s :=
  one_word (own := "QueuewardLaw") (k := 277) (L := wordL 2) (by decide) (hn _ (List.mem_of_getElem? (i := 1528) (by decide +kernel))) (hn _ (List.mem_of_getElem? (i := 1529) (by decide +kernel))) (hn _ (List.mem_of_getElem? (i := 1530) (by decide +kernel))) (hn _ (List.mem_of_getElem? (i := 1531) (by decide +kernel))) (fun j hj => match j, hj with
  | 0, _ => hn _ (List.mem_of_getElem? (i := 1532) (by decide +kernel))
  | 1, _ => hn _ (List.mem_of_getElem? (i := 1533) (by decide +kernel))
  | 2, _ => hn _ (List.mem_of_getElem? (i := 1534) (by decide +kernel))
  | 3, _ => hn _ (List.mem_of_getElem? (i := 1535) (by decide +kernel))
  | 4, _ => hn _ (List.mem_of_getElem? (i := 1536) (by decide +kernel))
  | n + 5, h => absurd h (by show ¬ n + 5 < 5; omega)) hA
theorem wordL_3 {args : Array Value} {s : State} {A : Nat → Prop} (hn : ∀ w ∈ nar, w.before args s = true) (hA : ∀ a : Nat, a < s.heap.size → ¬ A a) : ∃ a, (Term.string "QueuewardLaw" 279).eval args s none [] s = some (.ref a) ∧ strAt (wordL 3) a A s :=
  one_word (own := "QueuewardLaw") (k := 279) (L := wordL 3) (by decide) (hn _ (List.mem_of_getElem? (i := 1538) (by decide +kernel))) (hn _ (List.mem_of_getElem? (i := 1539) (by decide +kernel))) (hn _ (List.mem_of_getElem? (i := 1540) (by decide +kernel))) (hn _ (List.mem_of_getElem? (i := 1541) (by decide +kernel))) (fun j hj => match j, hj with
  | 0, _ => hn _ (List.mem_of_getElem? (i := 1542) (by decide +kernel))
  | 1, _ => hn _ (List.mem_of_getElem? (i := 1543) (by decide +kernel))
  | 2, _ => hn _ (List.mem_of_getElem? (i := 1544) (by decide +kernel))
  | 3, _ => hn _ (List.mem_of_getElem? (i := 1545) (by decide +kernel))
  | n + 4, h => absurd h (by show ¬ n + 4 < 4; omega)) hA
theorem wordL_4 {args : Array Value} {s : State} {A : Nat → Prop} (hn : ∀ w ∈ nar, w.before args s = true) (hA : ∀ a : Nat, a < s.heap.size → ¬ A a) : ∃ a, (Term.string "QueuewardLaw" 281).eval args s none [] s = some (.ref a) ∧ strAt (wordL 4) a A s :=
  one_word (own := "QueuewardLaw") (k := 281) (L := wordL 4) (by decide) (hn _ (List.mem_of_getElem? (i := 1547) (by decide +kernel))) (hn _ (List.mem_of_getElem? (i := 1548) (by decide +kernel))) (hn _ (List.mem_of_getElem? (i := 1549) (by decide +kernel))) (hn _ (List.mem_of_getElem? (i := 1550) (by decide +kernel))) (fun j hj => match j, hj with
  | 0, _ => hn _ (List.mem_of_getElem? (i := 1551) (by decide +kernel))
  | 1, _ => hn _ (List.mem_of_getElem? (i := 1552) (by decide +kernel))
  | 2, _ => hn _ (List.mem_of_getElem? (i := 1553) (by decide +kernel))
  | 3, _ => hn _ (List.mem_of_getElem? (i := 1554) (by decide +kernel))
  | 4, _ => hn _ (List.mem_of_getElem? (i := 1555) (by decide +kernel))
  | 5, _ => hn _ (List.mem_of_getElem? (i := 1556) (by decide +kernel))
  | n + 6, h => absurd h (by show ¬ n + 6 < 6; omega)) hA
theorem wordL_5 {args : Array Value} {s : State} {A : Nat → Prop} (hn : ∀ w ∈ nar, w.before args s = true) (hA : ∀ a : Nat, a < s.heap.size → ¬ A a) : ∃ a, (Term.string "QueuewardLaw" 283).eval args s none [] s = some (.ref a) ∧ strAt (wordL 5) a A s :=
  one_word (own := "QueuewardLaw") (k := 283) (L := wordL 5) (by decide) (hn _ (List.mem_of_getElem? (i := 1558) (by decide +kernel))) (hn _ (List.mem_of_getElem? (i := 1559) (by decide +kernel))) (hn _ (List.mem_of_getElem? (i := 1560) (by decide +kernel))) (hn _ (List.mem_of_getElem? (i := 1561) (by decide +kernel))) (fun j hj => match j, hj with
  | 0, _ => hn _ (List.mem_of_getElem? (i := 1562) (by decide +kernel))
  | n + 1, h => absurd h (by show ¬ n + 1 < 1; omega)) hA
theorem text_0 {args : Array Value} {s : State} {A : Nat → Prop} (hn : ∀ w ∈ nar, w.before args s = true) (hA : ∀ a : Nat, a < s.heap.size → ¬ A a) : ∃ a, (Term.string "QueuewardLaw" 262).eval args s none [] s = some (.ref a) ∧ strAt ([]) a A s :=
  one_word (own := "QueuewardLaw") (k := 262) (L := []) (by decide) (hn _ (List.mem_of_getElem? (i := 1512) (by decide +kernel))) (hn _ (List.mem_of_getElem? (i := 1513) (by decide +kernel))) (hn _ (List.mem_of_getElem? (i := 1514) (by decide +kernel))) (hn _ (List.mem_of_getElem? (i := 1515) (by decide +kernel))) (fun j hj => match j, hj with

  | n + 0, h => absurd h (by show ¬ n + 0 < 0; omega)) hA
theorem text_1 {args : Array Value} {s : State} {A : Nat → Prop} (hn : ∀ w ∈ nar, w.before args s = true) (hA : ∀ a : Nat, a < s.heap.size → ¬ A a) : ∃ a, (Term.string "QueuewardLaw" 275).eval args s none [] s = some (.ref a) ∧ strAt ([48]) a A s :=
  one_word (own := "QueuewardLaw") (k := 275) (L := [48]) (by decide) (hn _ (List.mem_of_getElem? (i := 1523) (by decide +kernel))) (hn _ (List.mem_of_getElem? (i := 1524) (by decide +kernel))) (hn _ (List.mem_of_getElem? (i := 1525) (by decide +kernel))) (hn _ (List.mem_of_getElem? (i := 1526) (by decide +kernel))) (fun j hj => match j, hj with
  | 0, _ => hn _ (List.mem_of_getElem? (i := 1527) (by decide +kernel))
  | n + 1, h => absurd h (by show ¬ n + 1 < 1; omega)) hA
theorem el_DigitOnes : ∀ j, j < 100 → nar[26 + j]? = some (Cond.eq (.elem (.static "java/lang/Integer" "DigitOnes" "[B") (.int (Int32.ofNat j))) (.int (Int32.ofInt (48 + ((j % 10 : Nat) : Int))))) := by decide +kernel
theorem dig_DigitOnes {args : Array Value} {s : State} {A : Nat → Prop} (hn : ∀ w ∈ nar, w.before args s = true) (hA : ∀ a : Nat, a < s.heap.size → ¬ A a) : ∃ t, (Term.static "java/lang/Integer" "DigitOnes" "[B").eval args s none [] s = some (.ref t) ∧ va_T .byte t 100 (fun j => .int (Int32.ofInt (48 + ((j % 10 : Nat) : Int)))) A s s.heap :=
  va_Tof (by decide) (hn _ (List.mem_of_getElem? (i := 24) (by decide +kernel))) (va_eqt (z := Int32.ofNat 100) (hn _ (List.mem_of_getElem? (i := 25) (by decide +kernel)))) (fun j hj => va_eqt (hn _ (List.mem_of_getElem? (el_DigitOnes j hj)))) hA
theorem el_DigitTens : ∀ j, j < 100 → nar[129 + j]? = some (Cond.eq (.elem (.static "java/lang/Integer" "DigitTens" "[B") (.int (Int32.ofNat j))) (.int (Int32.ofInt (48 + ((j / 10 : Nat) : Int))))) := by decide +kernel
theorem dig_DigitTens {args : Array Value} {s : State} {A : Nat → Prop} (hn : ∀ w ∈ nar, w.before args s = true) (hA : ∀ a : Nat, a < s.heap.size → ¬ A a) : ∃ t, (Term.static "java/lang/Integer" "DigitTens" "[B").eval args s none [] s = some (.ref t) ∧ va_T .byte t 100 (fun j => .int (Int32.ofInt (48 + ((j / 10 : Nat) : Int)))) A s s.heap :=
  va_Tof (by decide) (hn _ (List.mem_of_getElem? (i := 127) (by decide +kernel))) (va_eqt (z := Int32.ofNat 100) (hn _ (List.mem_of_getElem? (i := 128) (by decide +kernel)))) (fun j hj => va_eqt (hn _ (List.mem_of_getElem? (el_DigitTens j hj)))) hA
theorem start_ncL {args : Array Value} {s : State} (hn : ∀ w ∈ nar, w.before args s = true) : wNcL s := List.forall_mem_cons.mpr ⟨va_Nc.of (hn _ (List.mem_of_getElem? (i := 241) (by decide +kernel))), List.forall_mem_cons.mpr ⟨va_Nc.of (hn _ (List.mem_of_getElem? (i := 242) (by decide +kernel))), List.forall_mem_cons.mpr ⟨va_Nc.of (hn _ (List.mem_of_getElem? (i := 260) (by decide +kernel))), List.forall_mem_cons.mpr ⟨va_Nc.of (hn _ (List.mem_of_getElem? (i := 243) (by decide +kernel))), List.forall_mem_cons.mpr ⟨va_Nc.of (hn _ (List.mem_of_getElem? (i := 262) (by decide +kernel))), List.forall_mem_cons.mpr ⟨va_Nc.of (hn _ (List.mem_of_getElem? (i := 281) (by decide +kernel))), fun _ h => absurd h List.not_mem_nil⟩⟩⟩⟩⟩⟩
theorem start_prv {args : Array Value} {s : State} (hts : ∀ w ∈ lw_tbl, w.before args s = true) : prvA s := ⟨va_Nw.of rfl (hts _ (lw_in7 _ (List.mem_of_getElem? (i := 65) (by decide +kernel)))), va_Nw.of rfl (hts _ (lw_in7 _ (List.mem_of_getElem? (i := 119) (by decide +kernel)))), va_Nw.of rfl (hts _ (lw_in7 _ (List.mem_of_getElem? (i := 115) (by decide +kernel))))⟩
theorem start_dig {args : Array Value} {s : State} {A : Nat → Prop} (hts : ∀ w ∈ lw_tbl, w.before args s = true) (hn : ∀ w ∈ nar, w.before args s = true) (hA : ∀ a : Nat, a < s.heap.size → ¬ A a) : digA A s := by
  obtain ⟨t, e, h⟩ := dig_DigitOnes hn hA
  obtain ⟨t2, e2, h2⟩ := dig_DigitTens hn hA
  exact ⟨⟨t, va_Zof (hts _ (lw_in7 _ (List.mem_of_getElem? (i := 162) (by decide +kernel)))) (hts _ (lw_in1 _ (List.mem_of_getElem? (i := 26) (by decide +kernel)))) e hA, h⟩, t2, va_Zof (hts _ (lw_in7 _ (List.mem_of_getElem? (i := 164) (by decide +kernel)))) (hts _ (lw_in1 _ (List.mem_of_getElem? (i := 26) (by decide +kernel)))) e2 hA, h2⟩
theorem start_cst {args : Array Value} {s : State} {A : Nat → Prop} (hts : ∀ w ∈ lw_tbl, w.before args s = true) (hn : ∀ w ∈ nar, w.before args s = true) (hA : ∀ a : Nat, a < s.heap.size → ¬ A a) : cstA A s := by
  obtain ⟨t, e, h⟩ := text_0 hn hA
  obtain ⟨t2, e2, h2⟩ := text_1 hn hA
  exact ⟨⟨t, vk_R.of (hts _ (lw_in7 _ (List.mem_of_getElem? (i := 52) (by decide +kernel)))) e, h⟩, t2, vk_R.of (hts _ (lw_in7 _ (List.mem_of_getElem? (i := 233) (by decide +kernel)))) e2, h2⟩
theorem okW_txL : ∀ j, 1 ≤ j → j ≤ 5 → okW (txL j) := fun j h1 h2 => by
  rcases (show j = 1 ∨ j = 2 ∨ j = 3 ∨ j = 4 ∨ j = 5 by omega) with rfl | rfl | rfl | rfl | rfl <;> exact ⟨by decide, by decide⟩
set_option maxHeartbeats 4000000 in
theorem start_fixL {args : Array Value} {s : State} {A : Nat → Prop} (hts : ∀ w ∈ lw_tbl, w.before args s = true) (hn : ∀ w ∈ nar, w.before args s = true) (hA : ∀ a : Nat, a < s.heap.size → ¬ A a) : ∃ (D : va_G) (cA cW : Nat → ClassId) (sg sgL : Nat → Nat), wFixL sg sgL cA cW D A (fun j => 1 ≤ j ∧ j ≤ 5) s ∧ wCon cA D s := by
  obtain ⟨ad, had⟩ := Classical.axiomOfChoice (k_all hts)
  obtain ⟨c1, i1, j1⟩ := arr_p (ty := .int) (hts _ (lw_in1 _ (List.mem_of_getElem? (i := 66) (by decide +kernel))))
  obtain ⟨c2, i2, j2⟩ := arr_p (ty := .long) (hts _ (lw_in1 _ (List.mem_of_getElem? (i := 239) (by decide +kernel))))
  obtain ⟨c3, i3, j3⟩ := arr_a (ty := .int) (hts _ (lw_in1 _ (List.mem_of_getElem? (i := 129) (by decide +kernel))))
  obtain ⟨c4, i4, j4⟩ := arr_a (ty := .long) (hts _ (lw_in1 _ (List.mem_of_getElem? (i := 231) (by decide +kernel))))
  obtain ⟨c5, i5, j5⟩ := arr_q (C := RX0) (hts _ (lw_in2 _ (List.mem_of_getElem? (i := 1) (by decide +kernel))))
  obtain ⟨c6, i6, j6⟩ := arr_p (ty := .boolean) (hts _ (lw_in7 _ (List.mem_of_getElem? (i := 51) (by decide +kernel))))
  obtain ⟨c7, i7, j7⟩ := arr_a (ty := .boolean) (hts _ (lw_in6 _ (List.mem_of_getElem? (i := 199) (by decide +kernel))))
  obtain ⟨c8, i8, j8⟩ := arr_a (ty := .array .long) (hts _ (lw_in6 _ (List.mem_of_getElem? (i := 224) (by decide +kernel))))
  obtain ⟨t0, e0, hT0⟩ := powers hn hA
  obtain ⟨a1, e1, o1⟩ := word_1 hn hA
  obtain ⟨a2, e2, o2⟩ := word_2 hn hA
  obtain ⟨a3, e3, o3⟩ := word_3 hn hA
  obtain ⟨a4, e4, o4⟩ := word_4 hn hA
  obtain ⟨a5, e5, o5⟩ := word_5 hn hA
  obtain ⟨b1, f1, p1⟩ := wordL_1 hn hA
  obtain ⟨b2, f2, p2⟩ := wordL_2 hn hA
  obtain ⟨b3, f3, p3⟩ := wordL_3 hn hA
  obtain ⟨b4, f4, p4⟩ := wordL_4 hn hA
  obtain ⟨b5, f5, p5⟩ := wordL_5 hn hA
  have hK : va_K (fun b => (ad b).1, fun b => (ad b).2) gCl (tysL (fun k => match k with | 1 => c1 | 2 => c2 | 3 => c3 | 4 => c4 | _ => c5)) s := by
    refine ⟨fun c q hq => ?_, fun k q hq => ?_⟩
    · have hc : c < 12 := (List.getElem?_eq_some_iff.mp hq).1
      rw [gCl_at c hc] at hq
      cases hq
      exact had c hc
    · match k, hq with
      | 0, hq => cases hq; exact ⟨i1, j1⟩
      | 1, hq => cases hq; exact ⟨i2, j2⟩
      | 2, hq => cases hq; exact ⟨i3, j3⟩
      | 3, hq => cases hq; exact ⟨i4, j4⟩
      | 4, hq => cases hq; exact ⟨i5, j5⟩
      | k + 5, hq => simp [tysL] at hq
  have hK2 : va_K (fun b => (ad b).1, fun b => (ad b).2) gCl (tysW (fun k => match k with | 1 => c1 | 2 => c2 | 3 => c6 | 4 => c3 | 5 => c7 | 6 => c4 | _ => c8)) s := by
    refine ⟨hK.1, fun k q hq => ?_⟩
    match k, hq with
    | 0, hq => cases hq; exact ⟨i1, j1⟩
    | 1, hq => cases hq; exact ⟨i2, j2⟩
    | 2, hq => cases hq; exact ⟨i6, j6⟩
    | 3, hq => cases hq; exact ⟨i3, j3⟩
    | 4, hq => cases hq; exact ⟨i7, j7⟩
    | 5, hq => cases hq; exact ⟨i4, j4⟩
    | 6, hq => cases hq; exact ⟨i8, j8⟩
    | k + 7, hq => simp [tysW] at hq
  have hnest : ∀ (own : String) (k : Nat) (y : MethodName) (h : String), Cond.methodLinkNest own k y h ∈ lw_tbl → va_Nw (.methodLinkNest own k y h) s := fun own k y h hm => va_Nw.of rfl (hts _ hm)
  refine ⟨_, _, (fun k => match k with | 1 => c1 | 2 => c2 | 3 => c6 | 4 => c3 | 5 => c7 | 6 => c4 | _ => c8), fun j => match j with | 0 => t0 | 1 => a1 | 2 => a2 | 3 => a3 | 4 => a4 | _ => a5, fun j => match j with | 1 => b1 | 2 => b2 | 3 => b3 | 4 => b4 | _ => b5, ⟨⟨hK, va_Zof (hts _ (lw_in6 _ (List.mem_of_getElem? (i := 73) (by decide +kernel)))) (hts _ (lw_in1 _ (List.mem_of_getElem? (i := 3) (by decide +kernel)))) e0 hA, hT0, fun own k tx hm => ?_, ⟨fun j k hj hk hm => ?_, fun j hj hk => ?_, va_Zof (hts _ (lw_in5 _ (List.mem_of_getElem? (i := 223) (by decide +kernel)))) (hts _ (lw_in1 _ (List.mem_of_getElem? (i := 20) (by decide +kernel)))) (va_eqi (hn _ (List.mem_of_getElem? (i := 6) (by decide +kernel)))) hA, va_Zqof (hts _ (lw_in5 _ (List.mem_of_getElem? (i := 239) (by decide +kernel)))) (hts _ (lw_in1 _ (List.mem_of_getElem? (i := 28) (by decide +kernel)))) (hn _ (List.mem_of_getElem? (i := 7) (by decide +kernel))) hA⟩, vx_Zqof (hts _ (lw_in2 _ (List.mem_of_getElem? (i := 231) (by decide +kernel)))) (hts _ (lw_in1 _ (List.mem_of_getElem? (i := 15) (by decide +kernel)))) (hn _ (List.mem_of_getElem? (i := 4) (by decide +kernel))) hA, vx_Zqof (hts _ (lw_in2 _ (List.mem_of_getElem? (i := 233) (by decide +kernel)))) (hts _ (lw_in1 _ (List.mem_of_getElem? (i := 15) (by decide +kernel)))) (hn _ (List.mem_of_getElem? (i := 5) (by decide +kernel))) hA, hnest, fun C T hm => va_Nw.of rfl (hts _ hm), fun x hm => va_Nw.of rfl (hts _ hm)⟩, hK2, fun j k hj hk hm => ?_, fun j h1 h2 => ⟨h1, h2⟩, fun j hj => ⟨?_, okW_txL j hj.1 hj.2⟩, ⟨AOA.of (hts _ (lw_in1 _ (List.mem_of_getElem? (i := 129) (by decide +kernel)))), AOA.of (hts _ (lw_in6 _ (List.mem_of_getElem? (i := 199) (by decide +kernel)))), AOA.of (hts _ (lw_in1 _ (List.mem_of_getElem? (i := 231) (by decide +kernel)))), AOA.of (hts _ (lw_in6 _ (List.mem_of_getElem? (i := 224) (by decide +kernel))))⟩, start_ncL hn, start_prv hts, start_dig hts hn hA, start_cst hts hn hA⟩, hK, hnest, va_AO.of (hts _ (lw_in2 _ (List.mem_of_getElem? (i := 1) (by decide +kernel)))), AOA.of (hts _ (lw_in1 _ (List.mem_of_getElem? (i := 129) (by decide +kernel)))), AOA.of (hts _ (lw_in1 _ (List.mem_of_getElem? (i := 231) (by decide +kernel))))⟩
  · obtain ⟨a, ha⟩ := str_ev (hn _ (ns_all _ (strB_of hm).1))
    exact ⟨a, vk_R.of (hts _ hm) ha⟩
  · have hk2 := (strB_of hm).2 j hj hk rfl rfl
    subst hk2
    refine vk_R.of (hts _ hm) ?_
    rcases (show j = 1 ∨ j = 2 ∨ j = 3 ∨ j = 4 ∨ j = 5 by omega) with rfl | rfl | rfl | rfl | rfl
    · exact e1
    · exact e2
    · exact e3
    · exact e4
    · exact e5
  · rcases (show j = 1 ∨ j = 2 ∨ j = 3 ∨ j = 4 ∨ j = 5 by omega) with rfl | rfl | rfl | rfl | rfl
    · exact o1
    · exact o2
    · exact o3
    · exact o4
    · exact o5
  · have hk2 := strBL_of hm j hj hk rfl
    subst hk2
    refine vk_R.of (hts _ hm) ?_
    rcases (show j = 1 ∨ j = 2 ∨ j = 3 ∨ j = 4 ∨ j = 5 by omega) with rfl | rfl | rfl | rfl | rfl
    · exact f1
    · exact f2
    · exact f3
    · exact f4
    · exact f5
  · rcases (show j = 1 ∨ j = 2 ∨ j = 3 ∨ j = 4 ∨ j = 5 by omega) with rfl | rfl | rfl | rfl | rfl
    · exact p1
    · exact p2
    · exact p3
    · exact p4
    · exact p5
