/-! The methods of texts that isWord calls. -/
def yS_coder : MethodName := ⟨"java/lang/String", "coder", "()B"⟩
abbrev bS_coder : ByteArray := prog_32_method_152_code
def yS_len : MethodName := ⟨"java/lang/String", "length", "()I"⟩
abbrev bS_len : ByteArray := prog_32_method_54_code
def yS_lat : MethodName := ⟨"java/lang/String", "isLatin1", "()Z"⟩
abbrev bS_lat : ByteArray := prog_32_method_154_code
def yS_chr : MethodName := ⟨"java/lang/String", "charAt", "(I)C"⟩
abbrev bS_chr : ByteArray := prog_32_method_56_code
def yS_cki : MethodName := ⟨"java/lang/String", "checkIndex", "(II)V"⟩
abbrev bS_cki : ByteArray := prog_32_method_155_code
def yS_lch : MethodName := ⟨"java/lang/StringLatin1", "charAt", "([BI)C"⟩
abbrev bS_lch : ByteArray := prog_34_method_2_code
def yS_pci : MethodName := ⟨"jdk/internal/util/Preconditions", "checkIndex", "(IILjava/util/function/BiFunction;)I"⟩
abbrev bS_pci : ByteArray := prog_43_method_11_code
theorem cS_coder : ((Jvm.Cond.code ({ cls := "java/lang/String", name := "coder", desc := "()B" } : Jvm.MethodName) prog_32_method_152_code (1 : Nat) (Option.some Jvm.ClassFile.FieldType.byte)) : Cond) ∈ LW := LW_mem (lw_in5 _ (List.mem_of_getElem? (i := 221) (by decide +kernel))) rfl
theorem iS_coder : ((Jvm.Cond.instanceMethod ({ cls := "java/lang/String", name := "coder", desc := "()B" } : Jvm.MethodName)) : Cond) ∈ LW := LW_mem (lw_in5 _ (List.mem_of_getElem? (i := 219) (by decide +kernel))) rfl
theorem sS_coder : ((Jvm.Cond.selects "java/lang/String" ({ cls := "java/lang/String", name := "coder", desc := "()B" } : Jvm.MethodName) ({ cls := "java/lang/String", name := "coder", desc := "()B" } : Jvm.MethodName)) : Cond) ∈ LW := LW_mem (lw_in5 _ (List.mem_of_getElem? (i := 220) (by decide +kernel))) rfl
theorem cS_len : ((Jvm.Cond.code ({ cls := "java/lang/String", name := "length", desc := "()I" } : Jvm.MethodName) prog_32_method_54_code (1 : Nat) (Option.some Jvm.ClassFile.FieldType.int)) : Cond) ∈ LW := LW_mem (lw_in5 _ (List.mem_of_getElem? (i := 217) (by decide +kernel))) rfl
theorem iS_len : ((Jvm.Cond.instanceMethod ({ cls := "java/lang/String", name := "length", desc := "()I" } : Jvm.MethodName)) : Cond) ∈ LW := LW_mem (lw_in5 _ (List.mem_of_getElem? (i := 215) (by decide +kernel))) rfl
theorem sS_len : ((Jvm.Cond.selects "java/lang/String" ({ cls := "java/lang/String", name := "length", desc := "()I" } : Jvm.MethodName) ({ cls := "java/lang/String", name := "length", desc := "()I" } : Jvm.MethodName)) : Cond) ∈ LW := LW_mem (lw_in5 _ (List.mem_of_getElem? (i := 216) (by decide +kernel))) rfl
theorem cS_lat : ((Jvm.Cond.code ({ cls := "java/lang/String", name := "isLatin1", desc := "()Z" } : Jvm.MethodName) prog_32_method_154_code (1 : Nat) (Option.some Jvm.ClassFile.FieldType.boolean)) : Cond) ∈ LW := LW_mem (lw_in5 _ (List.mem_of_getElem? (i := 231) (by decide +kernel))) rfl
theorem iS_lat : ((Jvm.Cond.instanceMethod ({ cls := "java/lang/String", name := "isLatin1", desc := "()Z" } : Jvm.MethodName)) : Cond) ∈ LW := LW_mem (lw_in5 _ (List.mem_of_getElem? (i := 229) (by decide +kernel))) rfl
theorem sS_lat : ((Jvm.Cond.selects "java/lang/String" ({ cls := "java/lang/String", name := "isLatin1", desc := "()Z" } : Jvm.MethodName) ({ cls := "java/lang/String", name := "isLatin1", desc := "()Z" } : Jvm.MethodName)) : Cond) ∈ LW := LW_mem (lw_in5 _ (List.mem_of_getElem? (i := 230) (by decide +kernel))) rfl
theorem cS_chr : ((Jvm.Cond.code ({ cls := "java/lang/String", name := "charAt", desc := "(I)C" } : Jvm.MethodName) prog_32_method_56_code (2 : Nat) (Option.some Jvm.ClassFile.FieldType.char)) : Cond) ∈ LW := LW_mem (lw_in5 _ (List.mem_of_getElem? (i := 227) (by decide +kernel))) rfl
theorem iS_chr : ((Jvm.Cond.instanceMethod ({ cls := "java/lang/String", name := "charAt", desc := "(I)C" } : Jvm.MethodName)) : Cond) ∈ LW := LW_mem (lw_in5 _ (List.mem_of_getElem? (i := 225) (by decide +kernel))) rfl
theorem sS_chr : ((Jvm.Cond.selects "java/lang/String" ({ cls := "java/lang/String", name := "charAt", desc := "(I)C" } : Jvm.MethodName) ({ cls := "java/lang/String", name := "charAt", desc := "(I)C" } : Jvm.MethodName)) : Cond) ∈ LW := LW_mem (lw_in5 _ (List.mem_of_getElem? (i := 226) (by decide +kernel))) rfl
theorem cS_cki : ((Jvm.Cond.code ({ cls := "java/lang/String", name := "checkIndex", desc := "(II)V" } : Jvm.MethodName) prog_32_method_155_code (2 : Nat) (Option.none : Option Jvm.ClassFile.FieldType)) : Cond) ∈ LW := LW_mem (lw_in5 _ (List.mem_of_getElem? (i := 237) (by decide +kernel))) rfl
theorem iS_cki : ((Jvm.Cond.static ({ cls := "java/lang/String", name := "checkIndex", desc := "(II)V" } : Jvm.MethodName)) : Cond) ∈ LW := LW_mem (lw_in5 _ (List.mem_of_getElem? (i := 236) (by decide +kernel))) rfl
theorem cS_lch : ((Jvm.Cond.code ({ cls := "java/lang/StringLatin1", name := "charAt", desc := "([BI)C" } : Jvm.MethodName) prog_34_method_2_code (2 : Nat) (Option.some Jvm.ClassFile.FieldType.char)) : Cond) ∈ LW := LW_mem (lw_in5 _ (List.mem_of_getElem? (i := 234) (by decide +kernel))) rfl
theorem iS_lch : ((Jvm.Cond.static ({ cls := "java/lang/StringLatin1", name := "charAt", desc := "([BI)C" } : Jvm.MethodName)) : Cond) ∈ LW := LW_mem (lw_in5 _ (List.mem_of_getElem? (i := 233) (by decide +kernel))) rfl
theorem cS_pci : ((Jvm.Cond.code ({ cls := "jdk/internal/util/Preconditions", name := "checkIndex", desc := "(IILjava/util/function/BiFunction;)I" } : Jvm.MethodName) prog_43_method_11_code (3 : Nat) (Option.some Jvm.ClassFile.FieldType.int)) : Cond) ∈ LW := LW_mem (lw_in6 _ (List.mem_of_getElem? (i := 2) (by decide +kernel))) rfl
theorem iS_pci : ((Jvm.Cond.static ({ cls := "jdk/internal/util/Preconditions", name := "checkIndex", desc := "(IILjava/util/function/BiFunction;)I" } : Jvm.MethodName)) : Cond) ∈ LW := LW_mem (lw_in6 _ (List.mem_of_getElem? (i := 1) (by decide +kernel))) rfl
theorem inS : ((Jvm.Cond.initialized "java/lang/String") : Cond) ∈ LW := LW_mem (lw_in1 _ (List.mem_of_getElem? (i := 20) (by decide +kernel))) rfl
theorem inL : ((Jvm.Cond.initialized "java/lang/StringLatin1") : Cond) ∈ LW := LW_mem (lw_in1 _ (List.mem_of_getElem? (i := 27) (by decide +kernel))) rfl
theorem inP : ((Jvm.Cond.initialized "jdk/internal/util/Preconditions") : Cond) ∈ LW := LW_mem (lw_in1 _ (List.mem_of_getElem? (i := 28) (by decide +kernel))) rfl
theorem kS_coder : ((Jvm.Cond.methodLink "java/lang/String" (335 : Nat) ({ cls := "java/lang/String", name := "coder", desc := "()B" } : Jvm.MethodName)) : Cond) ∈ LW := LW_mem (lw_in5 _ (List.mem_of_getElem? (i := 218) (by decide +kernel))) rfl
theorem kS_lat : ((Jvm.Cond.methodLink "java/lang/String" (492 : Nat) ({ cls := "java/lang/String", name := "isLatin1", desc := "()Z" } : Jvm.MethodName)) : Cond) ∈ LW := LW_mem (lw_in5 _ (List.mem_of_getElem? (i := 228) (by decide +kernel))) rfl
theorem kS_lch : ((Jvm.Cond.methodLink "java/lang/String" (495 : Nat) ({ cls := "java/lang/StringLatin1", name := "charAt", desc := "([BI)C" } : Jvm.MethodName)) : Cond) ∈ LW := LW_mem (lw_in5 _ (List.mem_of_getElem? (i := 232) (by decide +kernel))) rfl
theorem kS_cki : ((Jvm.Cond.methodLink "java/lang/StringLatin1" (9 : Nat) ({ cls := "java/lang/String", name := "checkIndex", desc := "(II)V" } : Jvm.MethodName)) : Cond) ∈ LW := LW_mem (lw_in5 _ (List.mem_of_getElem? (i := 235) (by decide +kernel))) rfl
theorem kS_pci : ((Jvm.Cond.methodLink "java/lang/String" (1059 : Nat) ({ cls := "jdk/internal/util/Preconditions", name := "checkIndex", desc := "(IILjava/util/function/BiFunction;)I" } : Jvm.MethodName)) : Cond) ∈ LW := LW_mem (lw_in6 _ (List.mem_of_getElem? (i := 0) (by decide +kernel))) rfl
theorem kT_len : ((Jvm.Cond.methodLink "Queueward$Tape" (94 : Nat) ({ cls := "java/lang/String", name := "length", desc := "()I" } : Jvm.MethodName)) : Cond) ∈ LW := LW_mem (lw_in5 _ (List.mem_of_getElem? (i := 214) (by decide +kernel))) rfl
theorem kT_chr : ((Jvm.Cond.methodLink "Queueward$Tape" (98 : Nat) ({ cls := "java/lang/String", name := "charAt", desc := "(I)C" } : Jvm.MethodName)) : Cond) ∈ LW := LW_mem (lw_in5 _ (List.mem_of_getElem? (i := 224) (by decide +kernel))) rfl
theorem fS38 : ((Jvm.Cond.fieldLink "java/lang/String" (38 : Nat) "java/lang/String" "COMPACT_STRINGS" "Z") : Cond) ∈ LW := LW_mem (lw_in5 _ (List.mem_of_getElem? (i := 222) (by decide +kernel))) rfl
theorem fS15 : ((Jvm.Cond.fieldLink "java/lang/String" (15 : Nat) "java/lang/String" "coder" "B") : Cond) ∈ LW := LW_mem (lw_in7 _ (List.mem_of_getElem? (i := 227) (by decide +kernel))) rfl
theorem fS9 : ((Jvm.Cond.fieldLink "java/lang/String" (9 : Nat) "java/lang/String" "value" "[B") : Cond) ∈ LW := LW_mem (lw_in7 _ (List.mem_of_getElem? (i := 226) (by decide +kernel))) rfl
theorem fS1053 : ((Jvm.Cond.fieldLink "java/lang/String" (1053 : Nat) "jdk/internal/util/Preconditions" "SIOOBE_FORMATTER" "Ljava/util/function/BiFunction;") : Cond) ∈ LW := LW_mem (lw_in5 _ (List.mem_of_getElem? (i := 238) (by decide +kernel))) rfl
theorem fT20 : ((Jvm.Cond.fieldLink "Queueward$Tape" (20 : Nat) "Queueward$Tape" "length" "I") : Cond) ∈ LW := LW_mem (lw_in1 _ (List.mem_of_getElem? (i := 108) (by decide +kernel))) rfl
theorem fT11 : ((Jvm.Cond.fieldLink "Queueward$Tape" (11 : Nat) "Queueward$Tape" "signs" "[I") : Cond) ∈ LW := LW_mem (lw_in1 _ (List.mem_of_getElem? (i := 106) (by decide +kernel))) rfl
theorem dS_coder_0 : decode bS_coder 0 = .ok (.getstatic 38, 3) := by decide +kernel
theorem dS_coder_3 : decode bS_coder 3 = .ok (.ifCond .eq 10, 3) := by decide +kernel
theorem dS_coder_6 : decode bS_coder 6 = .ok (.aload_n 0, 1) := by decide +kernel
theorem dS_coder_7 : decode bS_coder 7 = .ok (.getfield 15, 3) := by decide +kernel
theorem dS_coder_10 : decode bS_coder 10 = .ok (.goto 4, 3) := by decide +kernel
theorem dS_coder_14 : decode bS_coder 14 = .ok (.ireturn, 1) := by decide +kernel
theorem dS_len_0 : decode bS_len 0 = .ok (.aload_n 0, 1) := by decide +kernel
theorem dS_len_1 : decode bS_len 1 = .ok (.getfield 9, 3) := by decide +kernel
theorem dS_len_4 : decode bS_len 4 = .ok (.arraylength, 1) := by decide +kernel
theorem dS_len_5 : decode bS_len 5 = .ok (.aload_n 0, 1) := by decide +kernel
theorem dS_len_6 : decode bS_len 6 = .ok (.invokevirtual 335, 3) := by decide +kernel
theorem dS_len_9 : decode bS_len 9 = .ok (.ishr, 1) := by decide +kernel
theorem dS_len_10 : decode bS_len 10 = .ok (.ireturn, 1) := by decide +kernel
theorem dS_lat_0 : decode bS_lat 0 = .ok (.getstatic 38, 3) := by decide +kernel
theorem dS_lat_3 : decode bS_lat 3 = .ok (.ifCond .eq 14, 3) := by decide +kernel
theorem dS_lat_6 : decode bS_lat 6 = .ok (.aload_n 0, 1) := by decide +kernel
theorem dS_lat_7 : decode bS_lat 7 = .ok (.getfield 15, 3) := by decide +kernel
theorem dS_lat_10 : decode bS_lat 10 = .ok (.ifCond .ne 7, 3) := by decide +kernel
theorem dS_lat_13 : decode bS_lat 13 = .ok (.iconst 1, 1) := by decide +kernel
theorem dS_lat_14 : decode bS_lat 14 = .ok (.goto 4, 3) := by decide +kernel
theorem dS_lat_18 : decode bS_lat 18 = .ok (.ireturn, 1) := by decide +kernel
theorem dS_chr_0 : decode bS_chr 0 = .ok (.aload_n 0, 1) := by decide +kernel
theorem dS_chr_1 : decode bS_chr 1 = .ok (.invokevirtual 492, 3) := by decide +kernel
theorem dS_chr_4 : decode bS_chr 4 = .ok (.ifCond .eq 12, 3) := by decide +kernel
theorem dS_chr_7 : decode bS_chr 7 = .ok (.aload_n 0, 1) := by decide +kernel
theorem dS_chr_8 : decode bS_chr 8 = .ok (.getfield 9, 3) := by decide +kernel
theorem dS_chr_11 : decode bS_chr 11 = .ok (.iload_n 1, 1) := by decide +kernel
theorem dS_chr_12 : decode bS_chr 12 = .ok (.invokestatic 495, 3) := by decide +kernel
theorem dS_chr_15 : decode bS_chr 15 = .ok (.ireturn, 1) := by decide +kernel
theorem dS_cki_0 : decode bS_cki 0 = .ok (.iload_n 0, 1) := by decide +kernel
theorem dS_cki_1 : decode bS_cki 1 = .ok (.iload_n 1, 1) := by decide +kernel
theorem dS_cki_2 : decode bS_cki 2 = .ok (.getstatic 1053, 3) := by decide +kernel
theorem dS_cki_5 : decode bS_cki 5 = .ok (.invokestatic 1059, 3) := by decide +kernel
theorem dS_cki_8 : decode bS_cki 8 = .ok (.pop, 1) := by decide +kernel
theorem dS_cki_9 : decode bS_cki 9 = .ok (.return_, 1) := by decide +kernel
theorem dS_lch_0 : decode bS_lch 0 = .ok (.iload_n 1, 1) := by decide +kernel
theorem dS_lch_1 : decode bS_lch 1 = .ok (.aload_n 0, 1) := by decide +kernel
theorem dS_lch_2 : decode bS_lch 2 = .ok (.arraylength, 1) := by decide +kernel
theorem dS_lch_3 : decode bS_lch 3 = .ok (.invokestatic 9, 3) := by decide +kernel
theorem dS_lch_6 : decode bS_lch 6 = .ok (.aload_n 0, 1) := by decide +kernel
theorem dS_lch_7 : decode bS_lch 7 = .ok (.iload_n 1, 1) := by decide +kernel
theorem dS_lch_8 : decode bS_lch 8 = .ok (.baload, 1) := by decide +kernel
theorem dS_lch_9 : decode bS_lch 9 = .ok (.sipush 255, 3) := by decide +kernel
theorem dS_lch_12 : decode bS_lch 12 = .ok (.iand, 1) := by decide +kernel
theorem dS_lch_13 : decode bS_lch 13 = .ok (.i2c, 1) := by decide +kernel
theorem dS_lch_14 : decode bS_lch 14 = .ok (.ireturn, 1) := by decide +kernel
theorem dS_pci_0 : decode bS_pci 0 = .ok (.iload_n 0, 1) := by decide +kernel
theorem dS_pci_1 : decode bS_pci 1 = .ok (.ifCond .lt 8, 3) := by decide +kernel
theorem dS_pci_4 : decode bS_pci 4 = .ok (.iload_n 0, 1) := by decide +kernel
theorem dS_pci_5 : decode bS_pci 5 = .ok (.iload_n 1, 1) := by decide +kernel
theorem dS_pci_6 : decode bS_pci 6 = .ok (.if_icmp .lt 10, 3) := by decide +kernel
theorem dS_pci_16 : decode bS_pci 16 = .ok (.iload_n 0, 1) := by decide +kernel
theorem dS_pci_17 : decode bS_pci 17 = .ok (.ireturn, 1) := by decide +kernel
abbrev wMt (y : MethodName) (b : ByteArray) (ml : Nat) (r : Option FieldType) : List Cond := Cond.code y b ml r :: LW
theorem wMt_good {y : MethodName} {b : ByteArray} {ml : Nat} {r : Option FieldType} (h : Cond.code y b ml r ∈ LW) : GoodIn LW (wMt y b ml r) := fun w hw => by
  rcases List.mem_cons.mp hw with rfl | hw
  · exact ⟨h, good_of_word rfl⟩
  · exact ⟨hw, good_of_word (LW_good w hw)⟩
theorem wsV_good {own C : String} {i : Nat} {y : MethodName} {b : ByteArray} {ml : Nat} {r : Option FieldType} (h1 : Cond.methodLink own i y ∈ LW) (h2 : Cond.instanceMethod y ∈ LW) (h3 : Cond.selects C y y ∈ LW) (h4 : Cond.initialized C ∈ LW) (h : Cond.code y b ml r ∈ LW) : GoodIn LW (wsV own i C y (wMt y b ml r)) := fun w hw => by
  unfold wsV at hw
  rcases List.mem_append.mp hw with hw | hw
  · have hww : w ∈ LW := by
      simp only [List.mem_cons, List.not_mem_nil, or_false] at hw
      rcases hw with rfl | rfl | rfl | rfl
      · exact h1
      · exact h2
      · exact h3
      · exact h4
    exact ⟨hww, good_of_word (LW_good w hww)⟩
  · exact wMt_good h w hw
theorem wsT_good {own : String} {i : Nat} {y : MethodName} {b : ByteArray} {ml : Nat} {r : Option FieldType} (h1 : Cond.methodLink own i y ∈ LW) (h2 : Cond.static y ∈ LW) (h4 : Cond.initialized y.cls ∈ LW) (h : Cond.code y b ml r ∈ LW) : GoodIn LW (va_wsS own i y (wMt y b ml r)) := fun w hw => by
  unfold va_wsS at hw
  rcases List.mem_append.mp hw with hw | hw
  · have hww : w ∈ LW := by
      simp only [List.mem_cons, List.not_mem_nil, or_false] at hw
      rcases hw with rfl | rfl | rfl
      · exact h1
      · exact h2
      · exact h4
    exact ⟨hww, good_of_word (LW_good w hww)⟩
  · exact wMt_good h w hw
abbrev noA : Nat → Prop := fun _ => False
abbrev QI (v : Int32) : Array Value → State → Outcome → State → Prop := va_Qi (fun (r : Int32) (_ : Unit) => r = v) (fun _ _ => True) noA
/-- a text as the machine has it -/
def strAt (wd : List Int) (a0 : Nat) (Aw : Nat → Prop) (U : State) : Prop := va_O "java/lang/String" a0 Aw U U.heap ∧ va_OF "java/lang/String" "coder" "B" (.int 0) a0 Aw U U.heap ∧ ∃ t, va_OF "java/lang/String" "value" "[B" (.ref t) a0 Aw U U.heap ∧ va_T .byte t wd.length (fun i => .int (Int32.ofInt (wd.getD i 0))) Aw U U.heap
def okW (wd : List Int) : Prop := wd.length ≤ 7 ∧ ∀ x ∈ wd, 0 ≤ x ∧ x < 128
def strSt (Aw : Nat → Prop) (U : State) : Prop := va_Z "java/lang/String" "COMPACT_STRINGS" "Z" (.int 1) Aw U U.heap ∧ va_Zq "jdk/internal/util/Preconditions" "SIOOBE_FORMATTER" "Ljava/util/function/BiFunction;" Aw U U.heap
def stP (wd : List Int) (a0 : Nat) (Aw : Nat → Prop) (U : State) : Prop := strAt wd a0 Aw U ∧ strSt Aw U
theorem strAt.mv {wd : List Int} {a0 : Nat} {Aw : Nat → Prop} {s U : State} (h : strAt wd a0 Aw s) (hW : s.vm.Alike U.vm) (hq : ∀ q : Nat, q < s.heap.size → ¬ Aw q → U.heap[q]? = s.heap[q]?) : strAt wd a0 Aw U := by
  obtain ⟨g1, g2, t, g3, g4⟩ := h
  exact ⟨(g1.moved hW).kept hq, (g2.moved hW).kept hq, t, (g3.moved hW).kept hq, (g4.moved hW).kept hq⟩
theorem strSt.mv {Aw : Nat → Prop} {s U : State} (h : strSt Aw s) (hW : s.vm.Alike U.vm) (hq : ∀ q : Nat, q < s.heap.size → ¬ Aw q → U.heap[q]? = s.heap[q]?) : strSt Aw U := ⟨(h.1.moved hW).kept hq, (h.2.moved hW).kept hq⟩
theorem stP.mv {wd : List Int} {a0 : Nat} {Aw : Nat → Prop} {s U : State} {H : Heap} {locs : List Loc} (h : stP wd a0 Aw s) (hS : va_S noA s.heap H locs) (hU : U.heap = H) (hW : s.vm.Alike U.vm) : stP wd a0 Aw U :=
  ⟨h.1.mv hW (fun q q1 _ => by rw [hU]; exact hS.2.1 q q1 id), h.2.mv hW (fun q q1 _ => by rw [hU]; exact hS.2.1 q q1 id)⟩
theorem stP.blind {wd : List Int} {a0 : Nat} {Aw : Nat → Prop} {av : List Value} : FrameBlind (va_Pc av (stP wd a0 Aw)) := fun a U g mk q => ⟨q.1, q.2.mv (s := U) (U := U.calling g mk a) va_S.rf rfl (Vm.Alike.refl U.vm)⟩
def stT (wd : List Int) (a0 : Nat) (Aw : Nat → Prop) (t : Nat) (U : State) : Prop := stP wd a0 Aw U ∧ va_T .byte t wd.length (fun i => .int (Int32.ofInt (wd.getD i 0))) Aw U U.heap
theorem stT.mv {wd : List Int} {a0 : Nat} {Aw : Nat → Prop} {t : Nat} {s U : State} {H : Heap} {locs : List Loc} (h : stT wd a0 Aw t s) (hS : va_S noA s.heap H locs) (hU : U.heap = H) (hW : s.vm.Alike U.vm) : stT wd a0 Aw t U :=
  ⟨h.1.mv hS hU hW, (h.2.moved hW).kept fun q q1 _ => by rw [hU]; exact hS.2.1 q q1 id⟩
theorem stT.blind {wd : List Int} {a0 : Nat} {Aw : Nat → Prop} {t : Nat} {av : List Value} : FrameBlind (va_Pc av (stT wd a0 Aw t)) := fun a U g mk q => ⟨q.1, q.2.mv (s := U) (U := U.calling g mk a) va_S.rf rfl (Vm.Alike.refl U.vm)⟩
theorem sNo {A : Nat → Prop} {H0 H : Heap} {locs : List Loc} (h : va_S noA H0 H locs) : va_S A H0 H locs := ⟨h.1, fun q a _ => h.2.1 q a id, fun l hl => (h.2.2 l hl).elim⟩
theorem okW_shr {wd : List Int} (h : okW wd) : Int32.ofNat wd.length >>> ((0 : Int32) &&& 31) = Int32.ofNat wd.length := by
  have h7 := h.1
  have key : ∀ n : Nat, n ≤ 7 → Int32.ofNat n >>> ((0 : Int32) &&& 31) = Int32.ofNat n := by decide
  exact key _ h7
theorem okW_all {wd : List Int} (h : okW wd) : ∀ x ∈ wd, ((Int32.ofInt x &&& 255).toUInt32 % 65536).toInt32 = Int32.ofInt x ∧ narrow .char (.int (Int32.ofInt x)) = .int (Int32.ofInt x) ∧ R32 x := fun x hx => by
  obtain ⟨h1, h2⟩ := h.2 x hx
  obtain ⟨n, rfl⟩ : ∃ n : Nat, x = n := ⟨x.toNat, by omega⟩
  have key : ∀ n : Nat, n < 128 → ((Int32.ofInt (n : Int) &&& 255).toUInt32 % 65536).toInt32 = Int32.ofInt (n : Int) ∧ narrow .char (.int (Int32.ofInt (n : Int))) = .int (Int32.ofInt (n : Int)) := by decide +kernel
  have := key n (by omega)
  exact ⟨this.1, this.2, by omega, by omega⟩
theorem okW_at {wd : List Int} {i : Nat} (h : i < wd.length) : wd.getD i 0 ∈ wd := by
  rw [List.getD_eq_getElem?_getD, List.getElem?_eq_getElem h]
  exact List.getElem_mem h
theorem okW_word (j : Nat) : okW (wordL j) := by unfold wordL okW; split <;> decide
theorem oI_nn {x : Int} (h : 0 ≤ x ∧ x < 2147483648) : ¬ Int32.ofInt x < 0 := fun q => by
  have := (z32_lt (x := x) (y := 0) ⟨by omega, by omega⟩ ⟨by decide, by decide⟩).mp q
  omega
set_option maxRecDepth 100000 in
theorem m_coder {l : Launch} {wd : List Int} {a0 : Nat} {Aw : Nat → Prop} (hw0 : okW wd) : Met l yS_coder (wMt yS_coder bS_coder 1 (some .byte)) ({ frames := 0, cells := 0, slots := 0, locals := 0 }) (va_Pc [.ref a0] (stP wd a0 Aw)) (QI 0) 0 0 noA := by
  refine Met.ofW (cc := bS_coder) (maxL := 1) (ret := (some .byte)) (by decide) rfl ?_
  intro p e s m args below meth c s₁ B hml hv
  obtain ⟨rfl, hst⟩ := hv
  have hx := B.exec
  have hb := B.bytes
  have hr := B.returns
  have hts0 := atoms_spec (ws := wMt yS_coder bS_coder 1 (some .byte)) B.pre
  have hts : ∀ w ∈ LW, w.before _ s = true := fun w hw => hts0 w (List.mem_cons_of_mem _ hw)
  have hown : s.vm.findClass "java/lang/String" = some m.cls := findClass_of_methodNamed B.named
  have hlocks := B.notSynchronized
  have hS : va_S noA s.heap s.heap [] := va_S.rf
  have hl := lv_entry ([.ref a0]) (n := 1) (Nat.le_of_ble_eq_true rfl)
  rw [lg_entry_eq]
  generalize (lg_sl ([.ref a0]) ++ List.replicate (1 - (lg_sl ([.ref a0])).length) Slot.unset).toArray = ls at hl ⊢
  have hl : lv_has ls 1 [(0, .ref a0)] := hl
  have hst9 := hst
  obtain ⟨⟨hO, hC, t, hV, hT⟩, hw2, hw3⟩ := hst9
  refine va_gets hx hb hw2 (sNo hS) hown (hts _ fS38) (fun _ h9 => h9) dS_coder_0 ?_
  refine lv_if_eq (tgt := 13) hx hb dS_coder_3 (by decide) (fun h => absurd h (by decide)) (fun _ => ?_)
  refine lv_aload_n hx hb dS_coder_6 rfl (lv_at hl 0 rfl) ?_
  refine vk_getf hx hb hC (sNo hS) hown (hts _ fS15) (fun _ h9 => h9) dS_coder_7 ?_
  refine lv_goto (tgt := 14) hx hb dS_coder_10 (by decide) ?_
  exact W.zret (v := 0) (ty := .byte) hx hb hr (by decide) (fun t ht hW => ⟨⟨0, (), rfl, rfl, trivial⟩, hS.F ht⟩) hS.2.2 dS_coder_14
set_option maxRecDepth 100000 in
theorem m_len {l : Launch} {wd : List Int} {a0 : Nat} {Aw : Nat → Prop} (hw0 : okW wd) : Met l yS_len (wMt yS_len bS_len 1 (some .int)) ({ frames := 1, cells := 0, slots := 0, locals := 20 }) (va_Pc [.ref a0] (stP wd a0 Aw)) (QI (Int32.ofNat wd.length)) 0 0 noA := by
  refine Met.ofW (cc := bS_len) (maxL := 1) (ret := (some .int)) (by decide) rfl ?_
  intro p e s m args below meth c s₁ B hml hv
  obtain ⟨rfl, hst⟩ := hv
  have hx := B.exec
  have hb := B.bytes
  have hr := B.returns
  have hts0 := atoms_spec (ws := wMt yS_len bS_len 1 (some .int)) B.pre
  have hts : ∀ w ∈ LW, w.before _ s = true := fun w hw => hts0 w (List.mem_cons_of_mem _ hw)
  have hown : s.vm.findClass "java/lang/String" = some m.cls := findClass_of_methodNamed B.named
  have hlocks := B.notSynchronized
  have hS : va_S noA s.heap s.heap [] := va_S.rf
  have hl := lv_entry ([.ref a0]) (n := 1) (Nat.le_of_ble_eq_true rfl)
  rw [lg_entry_eq]
  generalize (lg_sl ([.ref a0]) ++ List.replicate (1 - (lg_sl ([.ref a0])).length) Slot.unset).toArray = ls at hl ⊢
  have hl : lv_has ls 1 [(0, .ref a0)] := hl
  have hst9 := hst
  obtain ⟨⟨hO, hC, t, hV, hT⟩, hw2, hw3⟩ := hst9
  refine lv_aload_n hx hb dS_len_0 rfl (lv_at hl 0 rfl) ?_
  refine vk_getf hx hb hV (sNo hS) hown (hts _ fS9) (fun _ h9 => h9) dS_len_1 ?_
  refine va_tlen hx hb hT (sNo hS) (v := Int32.ofNat wd.length) rfl dS_len_4 ?_
  refine lv_aload_n hx hb dS_len_5 rfl (lv_at hl 0 rfl) ?_
  refine va_calli (va_runV (As := []) (rest := [.int (Int32.ofNat wd.length)]) ⟨hx, hb, hml, hown, hts⟩ (m_coder (wd := wd) (a0 := a0) (Aw := Aw) hw0) (cwV 0 hts (wsV_good kS_coder iS_coder sS_coder inS cS_coder) rfl rfl rfl (by decide +kernel) ⟨Nat.le_of_ble_eq_true rfl, Nat.le_of_ble_eq_true rfl⟩) ⟨stP.blind, (by obtain ⟨cell, q1, q2, q3, -⟩ := hO.kept (sNo (A := Aw) hS).2.1; exact ⟨cell, q1, q2, q3⟩), fun U hU hW => ⟨rfl, hst.mv hS hU hW.alike⟩⟩ rfl rfl hl.1 rfl (lv_room (Nat.le_of_ble_eq_true rfl)) dS_len_6 ⟨Nat.le_of_ble_eq_true rfl, Nat.le_of_ble_eq_true rfl⟩) hS (fun q _ h => h.elim) (fun q h => h.elim) (fun r u tt H1 locs1 ht hvm hw hB hz1 hk1 hS => ?_)
  rw [hw]
  refine lv_ishr hx hb dS_len_9 ?_
  exact W.iret (v := Int32.ofNat wd.length >>> ((0 : Int32) &&& 31)) hx hb hr (fun t ht hW => ⟨⟨_, (), rfl, okW_shr hw0, trivial⟩, hS.F ht⟩) hS.2.2 dS_len_10
set_option maxRecDepth 100000 in
theorem m_lat {l : Launch} {wd : List Int} {a0 : Nat} {Aw : Nat → Prop} (hw0 : okW wd) : Met l yS_lat (wMt yS_lat bS_lat 1 (some .boolean)) ({ frames := 0, cells := 0, slots := 0, locals := 0 }) (va_Pc [.ref a0] (stP wd a0 Aw)) (QI 1) 0 0 noA := by
  refine Met.ofW (cc := bS_lat) (maxL := 1) (ret := (some .boolean)) (by decide) rfl ?_
  intro p e s m args below meth c s₁ B hml hv
  obtain ⟨rfl, hst⟩ := hv
  have hx := B.exec
  have hb := B.bytes
  have hr := B.returns
  have hts0 := atoms_spec (ws := wMt yS_lat bS_lat 1 (some .boolean)) B.pre
  have hts : ∀ w ∈ LW, w.before _ s = true := fun w hw => hts0 w (List.mem_cons_of_mem _ hw)
  have hown : s.vm.findClass "java/lang/String" = some m.cls := findClass_of_methodNamed B.named
  have hlocks := B.notSynchronized
  have hS : va_S noA s.heap s.heap [] := va_S.rf
  have hl := lv_entry ([.ref a0]) (n := 1) (Nat.le_of_ble_eq_true rfl)
  rw [lg_entry_eq]
  generalize (lg_sl ([.ref a0]) ++ List.replicate (1 - (lg_sl ([.ref a0])).length) Slot.unset).toArray = ls at hl ⊢
  have hl : lv_has ls 1 [(0, .ref a0)] := hl
  have hst9 := hst
  obtain ⟨⟨hO, hC, t, hV, hT⟩, hw2, hw3⟩ := hst9
  refine va_gets hx hb hw2 (sNo hS) hown (hts _ fS38) (fun _ h9 => h9) dS_lat_0 ?_
  refine lv_if_eq (tgt := 17) hx hb dS_lat_3 (by decide) (fun h => absurd h (by decide)) (fun _ => ?_)
  refine lv_aload_n hx hb dS_lat_6 rfl (lv_at hl 0 rfl) ?_
  refine vk_getf hx hb hC (sNo hS) hown (hts _ fS15) (fun _ h9 => h9) dS_lat_7 ?_
  refine lv_if_ne (tgt := 17) hx hb dS_lat_10 (by decide) (fun h => absurd rfl h) (fun _ => ?_)
  refine lv_iconst (v := 1) hx hb dS_lat_13 (by decide) ?_
  refine lv_goto (tgt := 18) hx hb dS_lat_14 (by decide) ?_
  exact W.zret (v := 1) (ty := .boolean) hx hb hr (by decide) (fun t ht hW => ⟨⟨1, (), rfl, rfl, trivial⟩, hS.F ht⟩) hS.2.2 dS_lat_18
set_option maxRecDepth 100000 in
theorem m_pci0 {l : Launch} {wd : List Int} {a0 : Nat} {Aw : Nat → Prop} {i n : Int} (hi : 0 ≤ i ∧ i < n) (hn : n < 2147483648) : Met l yS_pci (wMt yS_pci bS_pci 3 (some .int)) ({ frames := 0, cells := 0, slots := 0, locals := 0 }) (va_Pc [.int (Int32.ofInt i), .int (Int32.ofInt n), .null] (stP wd a0 Aw)) (QI (Int32.ofInt i)) 0 0 noA := by
  refine Met.ofW (cc := bS_pci) (maxL := 3) (ret := (some .int)) (by decide) rfl ?_
  intro p e s m args below meth c s₁ B hml hv
  obtain ⟨rfl, hst⟩ := hv
  have hx := B.exec
  have hb := B.bytes
  have hr := B.returns
  have hts0 := atoms_spec (ws := wMt yS_pci bS_pci 3 (some .int)) B.pre
  have hts : ∀ w ∈ LW, w.before _ s = true := fun w hw => hts0 w (List.mem_cons_of_mem _ hw)
  have hown : s.vm.findClass "jdk/internal/util/Preconditions" = some m.cls := findClass_of_methodNamed B.named
  have hlocks := B.notSynchronized
  have hS : va_S noA s.heap s.heap [] := va_S.rf
  have hl := lv_entry ([.int (Int32.ofInt i), .int (Int32.ofInt n), .null]) (n := 3) (Nat.le_of_ble_eq_true rfl)
  rw [lg_entry_eq]
  generalize (lg_sl ([.int (Int32.ofInt i), .int (Int32.ofInt n), .null]) ++ List.replicate (3 - (lg_sl ([.int (Int32.ofInt i), .int (Int32.ofInt n), .null])).length) Slot.unset).toArray = ls at hl ⊢
  have hl : lv_has ls 3 [(0, .int (Int32.ofInt i)), (1, .int (Int32.ofInt n)), (2, .null)] := hl
  refine lv_iload_n hx hb dS_pci_0 rfl (lv_at hl 0 rfl) ?_
  refine lv_if_lt (tgt := 9) hx hb dS_pci_1 (by decide) (fun h => absurd h (oI_nn ⟨by omega, by omega⟩)) (fun _ => ?_)
  refine lv_iload_n hx hb dS_pci_4 rfl (lv_at hl 0 rfl) ?_
  refine lv_iload_n hx hb dS_pci_5 rfl (lv_at hl 1 rfl) ?_
  refine lv_icmp_lt (tgt := 16) hx hb dS_pci_6 (by decide) (fun _ => ?_) (fun h => absurd ((z32_lt (x := i) (y := n) ⟨by omega, by omega⟩ ⟨by omega, by omega⟩).mpr hi.2) h)
  refine lv_iload_n hx hb dS_pci_16 rfl (lv_at hl 0 rfl) ?_
  exact W.iret (v := Int32.ofInt i) hx hb hr (fun t ht hW => ⟨⟨_, (), rfl, rfl, trivial⟩, hS.F ht⟩) hS.2.2 dS_pci_17
set_option maxRecDepth 100000 in
theorem m_pci1 {l : Launch} {wd : List Int} {a0 : Nat} {Aw : Nat → Prop} {f : Nat} {i n : Int} (hi : 0 ≤ i ∧ i < n) (hn : n < 2147483648) : Met l yS_pci (wMt yS_pci bS_pci 3 (some .int)) ({ frames := 0, cells := 0, slots := 0, locals := 0 }) (va_Pc [.int (Int32.ofInt i), .int (Int32.ofInt n), .ref f] (stP wd a0 Aw)) (QI (Int32.ofInt i)) 0 0 noA := by
  refine Met.ofW (cc := bS_pci) (maxL := 3) (ret := (some .int)) (by decide) rfl ?_
  intro p e s m args below meth c s₁ B hml hv
  obtain ⟨rfl, hst⟩ := hv
  have hx := B.exec
  have hb := B.bytes
  have hr := B.returns
  have hts0 := atoms_spec (ws := wMt yS_pci bS_pci 3 (some .int)) B.pre
  have hts : ∀ w ∈ LW, w.before _ s = true := fun w hw => hts0 w (List.mem_cons_of_mem _ hw)
  have hown : s.vm.findClass "jdk/internal/util/Preconditions" = some m.cls := findClass_of_methodNamed B.named
  have hlocks := B.notSynchronized
  have hS : va_S noA s.heap s.heap [] := va_S.rf
  have hl := lv_entry ([.int (Int32.ofInt i), .int (Int32.ofInt n), .ref f]) (n := 3) (Nat.le_of_ble_eq_true rfl)
  rw [lg_entry_eq]
  generalize (lg_sl ([.int (Int32.ofInt i), .int (Int32.ofInt n), .ref f]) ++ List.replicate (3 - (lg_sl ([.int (Int32.ofInt i), .int (Int32.ofInt n), .ref f])).length) Slot.unset).toArray = ls at hl ⊢
  have hl : lv_has ls 3 [(0, .int (Int32.ofInt i)), (1, .int (Int32.ofInt n)), (2, .ref f)] := hl
  refine lv_iload_n hx hb dS_pci_0 rfl (lv_at hl 0 rfl) ?_
  refine lv_if_lt (tgt := 9) hx hb dS_pci_1 (by decide) (fun h => absurd h (oI_nn ⟨by omega, by omega⟩)) (fun _ => ?_)
  refine lv_iload_n hx hb dS_pci_4 rfl (lv_at hl 0 rfl) ?_
  refine lv_iload_n hx hb dS_pci_5 rfl (lv_at hl 1 rfl) ?_
  refine lv_icmp_lt (tgt := 16) hx hb dS_pci_6 (by decide) (fun _ => ?_) (fun h => absurd ((z32_lt (x := i) (y := n) ⟨by omega, by omega⟩ ⟨by omega, by omega⟩).mpr hi.2) h)
  refine lv_iload_n hx hb dS_pci_16 rfl (lv_at hl 0 rfl) ?_
  exact W.iret (v := Int32.ofInt i) hx hb hr (fun t ht hW => ⟨⟨_, (), rfl, rfl, trivial⟩, hS.F ht⟩) hS.2.2 dS_pci_17
set_option maxRecDepth 100000 in
theorem m_cki {l : Launch} {wd : List Int} {a0 : Nat} {Aw : Nat → Prop} {i n : Int} (hi : 0 ≤ i ∧ i < n) (hn : n < 2147483648) : Met l yS_cki (wMt yS_cki bS_cki 2 none) ({ frames := 1, cells := 0, slots := 0, locals := 22 }) (va_Pc [.int (Int32.ofInt i), .int (Int32.ofInt n)] (stP wd a0 Aw)) (va_Qv (fun (_ : Unit) => True) (fun _ _ => True) noA) 0 0 noA := by
  refine Met.ofW (cc := bS_cki) (maxL := 2) (ret := none) (by decide) rfl ?_
  intro p e s m args below meth c s₁ B hml hv
  obtain ⟨rfl, hst⟩ := hv
  have hx := B.exec
  have hb := B.bytes
  have hr := B.returns
  have hts0 := atoms_spec (ws := wMt yS_cki bS_cki 2 none) B.pre
  have hts : ∀ w ∈ LW, w.before _ s = true := fun w hw => hts0 w (List.mem_cons_of_mem _ hw)
  have hown : s.vm.findClass "java/lang/String" = some m.cls := findClass_of_methodNamed B.named
  have hlocks := B.notSynchronized
  have hS : va_S noA s.heap s.heap [] := va_S.rf
  have hl := lv_entry ([.int (Int32.ofInt i), .int (Int32.ofInt n)]) (n := 2) (Nat.le_of_ble_eq_true rfl)
  rw [lg_entry_eq]
  generalize (lg_sl ([.int (Int32.ofInt i), .int (Int32.ofInt n)]) ++ List.replicate (2 - (lg_sl ([.int (Int32.ofInt i), .int (Int32.ofInt n)])).length) Slot.unset).toArray = ls at hl ⊢
  have hl : lv_has ls 2 [(0, .int (Int32.ofInt i)), (1, .int (Int32.ofInt n))] := hl
  refine lv_iload_n hx hb dS_cki_0 rfl (lv_at hl 0 rfl) ?_
  refine lv_iload_n hx hb dS_cki_1 rfl (lv_at hl 1 rfl) ?_
  rcases hst.2.2 with hz | ⟨f, hz⟩
  · refine va_gets hx hb hz (sNo hS) hown (hts _ fS1053) (fun _ h9 => h9) dS_cki_2 ?_
    refine va_calli (va_runS (As := [.int (Int32.ofInt i), .int (Int32.ofInt n), .null]) (rest := []) ⟨hx, hb, hml, hown, hts⟩ (m_pci0 (wd := wd) (a0 := a0) (Aw := Aw) hi hn) (va_cwS 3 hts (wsT_good kS_pci iS_pci inP cS_pci) rfl rfl rfl (by decide +kernel) ⟨Nat.le_of_ble_eq_true rfl, Nat.le_of_ble_eq_true rfl⟩) ⟨stP.blind, fun U hU hW => ⟨rfl, hst.mv hS hU hW.alike⟩⟩ rfl rfl hl.1 rfl (lv_room (Nat.le_of_ble_eq_true rfl)) dS_cki_5 ⟨Nat.le_of_ble_eq_true rfl, Nat.le_of_ble_eq_true rfl⟩) hS (fun q _ h => h.elim) (fun q h => h.elim) (fun r u tt H1 locs1 ht hvm hw hB hz1 hk1 hS => ?_)
    refine lv_pop hx hb dS_cki_8 rfl ?_
    exact W.vret hx hb hr (fun t ht hW => ⟨⟨(), rfl, trivial, trivial⟩, hS.F ht⟩) hS.2.2 dS_cki_9
  · refine va_gets hx hb hz (sNo hS) hown (hts _ fS1053) (fun _ h9 => h9) dS_cki_2 ?_
    refine va_calli (va_runS (As := [.int (Int32.ofInt i), .int (Int32.ofInt n), .ref f]) (rest := []) ⟨hx, hb, hml, hown, hts⟩ (m_pci1 (wd := wd) (a0 := a0) (Aw := Aw) hi hn) (va_cwS 3 hts (wsT_good kS_pci iS_pci inP cS_pci) rfl rfl rfl (by decide +kernel) ⟨Nat.le_of_ble_eq_true rfl, Nat.le_of_ble_eq_true rfl⟩) ⟨stP.blind, fun U hU hW => ⟨rfl, hst.mv hS hU hW.alike⟩⟩ rfl rfl hl.1 rfl (lv_room (Nat.le_of_ble_eq_true rfl)) dS_cki_5 ⟨Nat.le_of_ble_eq_true rfl, Nat.le_of_ble_eq_true rfl⟩) hS (fun q _ h => h.elim) (fun q h => h.elim) (fun r u tt H1 locs1 ht hvm hw hB hz1 hk1 hS => ?_)
    refine lv_pop hx hb dS_cki_8 rfl ?_
    exact W.vret hx hb hr (fun t ht hW => ⟨⟨(), rfl, trivial, trivial⟩, hS.F ht⟩) hS.2.2 dS_cki_9
set_option maxRecDepth 100000 in
theorem m_lch {l : Launch} {wd : List Int} {a0 : Nat} {Aw : Nat → Prop} {t i : Nat} (hw0 : okW wd) (hi : i < wd.length) : Met l yS_lch (wMt yS_lch bS_lch 2 (some .char)) ({ frames := 2, cells := 0, slots := 0, locals := 43 }) (va_Pc [.ref t, .int (Int32.ofInt (i : Int))] (stT wd a0 Aw t)) (QI (Int32.ofInt (wd.getD i 0))) 0 0 noA := by
  refine Met.ofW (cc := bS_lch) (maxL := 2) (ret := (some .char)) (by decide) rfl ?_
  intro p e s m args below meth c s₁ B hml hv
  obtain ⟨rfl, hst⟩ := hv
  have hx := B.exec
  have hb := B.bytes
  have hr := B.returns
  have hts0 := atoms_spec (ws := wMt yS_lch bS_lch 2 (some .char)) B.pre
  have hts : ∀ w ∈ LW, w.before _ s = true := fun w hw => hts0 w (List.mem_cons_of_mem _ hw)
  have hown : s.vm.findClass "java/lang/StringLatin1" = some m.cls := findClass_of_methodNamed B.named
  have hlocks := B.notSynchronized
  have hS : va_S noA s.heap s.heap [] := va_S.rf
  have hl := lv_entry ([.ref t, .int (Int32.ofInt (i : Int))]) (n := 2) (Nat.le_of_ble_eq_true rfl)
  rw [lg_entry_eq]
  generalize (lg_sl ([.ref t, .int (Int32.ofInt (i : Int))]) ++ List.replicate (2 - (lg_sl ([.ref t, .int (Int32.ofInt (i : Int))])).length) Slot.unset).toArray = ls at hl ⊢
  have hl : lv_has ls 2 [(0, .ref t), (1, .int (Int32.ofInt (i : Int)))] := hl
  have h7 := hw0.1
  have hT := hst.2
  refine lv_iload_n hx hb dS_lch_0 rfl (lv_at hl 1 rfl) ?_
  refine lv_aload_n hx hb dS_lch_1 rfl (lv_at hl 0 rfl) ?_
  refine va_tlen hx hb hT (sNo hS) (v := Int32.ofInt (wd.length : Int)) Int32.ofInt_eq_ofNat.symm dS_lch_2 ?_
  refine va_callv (va_runS (As := [.int (Int32.ofInt (i : Int)), .int (Int32.ofInt (wd.length : Int))]) (rest := []) ⟨hx, hb, hml, hown, hts⟩ (m_cki (wd := wd) (a0 := a0) (Aw := Aw) (i := (i : Int)) (n := (wd.length : Int)) ⟨by omega, by omega⟩ (by omega)) (va_cwS 2 hts (wsT_good kS_cki iS_cki inS cS_cki) rfl rfl rfl (by decide +kernel) ⟨Nat.le_of_ble_eq_true rfl, Nat.le_of_ble_eq_true rfl⟩) ⟨stP.blind, fun U hU hW => ⟨rfl, hst.1.mv hS hU hW.alike⟩⟩ rfl rfl hl.1 rfl (lv_room (Nat.le_of_ble_eq_true rfl)) dS_lch_3 ⟨Nat.le_of_ble_eq_true rfl, Nat.le_of_ble_eq_true rfl⟩) hS (fun q _ h => h.elim) (fun q h => h.elim) (fun u tt H1 locs1 ht hvm hw hB hz1 hk1 hS => ?_)
  refine lv_aload_n hx hb dS_lch_6 rfl (lv_at hl 0 rfl) ?_
  refine lv_iload_n hx hb dS_lch_7 rfl (lv_at hl 1 rfl) ?_
  have hq := z_in (x := (i : Int)) (n := wd.length) ⟨by omega, by omega⟩ (by omega)
  refine va_tb hx hb hT (sNo hS) hq.1 (v := .int (Int32.ofInt (wd.getD i 0))) (by rw [hq.2, Int.toNat_natCast]) dS_lch_8 ?_
  refine lv_sipush (v := 255) hx hb dS_lch_9 (by decide) ?_
  refine lv_iand hx hb dS_lch_12 ?_
  obtain ⟨g1, g2, -⟩ := okW_all hw0 _ (okW_at hi)
  refine lv_i2c (v := Int32.ofInt (wd.getD i 0)) hx hb dS_lch_13 g1 ?_
  exact W.zret (v := Int32.ofInt (wd.getD i 0)) (ty := .char) hx hb hr g2 (fun t ht hW => ⟨⟨_, (), rfl, rfl, trivial⟩, hS.F ht⟩) hS.2.2 dS_lch_14
set_option maxRecDepth 100000 in
theorem m_chr {l : Launch} {wd : List Int} {a0 : Nat} {Aw : Nat → Prop} {i : Nat} (hw0 : okW wd) (hi : i < wd.length) : Met l yS_chr (wMt yS_chr bS_chr 2 (some .char)) ({ frames := 3, cells := 0, slots := 0, locals := 64 }) (va_Pc [.ref a0, .int (Int32.ofInt (i : Int))] (stP wd a0 Aw)) (QI (Int32.ofInt (wd.getD i 0))) 0 0 noA := by
  refine Met.ofW (cc := bS_chr) (maxL := 2) (ret := (some .char)) (by decide) rfl ?_
  intro p e s m args below meth c s₁ B hml hv
  obtain ⟨rfl, hst⟩ := hv
  have hx := B.exec
  have hb := B.bytes
  have hr := B.returns
  have hts0 := atoms_spec (ws := wMt yS_chr bS_chr 2 (some .char)) B.pre
  have hts : ∀ w ∈ LW, w.before _ s = true := fun w hw => hts0 w (List.mem_cons_of_mem _ hw)
  have hown : s.vm.findClass "java/lang/String" = some m.cls := findClass_of_methodNamed B.named
  have hlocks := B.notSynchronized
  have hS : va_S noA s.heap s.heap [] := va_S.rf
  have hl := lv_entry ([.ref a0, .int (Int32.ofInt (i : Int))]) (n := 2) (Nat.le_of_ble_eq_true rfl)
  rw [lg_entry_eq]
  generalize (lg_sl ([.ref a0, .int (Int32.ofInt (i : Int))]) ++ List.replicate (2 - (lg_sl ([.ref a0, .int (Int32.ofInt (i : Int))])).length) Slot.unset).toArray = ls at hl ⊢
  have hl : lv_has ls 2 [(0, .ref a0), (1, .int (Int32.ofInt (i : Int)))] := hl
  have hst9 := hst
  obtain ⟨⟨hO, hC, t, hV, hT⟩, hw2, hw3⟩ := hst9
  have hst2 : stT wd a0 Aw t s := ⟨hst, hT⟩
  refine lv_aload_n hx hb dS_chr_0 rfl (lv_at hl 0 rfl) ?_
  refine va_calli (va_runV (As := []) (rest := []) ⟨hx, hb, hml, hown, hts⟩ (m_lat (wd := wd) (a0 := a0) (Aw := Aw) hw0) (cwV 0 hts (wsV_good kS_lat iS_lat sS_lat inS cS_lat) rfl rfl rfl (by decide +kernel) ⟨Nat.le_of_ble_eq_true rfl, Nat.le_of_ble_eq_true rfl⟩) ⟨stP.blind, (by obtain ⟨cell, q1, q2, q3, -⟩ := hO.kept (sNo (A := Aw) hS).2.1; exact ⟨cell, q1, q2, q3⟩), fun U hU hW => ⟨rfl, hst.mv hS hU hW.alike⟩⟩ rfl rfl hl.1 rfl (lv_room (Nat.le_of_ble_eq_true rfl)) dS_chr_1 ⟨Nat.le_of_ble_eq_true rfl, Nat.le_of_ble_eq_true rfl⟩) hS (fun q _ h => h.elim) (fun q h => h.elim) (fun r u tt H1 locs1 ht hvm hw hB hz1 hk1 hS => ?_)
  rw [hw]
  refine lv_if_eq (tgt := 16) hx hb dS_chr_4 (by decide) (fun h => absurd h (by decide)) (fun _ => ?_)
  refine lv_aload_n hx hb dS_chr_7 rfl (lv_at hl 0 rfl) ?_
  refine vk_getf hx hb hV (sNo hS) hown (hts _ fS9) (fun _ h9 => h9) dS_chr_8 ?_
  refine lv_iload_n hx hb dS_chr_11 rfl (lv_at hl 1 rfl) ?_
  refine va_calli (va_runS (As := [.ref t, .int (Int32.ofInt (i : Int))]) (rest := []) ⟨hx, hb, hml, hown, hts⟩ (m_lch (wd := wd) (a0 := a0) (Aw := Aw) (t := t) hw0 hi) (va_cwS 2 hts (wsT_good kS_lch iS_lch inL cS_lch) rfl rfl rfl (by decide +kernel) ⟨Nat.le_of_ble_eq_true rfl, Nat.le_of_ble_eq_true rfl⟩) ⟨stT.blind, fun U hU hW => ⟨rfl, hst2.mv hS hU hW.alike⟩⟩ rfl rfl hl.1 rfl (lv_room (Nat.le_of_ble_eq_true rfl)) dS_chr_12 ⟨Nat.le_of_ble_eq_true rfl, Nat.le_of_ble_eq_true rfl⟩) hS (fun q _ h => h.elim) (fun q h => h.elim) (fun r u tt H1 locs1 ht hvm hw hB hz1 hk1 hS => ?_)
  obtain ⟨-, g2, -⟩ := okW_all hw0 _ (okW_at hi)
  rw [hw]
  exact W.zret (v := Int32.ofInt (wd.getD i 0)) (ty := .char) hx hb hr g2 (fun t ht hW => ⟨⟨_, (), rfl, rfl, trivial⟩, hS.F ht⟩) hS.2.2 dS_chr_15
